theorem dX0_init_0 : decode (mC mX0_init) 0 = .ok (.aload_n 0, 1) := by decide +kernel
theorem dX0_init_1 : decode (mC mX0_init) 1 = .ok (.invokespecial 3, 3) := by decide +kernel
theorem dX0_init_4 : decode (mC mX0_init) 4 = .ok (.aload_n 0, 1) := by decide +kernel
theorem dX0_init_5 : decode (mC mX0_init) 5 = .ok (.sipush 150, 3) := by decide +kernel
theorem dX0_init_8 : decode (mC mX0_init) 8 = .ok (.newarray .int, 2) := by decide +kernel
theorem dX0_init_10 : decode (mC mX0_init) 10 = .ok (.putfield 9, 3) := by decide +kernel
theorem dX0_init_13 : decode (mC mX0_init) 13 = .ok (.aload_n 0, 1) := by decide +kernel
theorem dX0_init_14 : decode (mC mX0_init) 14 = .ok (.sipush 150, 3) := by decide +kernel
theorem dX0_init_17 : decode (mC mX0_init) 17 = .ok (.newarray .int, 2) := by decide +kernel
theorem dX0_init_19 : decode (mC mX0_init) 19 = .ok (.putfield 15, 3) := by decide +kernel
theorem dX0_init_22 : decode (mC mX0_init) 22 = .ok (.aload_n 0, 1) := by decide +kernel
theorem dX0_init_23 : decode (mC mX0_init) 23 = .ok (.sipush 150, 3) := by decide +kernel
theorem dX0_init_26 : decode (mC mX0_init) 26 = .ok (.newarray .int, 2) := by decide +kernel
theorem dX0_init_28 : decode (mC mX0_init) 28 = .ok (.putfield 18, 3) := by decide +kernel
theorem dX0_init_31 : decode (mC mX0_init) 31 = .ok (.aload_n 0, 1) := by decide +kernel
theorem dX0_init_32 : decode (mC mX0_init) 32 = .ok (.sipush 150, 3) := by decide +kernel
theorem dX0_init_35 : decode (mC mX0_init) 35 = .ok (.newarray .int, 2) := by decide +kernel
theorem dX0_init_37 : decode (mC mX0_init) 37 = .ok (.putfield 21, 3) := by decide +kernel
theorem dX0_init_40 : decode (mC mX0_init) 40 = .ok (.aload_n 0, 1) := by decide +kernel
theorem dX0_init_41 : decode (mC mX0_init) 41 = .ok (.sipush 150, 3) := by decide +kernel
theorem dX0_init_44 : decode (mC mX0_init) 44 = .ok (.newarray .int, 2) := by decide +kernel
theorem dX0_init_46 : decode (mC mX0_init) 46 = .ok (.putfield 24, 3) := by decide +kernel
theorem dX0_init_49 : decode (mC mX0_init) 49 = .ok (.aload_n 0, 1) := by decide +kernel
theorem dX0_init_50 : decode (mC mX0_init) 50 = .ok (.sipush 150, 3) := by decide +kernel
theorem dX0_init_53 : decode (mC mX0_init) 53 = .ok (.newarray .int, 2) := by decide +kernel
theorem dX0_init_55 : decode (mC mX0_init) 55 = .ok (.putfield 27, 3) := by decide +kernel
theorem dX0_init_58 : decode (mC mX0_init) 58 = .ok (.aload_n 0, 1) := by decide +kernel
theorem dX0_init_59 : decode (mC mX0_init) 59 = .ok (.bipush 64, 2) := by decide +kernel
theorem dX0_init_61 : decode (mC mX0_init) 61 = .ok (.newarray .int, 2) := by decide +kernel
theorem dX0_init_63 : decode (mC mX0_init) 63 = .ok (.putfield 30, 3) := by decide +kernel
theorem dX0_init_66 : decode (mC mX0_init) 66 = .ok (.aload_n 0, 1) := by decide +kernel
theorem dX0_init_67 : decode (mC mX0_init) 67 = .ok (.bipush 6, 2) := by decide +kernel
theorem dX0_init_69 : decode (mC mX0_init) 69 = .ok (.newarray .int, 2) := by decide +kernel
theorem dX0_init_71 : decode (mC mX0_init) 71 = .ok (.putfield 33, 3) := by decide +kernel
theorem dX0_init_74 : decode (mC mX0_init) 74 = .ok (.aload_n 0, 1) := by decide +kernel
theorem dX0_init_75 : decode (mC mX0_init) 75 = .ok (.bipush 6, 2) := by decide +kernel
theorem dX0_init_77 : decode (mC mX0_init) 77 = .ok (.newarray .int, 2) := by decide +kernel
theorem dX0_init_79 : decode (mC mX0_init) 79 = .ok (.putfield 36, 3) := by decide +kernel
theorem dX0_init_82 : decode (mC mX0_init) 82 = .ok (.aload_n 0, 1) := by decide +kernel
theorem dX0_init_83 : decode (mC mX0_init) 83 = .ok (.bipush 6, 2) := by decide +kernel
theorem dX0_init_85 : decode (mC mX0_init) 85 = .ok (.newarray .int, 2) := by decide +kernel
theorem dX0_init_87 : decode (mC mX0_init) 87 = .ok (.putfield 39, 3) := by decide +kernel
theorem dX0_init_90 : decode (mC mX0_init) 90 = .ok (.aload_n 0, 1) := by decide +kernel
theorem dX0_init_91 : decode (mC mX0_init) 91 = .ok (.bipush 6, 2) := by decide +kernel
theorem dX0_init_93 : decode (mC mX0_init) 93 = .ok (.newarray .int, 2) := by decide +kernel
theorem dX0_init_95 : decode (mC mX0_init) 95 = .ok (.putfield 42, 3) := by decide +kernel
theorem dX0_init_98 : decode (mC mX0_init) 98 = .ok (.aload_n 0, 1) := by decide +kernel
theorem dX0_init_99 : decode (mC mX0_init) 99 = .ok (.bipush 6, 2) := by decide +kernel
theorem dX0_init_101 : decode (mC mX0_init) 101 = .ok (.newarray .int, 2) := by decide +kernel
theorem dX0_init_103 : decode (mC mX0_init) 103 = .ok (.putfield 45, 3) := by decide +kernel
theorem dX0_init_106 : decode (mC mX0_init) 106 = .ok (.aload_n 0, 1) := by decide +kernel
theorem dX0_init_107 : decode (mC mX0_init) 107 = .ok (.bipush 6, 2) := by decide +kernel
theorem dX0_init_109 : decode (mC mX0_init) 109 = .ok (.newarray .int, 2) := by decide +kernel
theorem dX0_init_111 : decode (mC mX0_init) 111 = .ok (.putfield 48, 3) := by decide +kernel
theorem dX0_init_114 : decode (mC mX0_init) 114 = .ok (.return_, 1) := by decide +kernel
theorem dX0_lay_0 : decode (mC mX0_lay) 0 = .ok (.aload_n 0, 1) := by decide +kernel
theorem dX0_lay_1 : decode (mC mX0_lay) 1 = .ok (.invokevirtual 51, 3) := by decide +kernel
theorem dX0_lay_4 : decode (mC mX0_lay) 4 = .ok (.aload_n 0, 1) := by decide +kernel
theorem dX0_lay_5 : decode (mC mX0_lay) 5 = .ok (.getfield 39, 3) := by decide +kernel
theorem dX0_lay_8 : decode (mC mX0_lay) 8 = .ok (.iconst 0, 1) := by decide +kernel
theorem dX0_lay_9 : decode (mC mX0_lay) 9 = .ok (.invokestatic 54, 3) := by decide +kernel
theorem dX0_lay_12 : decode (mC mX0_lay) 12 = .ok (.aload_n 0, 1) := by decide +kernel
theorem dX0_lay_13 : decode (mC mX0_lay) 13 = .ok (.getfield 42, 3) := by decide +kernel
theorem dX0_lay_16 : decode (mC mX0_lay) 16 = .ok (.iconst 0, 1) := by decide +kernel
theorem dX0_lay_17 : decode (mC mX0_lay) 17 = .ok (.invokestatic 54, 3) := by decide +kernel
theorem dX0_lay_20 : decode (mC mX0_lay) 20 = .ok (.aload_n 0, 1) := by decide +kernel
theorem dX0_lay_21 : decode (mC mX0_lay) 21 = .ok (.getfield 45, 3) := by decide +kernel
theorem dX0_lay_24 : decode (mC mX0_lay) 24 = .ok (.iconst 0, 1) := by decide +kernel
theorem dX0_lay_25 : decode (mC mX0_lay) 25 = .ok (.invokestatic 54, 3) := by decide +kernel
theorem dX0_lay_28 : decode (mC mX0_lay) 28 = .ok (.aload_n 0, 1) := by decide +kernel
theorem dX0_lay_29 : decode (mC mX0_lay) 29 = .ok (.getfield 48, 3) := by decide +kernel
theorem dX0_lay_32 : decode (mC mX0_lay) 32 = .ok (.iconst 0, 1) := by decide +kernel
theorem dX0_lay_33 : decode (mC mX0_lay) 33 = .ok (.invokestatic 54, 3) := by decide +kernel
theorem dX0_lay_36 : decode (mC mX0_lay) 36 = .ok (.iconst 0, 1) := by decide +kernel
theorem dX0_lay_37 : decode (mC mX0_lay) 37 = .ok (.istore_n 3, 1) := by decide +kernel
theorem dX0_lay_38 : decode (mC mX0_lay) 38 = .ok (.iload_n 3, 1) := by decide +kernel
theorem dX0_lay_39 : decode (mC mX0_lay) 39 = .ok (.aload_n 1, 1) := by decide +kernel
theorem dX0_lay_40 : decode (mC mX0_lay) 40 = .ok (.getfield 60, 3) := by decide +kernel
theorem dX0_lay_43 : decode (mC mX0_lay) 43 = .ok (.if_icmp .ge 22, 3) := by decide +kernel
theorem dX0_lay_46 : decode (mC mX0_lay) 46 = .ok (.aload_n 0, 1) := by decide +kernel
theorem dX0_lay_47 : decode (mC mX0_lay) 47 = .ok (.getfield 36, 3) := by decide +kernel
theorem dX0_lay_50 : decode (mC mX0_lay) 50 = .ok (.iload_n 3, 1) := by decide +kernel
theorem dX0_lay_51 : decode (mC mX0_lay) 51 = .ok (.aload_n 1, 1) := by decide +kernel
theorem dX0_lay_52 : decode (mC mX0_lay) 52 = .ok (.iload_n 3, 1) := by decide +kernel
theorem dX0_lay_53 : decode (mC mX0_lay) 53 = .ok (.invokevirtual 66, 3) := by decide +kernel
theorem dX0_lay_56 : decode (mC mX0_lay) 56 = .ok (.invokestatic 70, 3) := by decide +kernel
theorem dX0_lay_59 : decode (mC mX0_lay) 59 = .ok (.iinc 3 1, 3) := by decide +kernel
theorem dX0_lay_62 : decode (mC mX0_lay) 62 = .ok (.goto (-24), 3) := by decide +kernel
theorem dX0_lay_65 : decode (mC mX0_lay) 65 = .ok (.iconst 0, 1) := by decide +kernel
theorem dX0_lay_66 : decode (mC mX0_lay) 66 = .ok (.istore_n 3, 1) := by decide +kernel
theorem dX0_lay_67 : decode (mC mX0_lay) 67 = .ok (.iload_n 3, 1) := by decide +kernel
theorem dX0_lay_68 : decode (mC mX0_lay) 68 = .ok (.iload_n 2, 1) := by decide +kernel
theorem dX0_lay_69 : decode (mC mX0_lay) 69 = .ok (.if_icmp .gt 57, 3) := by decide +kernel
theorem dX0_lay_72 : decode (mC mX0_lay) 72 = .ok (.iload_n 3, 1) := by decide +kernel
theorem dX0_lay_73 : decode (mC mX0_lay) 73 = .ok (.bipush 100, 2) := by decide +kernel
theorem dX0_lay_75 : decode (mC mX0_lay) 75 = .ok (.if_icmp .ge 51, 3) := by decide +kernel
theorem dX0_lay_78 : decode (mC mX0_lay) 78 = .ok (.aload_n 1, 1) := by decide +kernel
theorem dX0_lay_79 : decode (mC mX0_lay) 79 = .ok (.getfield 74, 3) := by decide +kernel
theorem dX0_lay_82 : decode (mC mX0_lay) 82 = .ok (.iload_n 3, 1) := by decide +kernel
theorem dX0_lay_83 : decode (mC mX0_lay) 83 = .ok (.invokestatic 77, 3) := by decide +kernel
theorem dX0_lay_86 : decode (mC mX0_lay) 86 = .ok (.iconst 1, 1) := by decide +kernel
theorem dX0_lay_87 : decode (mC mX0_lay) 87 = .ok (.if_icmp .ne 7, 3) := by decide +kernel
theorem dX0_lay_90 : decode (mC mX0_lay) 90 = .ok (.aload_n 0, 1) := by decide +kernel
theorem dX0_lay_91 : decode (mC mX0_lay) 91 = .ok (.invokevirtual 51, 3) := by decide +kernel
theorem dX0_lay_94 : decode (mC mX0_lay) 94 = .ok (.iconst 0, 1) := by decide +kernel
theorem dX0_lay_95 : decode (mC mX0_lay) 95 = .ok (.istore 4, 2) := by decide +kernel
theorem dX0_lay_97 : decode (mC mX0_lay) 97 = .ok (.iload 4, 2) := by decide +kernel
theorem dX0_lay_99 : decode (mC mX0_lay) 99 = .ok (.aload_n 1, 1) := by decide +kernel
theorem dX0_lay_100 : decode (mC mX0_lay) 100 = .ok (.getfield 60, 3) := by decide +kernel
theorem dX0_lay_103 : decode (mC mX0_lay) 103 = .ok (.if_icmp .ge 17, 3) := by decide +kernel
theorem dX0_lay_106 : decode (mC mX0_lay) 106 = .ok (.aload_n 0, 1) := by decide +kernel
theorem dX0_lay_107 : decode (mC mX0_lay) 107 = .ok (.aload_n 1, 1) := by decide +kernel
theorem dX0_lay_108 : decode (mC mX0_lay) 108 = .ok (.iload 4, 2) := by decide +kernel
theorem dX0_lay_110 : decode (mC mX0_lay) 110 = .ok (.iload_n 3, 1) := by decide +kernel
theorem dX0_lay_111 : decode (mC mX0_lay) 111 = .ok (.invokevirtual 81, 3) := by decide +kernel
theorem dX0_lay_114 : decode (mC mX0_lay) 114 = .ok (.iinc 4 1, 3) := by decide +kernel
theorem dX0_lay_117 : decode (mC mX0_lay) 117 = .ok (.goto (-20), 3) := by decide +kernel
theorem dX0_lay_120 : decode (mC mX0_lay) 120 = .ok (.iinc 3 1, 3) := by decide +kernel
theorem dX0_lay_123 : decode (mC mX0_lay) 123 = .ok (.goto (-56), 3) := by decide +kernel
theorem dX0_lay_126 : decode (mC mX0_lay) 126 = .ok (.return_, 1) := by decide +kernel
theorem dX0_wash_0 : decode (mC mX0_wash) 0 = .ok (.aload_n 0, 1) := by decide +kernel
theorem dX0_wash_1 : decode (mC mX0_wash) 1 = .ok (.iconst 0, 1) := by decide +kernel
theorem dX0_wash_2 : decode (mC mX0_wash) 2 = .ok (.putfield 85, 3) := by decide +kernel
theorem dX0_wash_5 : decode (mC mX0_wash) 5 = .ok (.aload_n 0, 1) := by decide +kernel
theorem dX0_wash_6 : decode (mC mX0_wash) 6 = .ok (.getfield 30, 3) := by decide +kernel
theorem dX0_wash_9 : decode (mC mX0_wash) 9 = .ok (.iconst (-1), 1) := by decide +kernel
theorem dX0_wash_10 : decode (mC mX0_wash) 10 = .ok (.invokestatic 54, 3) := by decide +kernel
theorem dX0_wash_13 : decode (mC mX0_wash) 13 = .ok (.return_, 1) := by decide +kernel
theorem dX0_goOn_0 : decode (mC mX0_goOn) 0 = .ok (.aload_n 1, 1) := by decide +kernel
theorem dX0_goOn_1 : decode (mC mX0_goOn) 1 = .ok (.iload_n 2, 1) := by decide +kernel
theorem dX0_goOn_2 : decode (mC mX0_goOn) 2 = .ok (.invokevirtual 88, 3) := by decide +kernel
theorem dX0_goOn_5 : decode (mC mX0_goOn) 5 = .ok (.astore 4, 2) := by decide +kernel
theorem dX0_goOn_7 : decode (mC mX0_goOn) 7 = .ok (.aload 4, 2) := by decide +kernel
theorem dX0_goOn_9 : decode (mC mX0_goOn) 9 = .ok (.ifnull 20, 3) := by decide +kernel
theorem dX0_goOn_12 : decode (mC mX0_goOn) 12 = .ok (.aload 4, 2) := by decide +kernel
theorem dX0_goOn_14 : decode (mC mX0_goOn) 14 = .ok (.getfield 92, 3) := by decide +kernel
theorem dX0_goOn_17 : decode (mC mX0_goOn) 17 = .ok (.iconst 2, 1) := by decide +kernel
theorem dX0_goOn_18 : decode (mC mX0_goOn) 18 = .ok (.if_icmp .eq 11, 3) := by decide +kernel
theorem dX0_goOn_21 : decode (mC mX0_goOn) 21 = .ok (.aload 4, 2) := by decide +kernel
theorem dX0_goOn_23 : decode (mC mX0_goOn) 23 = .ok (.invokevirtual 97, 3) := by decide +kernel
theorem dX0_goOn_26 : decode (mC mX0_goOn) 26 = .ok (.ifCond .ne 4, 3) := by decide +kernel
theorem dX0_goOn_29 : decode (mC mX0_goOn) 29 = .ok (.return_, 1) := by decide +kernel
theorem dX0_goOn_30 : decode (mC mX0_goOn) 30 = .ok (.iload_n 3, 1) := by decide +kernel
theorem dX0_goOn_31 : decode (mC mX0_goOn) 31 = .ok (.aload 4, 2) := by decide +kernel
theorem dX0_goOn_33 : decode (mC mX0_goOn) 33 = .ok (.getfield 101, 3) := by decide +kernel
theorem dX0_goOn_36 : decode (mC mX0_goOn) 36 = .ok (.isub, 1) := by decide +kernel
theorem dX0_goOn_37 : decode (mC mX0_goOn) 37 = .ok (.istore 5, 2) := by decide +kernel
theorem dX0_goOn_39 : decode (mC mX0_goOn) 39 = .ok (.iload 5, 2) := by decide +kernel
theorem dX0_goOn_41 : decode (mC mX0_goOn) 41 = .ok (.ifCond .lt 13, 3) := by decide +kernel
theorem dX0_goOn_44 : decode (mC mX0_goOn) 44 = .ok (.iload 5, 2) := by decide +kernel
theorem dX0_goOn_46 : decode (mC mX0_goOn) 46 = .ok (.aload 4, 2) := by decide +kernel
theorem dX0_goOn_48 : decode (mC mX0_goOn) 48 = .ok (.getfield 104, 3) := by decide +kernel
theorem dX0_goOn_51 : decode (mC mX0_goOn) 51 = .ok (.if_icmp .le 4, 3) := by decide +kernel
theorem dX0_goOn_54 : decode (mC mX0_goOn) 54 = .ok (.return_, 1) := by decide +kernel
theorem dX0_goOn_55 : decode (mC mX0_goOn) 55 = .ok (.iload 5, 2) := by decide +kernel
theorem dX0_goOn_57 : decode (mC mX0_goOn) 57 = .ok (.ifCond .ne 11, 3) := by decide +kernel
theorem dX0_goOn_60 : decode (mC mX0_goOn) 60 = .ok (.aload 4, 2) := by decide +kernel
theorem dX0_goOn_62 : decode (mC mX0_goOn) 62 = .ok (.getfield 107, 3) := by decide +kernel
theorem dX0_goOn_65 : decode (mC mX0_goOn) 65 = .ok (.goto 27, 3) := by decide +kernel
theorem dX0_goOn_68 : decode (mC mX0_goOn) 68 = .ok (.aload_n 1, 1) := by decide +kernel
theorem dX0_goOn_69 : decode (mC mX0_goOn) 69 = .ok (.aload_n 0, 1) := by decide +kernel
theorem dX0_goOn_70 : decode (mC mX0_goOn) 70 = .ok (.getfield 33, 3) := by decide +kernel
theorem dX0_goOn_73 : decode (mC mX0_goOn) 73 = .ok (.iload_n 2, 1) := by decide +kernel
theorem dX0_goOn_74 : decode (mC mX0_goOn) 74 = .ok (.invokestatic 77, 3) := by decide +kernel
theorem dX0_goOn_77 : decode (mC mX0_goOn) 77 = .ok (.aload 4, 2) := by decide +kernel
theorem dX0_goOn_79 : decode (mC mX0_goOn) 79 = .ok (.iload 5, 2) := by decide +kernel
theorem dX0_goOn_81 : decode (mC mX0_goOn) 81 = .ok (.invokevirtual 110, 3) := by decide +kernel
theorem dX0_goOn_84 : decode (mC mX0_goOn) 84 = .ok (.aload 4, 2) := by decide +kernel
theorem dX0_goOn_86 : decode (mC mX0_goOn) 86 = .ok (.getfield 113, 3) := by decide +kernel
theorem dX0_goOn_89 : decode (mC mX0_goOn) 89 = .ok (.invokevirtual 116, 3) := by decide +kernel
theorem dX0_goOn_92 : decode (mC mX0_goOn) 92 = .ok (.istore 6, 2) := by decide +kernel
theorem dX0_goOn_94 : decode (mC mX0_goOn) 94 = .ok (.aload_n 0, 1) := by decide +kernel
theorem dX0_goOn_95 : decode (mC mX0_goOn) 95 = .ok (.getfield 33, 3) := by decide +kernel
theorem dX0_goOn_98 : decode (mC mX0_goOn) 98 = .ok (.iload_n 2, 1) := by decide +kernel
theorem dX0_goOn_99 : decode (mC mX0_goOn) 99 = .ok (.iload 6, 2) := by decide +kernel
theorem dX0_goOn_101 : decode (mC mX0_goOn) 101 = .ok (.invokestatic 70, 3) := by decide +kernel
theorem dX0_goOn_104 : decode (mC mX0_goOn) 104 = .ok (.iload 6, 2) := by decide +kernel
theorem dX0_goOn_106 : decode (mC mX0_goOn) 106 = .ok (.iconst (-1), 1) := by decide +kernel
theorem dX0_goOn_107 : decode (mC mX0_goOn) 107 = .ok (.if_icmp .eq 69, 3) := by decide +kernel
theorem dX0_goOn_110 : decode (mC mX0_goOn) 110 = .ok (.aload 4, 2) := by decide +kernel
theorem dX0_goOn_112 : decode (mC mX0_goOn) 112 = .ok (.getfield 92, 3) := by decide +kernel
theorem dX0_goOn_115 : decode (mC mX0_goOn) 115 = .ok (.iconst 1, 1) := by decide +kernel
theorem dX0_goOn_116 : decode (mC mX0_goOn) 116 = .ok (.if_icmp .ne 8, 3) := by decide +kernel
theorem dX0_goOn_119 : decode (mC mX0_goOn) 119 = .ok (.bipush 6, 2) := by decide +kernel
theorem dX0_goOn_121 : decode (mC mX0_goOn) 121 = .ok (.goto 8, 3) := by decide +kernel
theorem dX0_goOn_124 : decode (mC mX0_goOn) 124 = .ok (.aload 4, 2) := by decide +kernel
theorem dX0_goOn_126 : decode (mC mX0_goOn) 126 = .ok (.getfield 120, 3) := by decide +kernel
theorem dX0_goOn_129 : decode (mC mX0_goOn) 129 = .ok (.istore 7, 2) := by decide +kernel
theorem dX0_goOn_131 : decode (mC mX0_goOn) 131 = .ok (.aload 4, 2) := by decide +kernel
theorem dX0_goOn_133 : decode (mC mX0_goOn) 133 = .ok (.aload_n 0, 1) := by decide +kernel
theorem dX0_goOn_134 : decode (mC mX0_goOn) 134 = .ok (.getfield 36, 3) := by decide +kernel
theorem dX0_goOn_137 : decode (mC mX0_goOn) 137 = .ok (.iload_n 2, 1) := by decide +kernel
theorem dX0_goOn_138 : decode (mC mX0_goOn) 138 = .ok (.invokestatic 77, 3) := by decide +kernel
theorem dX0_goOn_141 : decode (mC mX0_goOn) 141 = .ok (.iload 5, 2) := by decide +kernel
theorem dX0_goOn_143 : decode (mC mX0_goOn) 143 = .ok (.iconst 2, 1) := by decide +kernel
theorem dX0_goOn_144 : decode (mC mX0_goOn) 144 = .ok (.irem, 1) := by decide +kernel
theorem dX0_goOn_145 : decode (mC mX0_goOn) 145 = .ok (.invokevirtual 123, 3) := by decide +kernel
theorem dX0_goOn_148 : decode (mC mX0_goOn) 148 = .ok (.istore 8, 2) := by decide +kernel
theorem dX0_goOn_150 : decode (mC mX0_goOn) 150 = .ok (.aload_n 0, 1) := by decide +kernel
theorem dX0_goOn_151 : decode (mC mX0_goOn) 151 = .ok (.iload_n 2, 1) := by decide +kernel
theorem dX0_goOn_152 : decode (mC mX0_goOn) 152 = .ok (.iload_n 3, 1) := by decide +kernel
theorem dX0_goOn_153 : decode (mC mX0_goOn) 153 = .ok (.iload 6, 2) := by decide +kernel
theorem dX0_goOn_155 : decode (mC mX0_goOn) 155 = .ok (.iload 7, 2) := by decide +kernel
theorem dX0_goOn_157 : decode (mC mX0_goOn) 157 = .ok (.iload 5, 2) := by decide +kernel
theorem dX0_goOn_159 : decode (mC mX0_goOn) 159 = .ok (.iconst 2, 1) := by decide +kernel
theorem dX0_goOn_160 : decode (mC mX0_goOn) 160 = .ok (.irem, 1) := by decide +kernel
theorem dX0_goOn_161 : decode (mC mX0_goOn) 161 = .ok (.aload 4, 2) := by decide +kernel
theorem dX0_goOn_163 : decode (mC mX0_goOn) 163 = .ok (.iload 5, 2) := by decide +kernel
theorem dX0_goOn_165 : decode (mC mX0_goOn) 165 = .ok (.invokevirtual 110, 3) := by decide +kernel
theorem dX0_goOn_168 : decode (mC mX0_goOn) 168 = .ok (.invokestatic 127, 3) := by decide +kernel
theorem dX0_goOn_171 : decode (mC mX0_goOn) 171 = .ok (.iload 8, 2) := by decide +kernel
theorem dX0_goOn_173 : decode (mC mX0_goOn) 173 = .ok (.invokevirtual 130, 3) := by decide +kernel
theorem dX0_goOn_176 : decode (mC mX0_goOn) 176 = .ok (.return_, 1) := by decide +kernel
theorem dX0_setDown_0 : decode (mC mX0_setDown) 0 = .ok (.aload_n 0, 1) := by decide +kernel
theorem dX0_setDown_1 : decode (mC mX0_setDown) 1 = .ok (.getfield 39, 3) := by decide +kernel
theorem dX0_setDown_4 : decode (mC mX0_setDown) 4 = .ok (.iload_n 1, 1) := by decide +kernel
theorem dX0_setDown_5 : decode (mC mX0_setDown) 5 = .ok (.invokestatic 134, 3) := by decide +kernel
theorem dX0_setDown_8 : decode (mC mX0_setDown) 8 = .ok (.aload_n 0, 1) := by decide +kernel
theorem dX0_setDown_9 : decode (mC mX0_setDown) 9 = .ok (.getfield 30, 3) := by decide +kernel
theorem dX0_setDown_12 : decode (mC mX0_setDown) 12 = .ok (.iload_n 3, 1) := by decide +kernel
theorem dX0_setDown_13 : decode (mC mX0_setDown) 13 = .ok (.invokestatic 77, 3) := by decide +kernel
theorem dX0_setDown_16 : decode (mC mX0_setDown) 16 = .ok (.istore 6, 2) := by decide +kernel
theorem dX0_setDown_18 : decode (mC mX0_setDown) 18 = .ok (.iload 6, 2) := by decide +kernel
theorem dX0_setDown_20 : decode (mC mX0_setDown) 20 = .ok (.iconst (-1), 1) := by decide +kernel
theorem dX0_setDown_21 : decode (mC mX0_setDown) 21 = .ok (.if_icmp .eq 17, 3) := by decide +kernel
theorem dX0_setDown_24 : decode (mC mX0_setDown) 24 = .ok (.aload_n 0, 1) := by decide +kernel
theorem dX0_setDown_25 : decode (mC mX0_setDown) 25 = .ok (.getfield 15, 3) := by decide +kernel
theorem dX0_setDown_28 : decode (mC mX0_setDown) 28 = .ok (.iload 6, 2) := by decide +kernel
theorem dX0_setDown_30 : decode (mC mX0_setDown) 30 = .ok (.invokestatic 77, 3) := by decide +kernel
theorem dX0_setDown_33 : decode (mC mX0_setDown) 33 = .ok (.iload 4, 2) := by decide +kernel
theorem dX0_setDown_35 : decode (mC mX0_setDown) 35 = .ok (.if_icmp .eq 23, 3) := by decide +kernel
theorem dX0_setDown_38 : decode (mC mX0_setDown) 38 = .ok (.aload_n 0, 1) := by decide +kernel
theorem dX0_setDown_39 : decode (mC mX0_setDown) 39 = .ok (.getfield 42, 3) := by decide +kernel
theorem dX0_setDown_42 : decode (mC mX0_setDown) 42 = .ok (.iload_n 1, 1) := by decide +kernel
theorem dX0_setDown_43 : decode (mC mX0_setDown) 43 = .ok (.invokestatic 134, 3) := by decide +kernel
theorem dX0_setDown_46 : decode (mC mX0_setDown) 46 = .ok (.aload_n 0, 1) := by decide +kernel
theorem dX0_setDown_47 : decode (mC mX0_setDown) 47 = .ok (.iload_n 1, 1) := by decide +kernel
theorem dX0_setDown_48 : decode (mC mX0_setDown) 48 = .ok (.iload_n 2, 1) := by decide +kernel
theorem dX0_setDown_49 : decode (mC mX0_setDown) 49 = .ok (.iload_n 3, 1) := by decide +kernel
theorem dX0_setDown_50 : decode (mC mX0_setDown) 50 = .ok (.iload 4, 2) := by decide +kernel
theorem dX0_setDown_52 : decode (mC mX0_setDown) 52 = .ok (.iload 5, 2) := by decide +kernel
theorem dX0_setDown_54 : decode (mC mX0_setDown) 54 = .ok (.invokevirtual 137, 3) := by decide +kernel
theorem dX0_setDown_57 : decode (mC mX0_setDown) 57 = .ok (.return_, 1) := by decide +kernel
theorem dX0_setDown_58 : decode (mC mX0_setDown) 58 = .ok (.aload_n 0, 1) := by decide +kernel
theorem dX0_setDown_59 : decode (mC mX0_setDown) 59 = .ok (.getfield 45, 3) := by decide +kernel
theorem dX0_setDown_62 : decode (mC mX0_setDown) 62 = .ok (.iload_n 1, 1) := by decide +kernel
theorem dX0_setDown_63 : decode (mC mX0_setDown) 63 = .ok (.invokestatic 134, 3) := by decide +kernel
theorem dX0_setDown_66 : decode (mC mX0_setDown) 66 = .ok (.aload_n 0, 1) := by decide +kernel
theorem dX0_setDown_67 : decode (mC mX0_setDown) 67 = .ok (.getfield 24, 3) := by decide +kernel
theorem dX0_setDown_70 : decode (mC mX0_setDown) 70 = .ok (.iload 6, 2) := by decide +kernel
theorem dX0_setDown_72 : decode (mC mX0_setDown) 72 = .ok (.invokestatic 77, 3) := by decide +kernel
theorem dX0_setDown_75 : decode (mC mX0_setDown) 75 = .ok (.iload_n 1, 1) := by decide +kernel
theorem dX0_setDown_76 : decode (mC mX0_setDown) 76 = .ok (.if_icmp .eq 11, 3) := by decide +kernel
theorem dX0_setDown_79 : decode (mC mX0_setDown) 79 = .ok (.aload_n 0, 1) := by decide +kernel
theorem dX0_setDown_80 : decode (mC mX0_setDown) 80 = .ok (.getfield 48, 3) := by decide +kernel
theorem dX0_setDown_83 : decode (mC mX0_setDown) 83 = .ok (.iload_n 1, 1) := by decide +kernel
theorem dX0_setDown_84 : decode (mC mX0_setDown) 84 = .ok (.invokestatic 134, 3) := by decide +kernel
theorem dX0_setDown_87 : decode (mC mX0_setDown) 87 = .ok (.aload_n 0, 1) := by decide +kernel
theorem dX0_setDown_88 : decode (mC mX0_setDown) 88 = .ok (.getfield 18, 3) := by decide +kernel
theorem dX0_setDown_91 : decode (mC mX0_setDown) 91 = .ok (.iload 6, 2) := by decide +kernel
theorem dX0_setDown_93 : decode (mC mX0_setDown) 93 = .ok (.aload_n 0, 1) := by decide +kernel
theorem dX0_setDown_94 : decode (mC mX0_setDown) 94 = .ok (.getfield 18, 3) := by decide +kernel
theorem dX0_setDown_97 : decode (mC mX0_setDown) 97 = .ok (.iload 6, 2) := by decide +kernel
theorem dX0_setDown_99 : decode (mC mX0_setDown) 99 = .ok (.invokestatic 77, 3) := by decide +kernel
theorem dX0_setDown_102 : decode (mC mX0_setDown) 102 = .ok (.iload 5, 2) := by decide +kernel
theorem dX0_setDown_104 : decode (mC mX0_setDown) 104 = .ok (.invokestatic 140, 3) := by decide +kernel
theorem dX0_setDown_107 : decode (mC mX0_setDown) 107 = .ok (.invokestatic 70, 3) := by decide +kernel
theorem dX0_setDown_110 : decode (mC mX0_setDown) 110 = .ok (.aload_n 0, 1) := by decide +kernel
theorem dX0_setDown_111 : decode (mC mX0_setDown) 111 = .ok (.getfield 27, 3) := by decide +kernel
theorem dX0_setDown_114 : decode (mC mX0_setDown) 114 = .ok (.iload 6, 2) := by decide +kernel
theorem dX0_setDown_116 : decode (mC mX0_setDown) 116 = .ok (.aload_n 0, 1) := by decide +kernel
theorem dX0_setDown_117 : decode (mC mX0_setDown) 117 = .ok (.getfield 27, 3) := by decide +kernel
theorem dX0_setDown_120 : decode (mC mX0_setDown) 120 = .ok (.iload 6, 2) := by decide +kernel
theorem dX0_setDown_122 : decode (mC mX0_setDown) 122 = .ok (.invokestatic 77, 3) := by decide +kernel
theorem dX0_setDown_125 : decode (mC mX0_setDown) 125 = .ok (.iconst 1, 1) := by decide +kernel
theorem dX0_setDown_126 : decode (mC mX0_setDown) 126 = .ok (.iload_n 1, 1) := by decide +kernel
theorem dX0_setDown_127 : decode (mC mX0_setDown) 127 = .ok (.ishl, 1) := by decide +kernel
theorem dX0_setDown_128 : decode (mC mX0_setDown) 128 = .ok (.ior, 1) := by decide +kernel
theorem dX0_setDown_129 : decode (mC mX0_setDown) 129 = .ok (.invokestatic 70, 3) := by decide +kernel
theorem dX0_setDown_132 : decode (mC mX0_setDown) 132 = .ok (.return_, 1) := by decide +kernel
theorem dX0_press_0 : decode (mC mX0_press) 0 = .ok (.aload_n 0, 1) := by decide +kernel
theorem dX0_press_1 : decode (mC mX0_press) 1 = .ok (.getfield 9, 3) := by decide +kernel
theorem dX0_press_4 : decode (mC mX0_press) 4 = .ok (.aload_n 0, 1) := by decide +kernel
theorem dX0_press_5 : decode (mC mX0_press) 5 = .ok (.getfield 85, 3) := by decide +kernel
theorem dX0_press_8 : decode (mC mX0_press) 8 = .ok (.iload_n 3, 1) := by decide +kernel
theorem dX0_press_9 : decode (mC mX0_press) 9 = .ok (.invokestatic 70, 3) := by decide +kernel
theorem dX0_press_12 : decode (mC mX0_press) 12 = .ok (.aload_n 0, 1) := by decide +kernel
theorem dX0_press_13 : decode (mC mX0_press) 13 = .ok (.getfield 15, 3) := by decide +kernel
theorem dX0_press_16 : decode (mC mX0_press) 16 = .ok (.aload_n 0, 1) := by decide +kernel
theorem dX0_press_17 : decode (mC mX0_press) 17 = .ok (.getfield 85, 3) := by decide +kernel
theorem dX0_press_20 : decode (mC mX0_press) 20 = .ok (.iload 4, 2) := by decide +kernel
theorem dX0_press_22 : decode (mC mX0_press) 22 = .ok (.invokestatic 70, 3) := by decide +kernel
theorem dX0_press_25 : decode (mC mX0_press) 25 = .ok (.aload_n 0, 1) := by decide +kernel
theorem dX0_press_26 : decode (mC mX0_press) 26 = .ok (.getfield 18, 3) := by decide +kernel
theorem dX0_press_29 : decode (mC mX0_press) 29 = .ok (.aload_n 0, 1) := by decide +kernel
theorem dX0_press_30 : decode (mC mX0_press) 30 = .ok (.getfield 85, 3) := by decide +kernel
theorem dX0_press_33 : decode (mC mX0_press) 33 = .ok (.iload 5, 2) := by decide +kernel
theorem dX0_press_35 : decode (mC mX0_press) 35 = .ok (.invokestatic 70, 3) := by decide +kernel
theorem dX0_press_38 : decode (mC mX0_press) 38 = .ok (.aload_n 0, 1) := by decide +kernel
theorem dX0_press_39 : decode (mC mX0_press) 39 = .ok (.getfield 21, 3) := by decide +kernel
theorem dX0_press_42 : decode (mC mX0_press) 42 = .ok (.aload_n 0, 1) := by decide +kernel
theorem dX0_press_43 : decode (mC mX0_press) 43 = .ok (.getfield 85, 3) := by decide +kernel
theorem dX0_press_46 : decode (mC mX0_press) 46 = .ok (.iload_n 2, 1) := by decide +kernel
theorem dX0_press_47 : decode (mC mX0_press) 47 = .ok (.invokestatic 70, 3) := by decide +kernel
theorem dX0_press_50 : decode (mC mX0_press) 50 = .ok (.aload_n 0, 1) := by decide +kernel
theorem dX0_press_51 : decode (mC mX0_press) 51 = .ok (.getfield 24, 3) := by decide +kernel
theorem dX0_press_54 : decode (mC mX0_press) 54 = .ok (.aload_n 0, 1) := by decide +kernel
theorem dX0_press_55 : decode (mC mX0_press) 55 = .ok (.getfield 85, 3) := by decide +kernel
theorem dX0_press_58 : decode (mC mX0_press) 58 = .ok (.iload_n 1, 1) := by decide +kernel
theorem dX0_press_59 : decode (mC mX0_press) 59 = .ok (.invokestatic 70, 3) := by decide +kernel
theorem dX0_press_62 : decode (mC mX0_press) 62 = .ok (.aload_n 0, 1) := by decide +kernel
theorem dX0_press_63 : decode (mC mX0_press) 63 = .ok (.getfield 27, 3) := by decide +kernel
theorem dX0_press_66 : decode (mC mX0_press) 66 = .ok (.aload_n 0, 1) := by decide +kernel
theorem dX0_press_67 : decode (mC mX0_press) 67 = .ok (.getfield 85, 3) := by decide +kernel
theorem dX0_press_70 : decode (mC mX0_press) 70 = .ok (.iconst 1, 1) := by decide +kernel
theorem dX0_press_71 : decode (mC mX0_press) 71 = .ok (.iload_n 1, 1) := by decide +kernel
theorem dX0_press_72 : decode (mC mX0_press) 72 = .ok (.ishl, 1) := by decide +kernel
theorem dX0_press_73 : decode (mC mX0_press) 73 = .ok (.invokestatic 70, 3) := by decide +kernel
theorem dX0_press_76 : decode (mC mX0_press) 76 = .ok (.aload_n 0, 1) := by decide +kernel
theorem dX0_press_77 : decode (mC mX0_press) 77 = .ok (.getfield 30, 3) := by decide +kernel
theorem dX0_press_80 : decode (mC mX0_press) 80 = .ok (.iload_n 3, 1) := by decide +kernel
theorem dX0_press_81 : decode (mC mX0_press) 81 = .ok (.aload_n 0, 1) := by decide +kernel
theorem dX0_press_82 : decode (mC mX0_press) 82 = .ok (.getfield 85, 3) := by decide +kernel
theorem dX0_press_85 : decode (mC mX0_press) 85 = .ok (.invokestatic 70, 3) := by decide +kernel
theorem dX0_press_88 : decode (mC mX0_press) 88 = .ok (.aload_n 0, 1) := by decide +kernel
theorem dX0_press_89 : decode (mC mX0_press) 89 = .ok (.dup, 1) := by decide +kernel
theorem dX0_press_90 : decode (mC mX0_press) 90 = .ok (.getfield 85, 3) := by decide +kernel
theorem dX0_press_93 : decode (mC mX0_press) 93 = .ok (.iconst 1, 1) := by decide +kernel
theorem dX0_press_94 : decode (mC mX0_press) 94 = .ok (.iadd, 1) := by decide +kernel
theorem dX0_press_95 : decode (mC mX0_press) 95 = .ok (.putfield 85, 3) := by decide +kernel
theorem dX0_press_98 : decode (mC mX0_press) 98 = .ok (.return_, 1) := by decide +kernel
theorem dX0_part_0 : decode (mC mX0_part) 0 = .ok (.iload_n 1, 1) := by decide +kernel
theorem dX0_part_1 : decode (mC mX0_part) 1 = .ok (.ifCond .lt 11, 3) := by decide +kernel
theorem dX0_part_4 : decode (mC mX0_part) 4 = .ok (.iload_n 1, 1) := by decide +kernel
theorem dX0_part_5 : decode (mC mX0_part) 5 = .ok (.aload_n 0, 1) := by decide +kernel
theorem dX0_part_6 : decode (mC mX0_part) 6 = .ok (.getfield 85, 3) := by decide +kernel
theorem dX0_part_9 : decode (mC mX0_part) 9 = .ok (.if_icmp .lt 6, 3) := by decide +kernel
theorem dX0_part_12 : decode (mC mX0_part) 12 = .ok (.bipush (-2), 2) := by decide +kernel
theorem dX0_part_14 : decode (mC mX0_part) 14 = .ok (.ireturn, 1) := by decide +kernel
theorem dX0_part_15 : decode (mC mX0_part) 15 = .ok (.iload_n 2, 1) := by decide +kernel
theorem dX0_part_16 : decode (mC mX0_part) 16 = .ok (.tableswitch 139 0 8 #[52, 61, 73, 85, 97, 106, 115, 124, 133], 52) := by decide +kernel
theorem dX0_part_68 : decode (mC mX0_part) 68 = .ok (.aload_n 0, 1) := by decide +kernel
theorem dX0_part_69 : decode (mC mX0_part) 69 = .ok (.getfield 9, 3) := by decide +kernel
theorem dX0_part_72 : decode (mC mX0_part) 72 = .ok (.iload_n 1, 1) := by decide +kernel
theorem dX0_part_73 : decode (mC mX0_part) 73 = .ok (.invokestatic 77, 3) := by decide +kernel
theorem dX0_part_76 : decode (mC mX0_part) 76 = .ok (.ireturn, 1) := by decide +kernel
theorem dX0_part_77 : decode (mC mX0_part) 77 = .ok (.aload_n 0, 1) := by decide +kernel
theorem dX0_part_78 : decode (mC mX0_part) 78 = .ok (.getfield 15, 3) := by decide +kernel
theorem dX0_part_81 : decode (mC mX0_part) 81 = .ok (.iload_n 1, 1) := by decide +kernel
theorem dX0_part_82 : decode (mC mX0_part) 82 = .ok (.invokestatic 77, 3) := by decide +kernel
theorem dX0_part_85 : decode (mC mX0_part) 85 = .ok (.invokestatic 145, 3) := by decide +kernel
theorem dX0_part_88 : decode (mC mX0_part) 88 = .ok (.ireturn, 1) := by decide +kernel
theorem dX0_part_89 : decode (mC mX0_part) 89 = .ok (.aload_n 0, 1) := by decide +kernel
theorem dX0_part_90 : decode (mC mX0_part) 90 = .ok (.getfield 15, 3) := by decide +kernel
theorem dX0_part_93 : decode (mC mX0_part) 93 = .ok (.iload_n 1, 1) := by decide +kernel
theorem dX0_part_94 : decode (mC mX0_part) 94 = .ok (.invokestatic 77, 3) := by decide +kernel
theorem dX0_part_97 : decode (mC mX0_part) 97 = .ok (.invokestatic 148, 3) := by decide +kernel
theorem dX0_part_100 : decode (mC mX0_part) 100 = .ok (.ireturn, 1) := by decide +kernel
theorem dX0_part_101 : decode (mC mX0_part) 101 = .ok (.aload_n 0, 1) := by decide +kernel
theorem dX0_part_102 : decode (mC mX0_part) 102 = .ok (.getfield 15, 3) := by decide +kernel
theorem dX0_part_105 : decode (mC mX0_part) 105 = .ok (.iload_n 1, 1) := by decide +kernel
theorem dX0_part_106 : decode (mC mX0_part) 106 = .ok (.invokestatic 77, 3) := by decide +kernel
theorem dX0_part_109 : decode (mC mX0_part) 109 = .ok (.invokestatic 151, 3) := by decide +kernel
theorem dX0_part_112 : decode (mC mX0_part) 112 = .ok (.ireturn, 1) := by decide +kernel
theorem dX0_part_113 : decode (mC mX0_part) 113 = .ok (.aload_n 0, 1) := by decide +kernel
theorem dX0_part_114 : decode (mC mX0_part) 114 = .ok (.getfield 18, 3) := by decide +kernel
theorem dX0_part_117 : decode (mC mX0_part) 117 = .ok (.iload_n 1, 1) := by decide +kernel
theorem dX0_part_118 : decode (mC mX0_part) 118 = .ok (.invokestatic 77, 3) := by decide +kernel
theorem dX0_part_121 : decode (mC mX0_part) 121 = .ok (.ireturn, 1) := by decide +kernel
theorem dX0_part_122 : decode (mC mX0_part) 122 = .ok (.aload_n 0, 1) := by decide +kernel
theorem dX0_part_123 : decode (mC mX0_part) 123 = .ok (.getfield 21, 3) := by decide +kernel
theorem dX0_part_126 : decode (mC mX0_part) 126 = .ok (.iload_n 1, 1) := by decide +kernel
theorem dX0_part_127 : decode (mC mX0_part) 127 = .ok (.invokestatic 77, 3) := by decide +kernel
theorem dX0_part_130 : decode (mC mX0_part) 130 = .ok (.ireturn, 1) := by decide +kernel
theorem dX0_part_131 : decode (mC mX0_part) 131 = .ok (.aload_n 0, 1) := by decide +kernel
theorem dX0_part_132 : decode (mC mX0_part) 132 = .ok (.getfield 24, 3) := by decide +kernel
theorem dX0_part_135 : decode (mC mX0_part) 135 = .ok (.iload_n 1, 1) := by decide +kernel
theorem dX0_part_136 : decode (mC mX0_part) 136 = .ok (.invokestatic 77, 3) := by decide +kernel
theorem dX0_part_139 : decode (mC mX0_part) 139 = .ok (.ireturn, 1) := by decide +kernel
theorem dX0_part_140 : decode (mC mX0_part) 140 = .ok (.aload_n 0, 1) := by decide +kernel
theorem dX0_part_141 : decode (mC mX0_part) 141 = .ok (.getfield 27, 3) := by decide +kernel
theorem dX0_part_144 : decode (mC mX0_part) 144 = .ok (.iload_n 1, 1) := by decide +kernel
theorem dX0_part_145 : decode (mC mX0_part) 145 = .ok (.invokestatic 77, 3) := by decide +kernel
theorem dX0_part_148 : decode (mC mX0_part) 148 = .ok (.ireturn, 1) := by decide +kernel
theorem dX0_part_149 : decode (mC mX0_part) 149 = .ok (.aload_n 0, 1) := by decide +kernel
theorem dX0_part_150 : decode (mC mX0_part) 150 = .ok (.iload_n 1, 1) := by decide +kernel
theorem dX0_part_151 : decode (mC mX0_part) 151 = .ok (.invokevirtual 154, 3) := by decide +kernel
theorem dX0_part_154 : decode (mC mX0_part) 154 = .ok (.ireturn, 1) := by decide +kernel
theorem dX0_part_155 : decode (mC mX0_part) 155 = .ok (.bipush (-2), 2) := by decide +kernel
theorem dX0_part_157 : decode (mC mX0_part) 157 = .ok (.ireturn, 1) := by decide +kernel
theorem dX0_liesOver_0 : decode (mC mX0_liesOver) 0 = .ok (.iconst 0, 1) := by decide +kernel
theorem dX0_liesOver_1 : decode (mC mX0_liesOver) 1 = .ok (.istore_n 2, 1) := by decide +kernel
theorem dX0_liesOver_2 : decode (mC mX0_liesOver) 2 = .ok (.iconst 0, 1) := by decide +kernel
theorem dX0_liesOver_3 : decode (mC mX0_liesOver) 3 = .ok (.istore_n 3, 1) := by decide +kernel
theorem dX0_liesOver_4 : decode (mC mX0_liesOver) 4 = .ok (.iload_n 3, 1) := by decide +kernel
theorem dX0_liesOver_5 : decode (mC mX0_liesOver) 5 = .ok (.iload_n 1, 1) := by decide +kernel
theorem dX0_liesOver_6 : decode (mC mX0_liesOver) 6 = .ok (.if_icmp .ge 31, 3) := by decide +kernel
theorem dX0_liesOver_9 : decode (mC mX0_liesOver) 9 = .ok (.aload_n 0, 1) := by decide +kernel
theorem dX0_liesOver_10 : decode (mC mX0_liesOver) 10 = .ok (.getfield 9, 3) := by decide +kernel
theorem dX0_liesOver_13 : decode (mC mX0_liesOver) 13 = .ok (.iload_n 3, 1) := by decide +kernel
theorem dX0_liesOver_14 : decode (mC mX0_liesOver) 14 = .ok (.invokestatic 77, 3) := by decide +kernel
theorem dX0_liesOver_17 : decode (mC mX0_liesOver) 17 = .ok (.aload_n 0, 1) := by decide +kernel
theorem dX0_liesOver_18 : decode (mC mX0_liesOver) 18 = .ok (.getfield 9, 3) := by decide +kernel
theorem dX0_liesOver_21 : decode (mC mX0_liesOver) 21 = .ok (.iload_n 1, 1) := by decide +kernel
theorem dX0_liesOver_22 : decode (mC mX0_liesOver) 22 = .ok (.invokestatic 77, 3) := by decide +kernel
theorem dX0_liesOver_25 : decode (mC mX0_liesOver) 25 = .ok (.if_icmp .ne 6, 3) := by decide +kernel
theorem dX0_liesOver_28 : decode (mC mX0_liesOver) 28 = .ok (.iinc 2 1, 3) := by decide +kernel
theorem dX0_liesOver_31 : decode (mC mX0_liesOver) 31 = .ok (.iinc 3 1, 3) := by decide +kernel
theorem dX0_liesOver_34 : decode (mC mX0_liesOver) 34 = .ok (.goto (-30), 3) := by decide +kernel
theorem dX0_liesOver_37 : decode (mC mX0_liesOver) 37 = .ok (.iload_n 2, 1) := by decide +kernel
theorem dX0_liesOver_38 : decode (mC mX0_liesOver) 38 = .ok (.ireturn, 1) := by decide +kernel
theorem dX0_heightOf_0 : decode (mC mX0_heightOf) 0 = .ok (.iconst 0, 1) := by decide +kernel
theorem dX0_heightOf_1 : decode (mC mX0_heightOf) 1 = .ok (.istore_n 2, 1) := by decide +kernel
theorem dX0_heightOf_2 : decode (mC mX0_heightOf) 2 = .ok (.iconst 0, 1) := by decide +kernel
theorem dX0_heightOf_3 : decode (mC mX0_heightOf) 3 = .ok (.istore_n 3, 1) := by decide +kernel
theorem dX0_heightOf_4 : decode (mC mX0_heightOf) 4 = .ok (.iload_n 3, 1) := by decide +kernel
theorem dX0_heightOf_5 : decode (mC mX0_heightOf) 5 = .ok (.aload_n 0, 1) := by decide +kernel
theorem dX0_heightOf_6 : decode (mC mX0_heightOf) 6 = .ok (.getfield 85, 3) := by decide +kernel
theorem dX0_heightOf_9 : decode (mC mX0_heightOf) 9 = .ok (.if_icmp .ge 24, 3) := by decide +kernel
theorem dX0_heightOf_12 : decode (mC mX0_heightOf) 12 = .ok (.aload_n 0, 1) := by decide +kernel
theorem dX0_heightOf_13 : decode (mC mX0_heightOf) 13 = .ok (.getfield 9, 3) := by decide +kernel
theorem dX0_heightOf_16 : decode (mC mX0_heightOf) 16 = .ok (.iload_n 3, 1) := by decide +kernel
theorem dX0_heightOf_17 : decode (mC mX0_heightOf) 17 = .ok (.invokestatic 77, 3) := by decide +kernel
theorem dX0_heightOf_20 : decode (mC mX0_heightOf) 20 = .ok (.iload_n 1, 1) := by decide +kernel
theorem dX0_heightOf_21 : decode (mC mX0_heightOf) 21 = .ok (.if_icmp .ne 6, 3) := by decide +kernel
theorem dX0_heightOf_24 : decode (mC mX0_heightOf) 24 = .ok (.iinc 2 1, 3) := by decide +kernel
theorem dX0_heightOf_27 : decode (mC mX0_heightOf) 27 = .ok (.iinc 3 1, 3) := by decide +kernel
theorem dX0_heightOf_30 : decode (mC mX0_heightOf) 30 = .ok (.goto (-26), 3) := by decide +kernel
theorem dX0_heightOf_33 : decode (mC mX0_heightOf) 33 = .ok (.iload_n 2, 1) := by decide +kernel
theorem dX0_heightOf_34 : decode (mC mX0_heightOf) 34 = .ok (.ireturn, 1) := by decide +kernel
theorem dX0_topOf_0 : decode (mC mX0_topOf) 0 = .ok (.aload_n 0, 1) := by decide +kernel
theorem dX0_topOf_1 : decode (mC mX0_topOf) 1 = .ok (.getfield 30, 3) := by decide +kernel
theorem dX0_topOf_4 : decode (mC mX0_topOf) 4 = .ok (.iload_n 1, 1) := by decide +kernel
theorem dX0_topOf_5 : decode (mC mX0_topOf) 5 = .ok (.invokestatic 77, 3) := by decide +kernel
theorem dX0_topOf_8 : decode (mC mX0_topOf) 8 = .ok (.ireturn, 1) := by decide +kernel
theorem dX0_depthOf_0 : decode (mC mX0_depthOf) 0 = .ok (.iconst 0, 1) := by decide +kernel
theorem dX0_depthOf_1 : decode (mC mX0_depthOf) 1 = .ok (.istore_n 2, 1) := by decide +kernel
theorem dX0_depthOf_2 : decode (mC mX0_depthOf) 2 = .ok (.iconst 0, 1) := by decide +kernel
theorem dX0_depthOf_3 : decode (mC mX0_depthOf) 3 = .ok (.istore_n 3, 1) := by decide +kernel
theorem dX0_depthOf_4 : decode (mC mX0_depthOf) 4 = .ok (.iload_n 3, 1) := by decide +kernel
theorem dX0_depthOf_5 : decode (mC mX0_depthOf) 5 = .ok (.aload_n 0, 1) := by decide +kernel
theorem dX0_depthOf_6 : decode (mC mX0_depthOf) 6 = .ok (.getfield 85, 3) := by decide +kernel
theorem dX0_depthOf_9 : decode (mC mX0_depthOf) 9 = .ok (.if_icmp .ge 32, 3) := by decide +kernel
theorem dX0_depthOf_12 : decode (mC mX0_depthOf) 12 = .ok (.aload_n 0, 1) := by decide +kernel
theorem dX0_depthOf_13 : decode (mC mX0_depthOf) 13 = .ok (.getfield 9, 3) := by decide +kernel
theorem dX0_depthOf_16 : decode (mC mX0_depthOf) 16 = .ok (.iload_n 3, 1) := by decide +kernel
theorem dX0_depthOf_17 : decode (mC mX0_depthOf) 17 = .ok (.invokestatic 77, 3) := by decide +kernel
theorem dX0_depthOf_20 : decode (mC mX0_depthOf) 20 = .ok (.iload_n 1, 1) := by decide +kernel
theorem dX0_depthOf_21 : decode (mC mX0_depthOf) 21 = .ok (.if_icmp .ne 14, 3) := by decide +kernel
theorem dX0_depthOf_24 : decode (mC mX0_depthOf) 24 = .ok (.iload_n 2, 1) := by decide +kernel
theorem dX0_depthOf_25 : decode (mC mX0_depthOf) 25 = .ok (.aload_n 0, 1) := by decide +kernel
theorem dX0_depthOf_26 : decode (mC mX0_depthOf) 26 = .ok (.getfield 18, 3) := by decide +kernel
theorem dX0_depthOf_29 : decode (mC mX0_depthOf) 29 = .ok (.iload_n 3, 1) := by decide +kernel
theorem dX0_depthOf_30 : decode (mC mX0_depthOf) 30 = .ok (.invokestatic 77, 3) := by decide +kernel
theorem dX0_depthOf_33 : decode (mC mX0_depthOf) 33 = .ok (.iadd, 1) := by decide +kernel
theorem dX0_depthOf_34 : decode (mC mX0_depthOf) 34 = .ok (.istore_n 2, 1) := by decide +kernel
theorem dX0_depthOf_35 : decode (mC mX0_depthOf) 35 = .ok (.iinc 3 1, 3) := by decide +kernel
theorem dX0_depthOf_38 : decode (mC mX0_depthOf) 38 = .ok (.goto (-34), 3) := by decide +kernel
theorem dX0_depthOf_41 : decode (mC mX0_depthOf) 41 = .ok (.iload_n 2, 1) := by decide +kernel
theorem dX0_depthOf_42 : decode (mC mX0_depthOf) 42 = .ok (.ireturn, 1) := by decide +kernel
theorem dX0_usersOf_0 : decode (mC mX0_usersOf) 0 = .ok (.iconst 0, 1) := by decide +kernel
theorem dX0_usersOf_1 : decode (mC mX0_usersOf) 1 = .ok (.istore_n 2, 1) := by decide +kernel
theorem dX0_usersOf_2 : decode (mC mX0_usersOf) 2 = .ok (.iconst 0, 1) := by decide +kernel
theorem dX0_usersOf_3 : decode (mC mX0_usersOf) 3 = .ok (.istore_n 3, 1) := by decide +kernel
theorem dX0_usersOf_4 : decode (mC mX0_usersOf) 4 = .ok (.iload_n 3, 1) := by decide +kernel
theorem dX0_usersOf_5 : decode (mC mX0_usersOf) 5 = .ok (.aload_n 0, 1) := by decide +kernel
theorem dX0_usersOf_6 : decode (mC mX0_usersOf) 6 = .ok (.getfield 85, 3) := by decide +kernel
theorem dX0_usersOf_9 : decode (mC mX0_usersOf) 9 = .ok (.if_icmp .ge 32, 3) := by decide +kernel
theorem dX0_usersOf_12 : decode (mC mX0_usersOf) 12 = .ok (.aload_n 0, 1) := by decide +kernel
theorem dX0_usersOf_13 : decode (mC mX0_usersOf) 13 = .ok (.getfield 9, 3) := by decide +kernel
theorem dX0_usersOf_16 : decode (mC mX0_usersOf) 16 = .ok (.iload_n 3, 1) := by decide +kernel
theorem dX0_usersOf_17 : decode (mC mX0_usersOf) 17 = .ok (.invokestatic 77, 3) := by decide +kernel
theorem dX0_usersOf_20 : decode (mC mX0_usersOf) 20 = .ok (.iload_n 1, 1) := by decide +kernel
theorem dX0_usersOf_21 : decode (mC mX0_usersOf) 21 = .ok (.if_icmp .ne 14, 3) := by decide +kernel
theorem dX0_usersOf_24 : decode (mC mX0_usersOf) 24 = .ok (.iload_n 2, 1) := by decide +kernel
theorem dX0_usersOf_25 : decode (mC mX0_usersOf) 25 = .ok (.aload_n 0, 1) := by decide +kernel
theorem dX0_usersOf_26 : decode (mC mX0_usersOf) 26 = .ok (.getfield 27, 3) := by decide +kernel
theorem dX0_usersOf_29 : decode (mC mX0_usersOf) 29 = .ok (.iload_n 3, 1) := by decide +kernel
theorem dX0_usersOf_30 : decode (mC mX0_usersOf) 30 = .ok (.invokestatic 77, 3) := by decide +kernel
theorem dX0_usersOf_33 : decode (mC mX0_usersOf) 33 = .ok (.ior, 1) := by decide +kernel
theorem dX0_usersOf_34 : decode (mC mX0_usersOf) 34 = .ok (.istore_n 2, 1) := by decide +kernel
theorem dX0_usersOf_35 : decode (mC mX0_usersOf) 35 = .ok (.iinc 3 1, 3) := by decide +kernel
theorem dX0_usersOf_38 : decode (mC mX0_usersOf) 38 = .ok (.goto (-34), 3) := by decide +kernel
theorem dX0_usersOf_41 : decode (mC mX0_usersOf) 41 = .ok (.iload_n 2, 1) := by decide +kernel
theorem dX0_usersOf_42 : decode (mC mX0_usersOf) 42 = .ok (.ireturn, 1) := by decide +kernel
theorem dX0_hidden_0 : decode (mC mX0_hidden) 0 = .ok (.aload_n 0, 1) := by decide +kernel
theorem dX0_hidden_1 : decode (mC mX0_hidden) 1 = .ok (.getfield 85, 3) := by decide +kernel
theorem dX0_hidden_4 : decode (mC mX0_hidden) 4 = .ok (.istore_n 1, 1) := by decide +kernel
theorem dX0_hidden_5 : decode (mC mX0_hidden) 5 = .ok (.iconst 0, 1) := by decide +kernel
theorem dX0_hidden_6 : decode (mC mX0_hidden) 6 = .ok (.istore_n 2, 1) := by decide +kernel
theorem dX0_hidden_7 : decode (mC mX0_hidden) 7 = .ok (.iload_n 2, 1) := by decide +kernel
theorem dX0_hidden_8 : decode (mC mX0_hidden) 8 = .ok (.aload_n 0, 1) := by decide +kernel
theorem dX0_hidden_9 : decode (mC mX0_hidden) 9 = .ok (.getfield 30, 3) := by decide +kernel
theorem dX0_hidden_12 : decode (mC mX0_hidden) 12 = .ok (.arraylength, 1) := by decide +kernel
theorem dX0_hidden_13 : decode (mC mX0_hidden) 13 = .ok (.if_icmp .ge 22, 3) := by decide +kernel
theorem dX0_hidden_16 : decode (mC mX0_hidden) 16 = .ok (.aload_n 0, 1) := by decide +kernel
theorem dX0_hidden_17 : decode (mC mX0_hidden) 17 = .ok (.getfield 30, 3) := by decide +kernel
theorem dX0_hidden_20 : decode (mC mX0_hidden) 20 = .ok (.iload_n 2, 1) := by decide +kernel
theorem dX0_hidden_21 : decode (mC mX0_hidden) 21 = .ok (.iaload, 1) := by decide +kernel
theorem dX0_hidden_22 : decode (mC mX0_hidden) 22 = .ok (.iconst (-1), 1) := by decide +kernel
theorem dX0_hidden_23 : decode (mC mX0_hidden) 23 = .ok (.if_icmp .eq 6, 3) := by decide +kernel
theorem dX0_hidden_26 : decode (mC mX0_hidden) 26 = .ok (.iinc 1 (-1), 3) := by decide +kernel
theorem dX0_hidden_29 : decode (mC mX0_hidden) 29 = .ok (.iinc 2 1, 3) := by decide +kernel
theorem dX0_hidden_32 : decode (mC mX0_hidden) 32 = .ok (.goto (-25), 3) := by decide +kernel
theorem dX0_hidden_35 : decode (mC mX0_hidden) 35 = .ok (.iload_n 1, 1) := by decide +kernel
theorem dX0_hidden_36 : decode (mC mX0_hidden) 36 = .ok (.ireturn, 1) := by decide +kernel
theorem dX0_twins_0 : decode (mC mX0_twins) 0 = .ok (.iconst 0, 1) := by decide +kernel
theorem dX0_twins_1 : decode (mC mX0_twins) 1 = .ok (.istore_n 1, 1) := by decide +kernel
theorem dX0_twins_2 : decode (mC mX0_twins) 2 = .ok (.iconst 0, 1) := by decide +kernel
theorem dX0_twins_3 : decode (mC mX0_twins) 3 = .ok (.istore_n 2, 1) := by decide +kernel
theorem dX0_twins_4 : decode (mC mX0_twins) 4 = .ok (.iload_n 2, 1) := by decide +kernel
theorem dX0_twins_5 : decode (mC mX0_twins) 5 = .ok (.aload_n 0, 1) := by decide +kernel
theorem dX0_twins_6 : decode (mC mX0_twins) 6 = .ok (.getfield 85, 3) := by decide +kernel
theorem dX0_twins_9 : decode (mC mX0_twins) 9 = .ok (.if_icmp .ge 63, 3) := by decide +kernel
theorem dX0_twins_12 : decode (mC mX0_twins) 12 = .ok (.iconst 0, 1) := by decide +kernel
theorem dX0_twins_13 : decode (mC mX0_twins) 13 = .ok (.istore_n 3, 1) := by decide +kernel
theorem dX0_twins_14 : decode (mC mX0_twins) 14 = .ok (.iload_n 3, 1) := by decide +kernel
theorem dX0_twins_15 : decode (mC mX0_twins) 15 = .ok (.iload_n 2, 1) := by decide +kernel
theorem dX0_twins_16 : decode (mC mX0_twins) 16 = .ok (.if_icmp .ge 50, 3) := by decide +kernel
theorem dX0_twins_19 : decode (mC mX0_twins) 19 = .ok (.aload_n 0, 1) := by decide +kernel
theorem dX0_twins_20 : decode (mC mX0_twins) 20 = .ok (.getfield 9, 3) := by decide +kernel
theorem dX0_twins_23 : decode (mC mX0_twins) 23 = .ok (.iload_n 2, 1) := by decide +kernel
theorem dX0_twins_24 : decode (mC mX0_twins) 24 = .ok (.invokestatic 77, 3) := by decide +kernel
theorem dX0_twins_27 : decode (mC mX0_twins) 27 = .ok (.aload_n 0, 1) := by decide +kernel
theorem dX0_twins_28 : decode (mC mX0_twins) 28 = .ok (.getfield 9, 3) := by decide +kernel
theorem dX0_twins_31 : decode (mC mX0_twins) 31 = .ok (.iload_n 3, 1) := by decide +kernel
theorem dX0_twins_32 : decode (mC mX0_twins) 32 = .ok (.invokestatic 77, 3) := by decide +kernel
theorem dX0_twins_35 : decode (mC mX0_twins) 35 = .ok (.if_icmp .ne 25, 3) := by decide +kernel
theorem dX0_twins_38 : decode (mC mX0_twins) 38 = .ok (.aload_n 0, 1) := by decide +kernel
theorem dX0_twins_39 : decode (mC mX0_twins) 39 = .ok (.getfield 15, 3) := by decide +kernel
theorem dX0_twins_42 : decode (mC mX0_twins) 42 = .ok (.iload_n 2, 1) := by decide +kernel
theorem dX0_twins_43 : decode (mC mX0_twins) 43 = .ok (.invokestatic 77, 3) := by decide +kernel
theorem dX0_twins_46 : decode (mC mX0_twins) 46 = .ok (.aload_n 0, 1) := by decide +kernel
theorem dX0_twins_47 : decode (mC mX0_twins) 47 = .ok (.getfield 15, 3) := by decide +kernel
theorem dX0_twins_50 : decode (mC mX0_twins) 50 = .ok (.iload_n 3, 1) := by decide +kernel
theorem dX0_twins_51 : decode (mC mX0_twins) 51 = .ok (.invokestatic 77, 3) := by decide +kernel
theorem dX0_twins_54 : decode (mC mX0_twins) 54 = .ok (.if_icmp .ne 6, 3) := by decide +kernel
theorem dX0_twins_57 : decode (mC mX0_twins) 57 = .ok (.iinc 1 1, 3) := by decide +kernel
theorem dX0_twins_60 : decode (mC mX0_twins) 60 = .ok (.iinc 3 1, 3) := by decide +kernel
theorem dX0_twins_63 : decode (mC mX0_twins) 63 = .ok (.goto (-49), 3) := by decide +kernel
theorem dX0_twins_66 : decode (mC mX0_twins) 66 = .ok (.iinc 2 1, 3) := by decide +kernel
theorem dX0_twins_69 : decode (mC mX0_twins) 69 = .ok (.goto (-65), 3) := by decide +kernel
theorem dX0_twins_72 : decode (mC mX0_twins) 72 = .ok (.iload_n 1, 1) := by decide +kernel
theorem dX0_twins_73 : decode (mC mX0_twins) 73 = .ok (.ireturn, 1) := by decide +kernel
theorem dX0_deepest_0 : decode (mC mX0_deepest) 0 = .ok (.iconst (-1), 1) := by decide +kernel
theorem dX0_deepest_1 : decode (mC mX0_deepest) 1 = .ok (.istore_n 1, 1) := by decide +kernel
theorem dX0_deepest_2 : decode (mC mX0_deepest) 2 = .ok (.iconst 0, 1) := by decide +kernel
theorem dX0_deepest_3 : decode (mC mX0_deepest) 3 = .ok (.istore_n 2, 1) := by decide +kernel
theorem dX0_deepest_4 : decode (mC mX0_deepest) 4 = .ok (.iload_n 2, 1) := by decide +kernel
theorem dX0_deepest_5 : decode (mC mX0_deepest) 5 = .ok (.aload_n 0, 1) := by decide +kernel
theorem dX0_deepest_6 : decode (mC mX0_deepest) 6 = .ok (.getfield 85, 3) := by decide +kernel
theorem dX0_deepest_9 : decode (mC mX0_deepest) 9 = .ok (.if_icmp .ge 35, 3) := by decide +kernel
theorem dX0_deepest_12 : decode (mC mX0_deepest) 12 = .ok (.iload_n 1, 1) := by decide +kernel
theorem dX0_deepest_13 : decode (mC mX0_deepest) 13 = .ok (.iconst (-1), 1) := by decide +kernel
theorem dX0_deepest_14 : decode (mC mX0_deepest) 14 = .ok (.if_icmp .eq 22, 3) := by decide +kernel
theorem dX0_deepest_17 : decode (mC mX0_deepest) 17 = .ok (.aload_n 0, 1) := by decide +kernel
theorem dX0_deepest_18 : decode (mC mX0_deepest) 18 = .ok (.getfield 18, 3) := by decide +kernel
theorem dX0_deepest_21 : decode (mC mX0_deepest) 21 = .ok (.iload_n 2, 1) := by decide +kernel
theorem dX0_deepest_22 : decode (mC mX0_deepest) 22 = .ok (.invokestatic 77, 3) := by decide +kernel
theorem dX0_deepest_25 : decode (mC mX0_deepest) 25 = .ok (.aload_n 0, 1) := by decide +kernel
theorem dX0_deepest_26 : decode (mC mX0_deepest) 26 = .ok (.getfield 18, 3) := by decide +kernel
theorem dX0_deepest_29 : decode (mC mX0_deepest) 29 = .ok (.iload_n 1, 1) := by decide +kernel
theorem dX0_deepest_30 : decode (mC mX0_deepest) 30 = .ok (.invokestatic 77, 3) := by decide +kernel
theorem dX0_deepest_33 : decode (mC mX0_deepest) 33 = .ok (.if_icmp .le 5, 3) := by decide +kernel
theorem dX0_deepest_36 : decode (mC mX0_deepest) 36 = .ok (.iload_n 2, 1) := by decide +kernel
theorem dX0_deepest_37 : decode (mC mX0_deepest) 37 = .ok (.istore_n 1, 1) := by decide +kernel
theorem dX0_deepest_38 : decode (mC mX0_deepest) 38 = .ok (.iinc 2 1, 3) := by decide +kernel
theorem dX0_deepest_41 : decode (mC mX0_deepest) 41 = .ok (.goto (-37), 3) := by decide +kernel
theorem dX0_deepest_44 : decode (mC mX0_deepest) 44 = .ok (.iload_n 1, 1) := by decide +kernel
theorem dX0_deepest_45 : decode (mC mX0_deepest) 45 = .ok (.ireturn, 1) := by decide +kernel
theorem dX0_madeBy_0 : decode (mC mX0_madeBy) 0 = .ok (.iconst 0, 1) := by decide +kernel
theorem dX0_madeBy_1 : decode (mC mX0_madeBy) 1 = .ok (.istore_n 2, 1) := by decide +kernel
theorem dX0_madeBy_2 : decode (mC mX0_madeBy) 2 = .ok (.iconst 0, 1) := by decide +kernel
theorem dX0_madeBy_3 : decode (mC mX0_madeBy) 3 = .ok (.istore_n 3, 1) := by decide +kernel
theorem dX0_madeBy_4 : decode (mC mX0_madeBy) 4 = .ok (.iload_n 3, 1) := by decide +kernel
theorem dX0_madeBy_5 : decode (mC mX0_madeBy) 5 = .ok (.aload_n 0, 1) := by decide +kernel
theorem dX0_madeBy_6 : decode (mC mX0_madeBy) 6 = .ok (.getfield 85, 3) := by decide +kernel
theorem dX0_madeBy_9 : decode (mC mX0_madeBy) 9 = .ok (.if_icmp .ge 24, 3) := by decide +kernel
theorem dX0_madeBy_12 : decode (mC mX0_madeBy) 12 = .ok (.aload_n 0, 1) := by decide +kernel
theorem dX0_madeBy_13 : decode (mC mX0_madeBy) 13 = .ok (.getfield 24, 3) := by decide +kernel
theorem dX0_madeBy_16 : decode (mC mX0_madeBy) 16 = .ok (.iload_n 3, 1) := by decide +kernel
theorem dX0_madeBy_17 : decode (mC mX0_madeBy) 17 = .ok (.invokestatic 77, 3) := by decide +kernel
theorem dX0_madeBy_20 : decode (mC mX0_madeBy) 20 = .ok (.iload_n 1, 1) := by decide +kernel
theorem dX0_madeBy_21 : decode (mC mX0_madeBy) 21 = .ok (.if_icmp .ne 6, 3) := by decide +kernel
theorem dX0_madeBy_24 : decode (mC mX0_madeBy) 24 = .ok (.iinc 2 1, 3) := by decide +kernel
theorem dX0_madeBy_27 : decode (mC mX0_madeBy) 27 = .ok (.iinc 3 1, 3) := by decide +kernel
theorem dX0_madeBy_30 : decode (mC mX0_madeBy) 30 = .ok (.goto (-26), 3) := by decide +kernel
theorem dX0_madeBy_33 : decode (mC mX0_madeBy) 33 = .ok (.iload_n 2, 1) := by decide +kernel
theorem dX0_madeBy_34 : decode (mC mX0_madeBy) 34 = .ok (.ireturn, 1) := by decide +kernel
theorem dX0_taxOf_0 : decode (mC mX0_taxOf) 0 = .ok (.iconst 0, 1) := by decide +kernel
theorem dX0_taxOf_1 : decode (mC mX0_taxOf) 1 = .ok (.istore 4, 2) := by decide +kernel
theorem dX0_taxOf_3 : decode (mC mX0_taxOf) 3 = .ok (.iconst 0, 1) := by decide +kernel
theorem dX0_taxOf_4 : decode (mC mX0_taxOf) 4 = .ok (.istore 5, 2) := by decide +kernel
theorem dX0_taxOf_6 : decode (mC mX0_taxOf) 6 = .ok (.iload 5, 2) := by decide +kernel
theorem dX0_taxOf_8 : decode (mC mX0_taxOf) 8 = .ok (.aload_n 0, 1) := by decide +kernel
theorem dX0_taxOf_9 : decode (mC mX0_taxOf) 9 = .ok (.getfield 85, 3) := by decide +kernel
theorem dX0_taxOf_12 : decode (mC mX0_taxOf) 12 = .ok (.if_icmp .ge 40, 3) := by decide +kernel
theorem dX0_taxOf_15 : decode (mC mX0_taxOf) 15 = .ok (.iload_n 3, 1) := by decide +kernel
theorem dX0_taxOf_16 : decode (mC mX0_taxOf) 16 = .ok (.iconst (-1), 1) := by decide +kernel
theorem dX0_taxOf_17 : decode (mC mX0_taxOf) 17 = .ok (.if_icmp .eq 16, 3) := by decide +kernel
theorem dX0_taxOf_20 : decode (mC mX0_taxOf) 20 = .ok (.aload_n 0, 1) := by decide +kernel
theorem dX0_taxOf_21 : decode (mC mX0_taxOf) 21 = .ok (.getfield 24, 3) := by decide +kernel
theorem dX0_taxOf_24 : decode (mC mX0_taxOf) 24 = .ok (.iload 5, 2) := by decide +kernel
theorem dX0_taxOf_26 : decode (mC mX0_taxOf) 26 = .ok (.invokestatic 77, 3) := by decide +kernel
theorem dX0_taxOf_29 : decode (mC mX0_taxOf) 29 = .ok (.iload_n 3, 1) := by decide +kernel
theorem dX0_taxOf_30 : decode (mC mX0_taxOf) 30 = .ok (.if_icmp .ne 16, 3) := by decide +kernel
theorem dX0_taxOf_33 : decode (mC mX0_taxOf) 33 = .ok (.iload 4, 2) := by decide +kernel
theorem dX0_taxOf_35 : decode (mC mX0_taxOf) 35 = .ok (.aload_n 0, 1) := by decide +kernel
theorem dX0_taxOf_36 : decode (mC mX0_taxOf) 36 = .ok (.aload_n 1, 1) := by decide +kernel
theorem dX0_taxOf_37 : decode (mC mX0_taxOf) 37 = .ok (.iload_n 2, 1) := by decide +kernel
theorem dX0_taxOf_38 : decode (mC mX0_taxOf) 38 = .ok (.iload 5, 2) := by decide +kernel
theorem dX0_taxOf_40 : decode (mC mX0_taxOf) 40 = .ok (.invokevirtual 157, 3) := by decide +kernel
theorem dX0_taxOf_43 : decode (mC mX0_taxOf) 43 = .ok (.iadd, 1) := by decide +kernel
theorem dX0_taxOf_44 : decode (mC mX0_taxOf) 44 = .ok (.istore 4, 2) := by decide +kernel
theorem dX0_taxOf_46 : decode (mC mX0_taxOf) 46 = .ok (.iinc 5 1, 3) := by decide +kernel
theorem dX0_taxOf_49 : decode (mC mX0_taxOf) 49 = .ok (.goto (-43), 3) := by decide +kernel
theorem dX0_taxOf_52 : decode (mC mX0_taxOf) 52 = .ok (.iload 4, 2) := by decide +kernel
theorem dX0_taxOf_54 : decode (mC mX0_taxOf) 54 = .ok (.ireturn, 1) := by decide +kernel
theorem dX0_dueFor_0 : decode (mC mX0_dueFor) 0 = .ok (.iload_n 2, 1) := by decide +kernel
theorem dX0_dueFor_1 : decode (mC mX0_dueFor) 1 = .ok (.ifCond .ne 5, 3) := by decide +kernel
theorem dX0_dueFor_4 : decode (mC mX0_dueFor) 4 = .ok (.iconst 1, 1) := by decide +kernel
theorem dX0_dueFor_5 : decode (mC mX0_dueFor) 5 = .ok (.ireturn, 1) := by decide +kernel
theorem dX0_dueFor_6 : decode (mC mX0_dueFor) 6 = .ok (.aload_n 1, 1) := by decide +kernel
theorem dX0_dueFor_7 : decode (mC mX0_dueFor) 7 = .ok (.aload_n 0, 1) := by decide +kernel
theorem dX0_dueFor_8 : decode (mC mX0_dueFor) 8 = .ok (.getfield 24, 3) := by decide +kernel
theorem dX0_dueFor_11 : decode (mC mX0_dueFor) 11 = .ok (.iload_n 3, 1) := by decide +kernel
theorem dX0_dueFor_12 : decode (mC mX0_dueFor) 12 = .ok (.invokestatic 77, 3) := by decide +kernel
theorem dX0_dueFor_15 : decode (mC mX0_dueFor) 15 = .ok (.invokevirtual 88, 3) := by decide +kernel
theorem dX0_dueFor_18 : decode (mC mX0_dueFor) 18 = .ok (.astore 4, 2) := by decide +kernel
theorem dX0_dueFor_20 : decode (mC mX0_dueFor) 20 = .ok (.iload_n 2, 1) := by decide +kernel
theorem dX0_dueFor_21 : decode (mC mX0_dueFor) 21 = .ok (.iconst 1, 1) := by decide +kernel
theorem dX0_dueFor_22 : decode (mC mX0_dueFor) 22 = .ok (.if_icmp .ne 14, 3) := by decide +kernel
theorem dX0_dueFor_25 : decode (mC mX0_dueFor) 25 = .ok (.aload 4, 2) := by decide +kernel
theorem dX0_dueFor_27 : decode (mC mX0_dueFor) 27 = .ok (.ifnull 9, 3) := by decide +kernel
theorem dX0_dueFor_30 : decode (mC mX0_dueFor) 30 = .ok (.aload 4, 2) := by decide +kernel
theorem dX0_dueFor_32 : decode (mC mX0_dueFor) 32 = .ok (.getfield 113, 3) := by decide +kernel
theorem dX0_dueFor_35 : decode (mC mX0_dueFor) 35 = .ok (.ireturn, 1) := by decide +kernel
theorem dX0_dueFor_36 : decode (mC mX0_dueFor) 36 = .ok (.aload_n 0, 1) := by decide +kernel
theorem dX0_dueFor_37 : decode (mC mX0_dueFor) 37 = .ok (.getfield 18, 3) := by decide +kernel
theorem dX0_dueFor_40 : decode (mC mX0_dueFor) 40 = .ok (.iload_n 3, 1) := by decide +kernel
theorem dX0_dueFor_41 : decode (mC mX0_dueFor) 41 = .ok (.invokestatic 77, 3) := by decide +kernel
theorem dX0_dueFor_44 : decode (mC mX0_dueFor) 44 = .ok (.ireturn, 1) := by decide +kernel
theorem dX0_shareOf_0 : decode (mC mX0_shareOf) 0 = .ok (.iconst 0, 1) := by decide +kernel
theorem dX0_shareOf_1 : decode (mC mX0_shareOf) 1 = .ok (.istore_n 2, 1) := by decide +kernel
theorem dX0_shareOf_2 : decode (mC mX0_shareOf) 2 = .ok (.iconst 0, 1) := by decide +kernel
theorem dX0_shareOf_3 : decode (mC mX0_shareOf) 3 = .ok (.istore_n 3, 1) := by decide +kernel
theorem dX0_shareOf_4 : decode (mC mX0_shareOf) 4 = .ok (.iload_n 3, 1) := by decide +kernel
theorem dX0_shareOf_5 : decode (mC mX0_shareOf) 5 = .ok (.aload_n 0, 1) := by decide +kernel
theorem dX0_shareOf_6 : decode (mC mX0_shareOf) 6 = .ok (.getfield 85, 3) := by decide +kernel
theorem dX0_shareOf_9 : decode (mC mX0_shareOf) 9 = .ok (.if_icmp .ge 44, 3) := by decide +kernel
theorem dX0_shareOf_12 : decode (mC mX0_shareOf) 12 = .ok (.aload_n 0, 1) := by decide +kernel
theorem dX0_shareOf_13 : decode (mC mX0_shareOf) 13 = .ok (.getfield 27, 3) := by decide +kernel
theorem dX0_shareOf_16 : decode (mC mX0_shareOf) 16 = .ok (.iload_n 3, 1) := by decide +kernel
theorem dX0_shareOf_17 : decode (mC mX0_shareOf) 17 = .ok (.invokestatic 77, 3) := by decide +kernel
theorem dX0_shareOf_20 : decode (mC mX0_shareOf) 20 = .ok (.istore 4, 2) := by decide +kernel
theorem dX0_shareOf_22 : decode (mC mX0_shareOf) 22 = .ok (.iload 4, 2) := by decide +kernel
theorem dX0_shareOf_24 : decode (mC mX0_shareOf) 24 = .ok (.iload_n 1, 1) := by decide +kernel
theorem dX0_shareOf_25 : decode (mC mX0_shareOf) 25 = .ok (.ishr, 1) := by decide +kernel
theorem dX0_shareOf_26 : decode (mC mX0_shareOf) 26 = .ok (.iconst 1, 1) := by decide +kernel
theorem dX0_shareOf_27 : decode (mC mX0_shareOf) 27 = .ok (.iand, 1) := by decide +kernel
theorem dX0_shareOf_28 : decode (mC mX0_shareOf) 28 = .ok (.iconst 1, 1) := by decide +kernel
theorem dX0_shareOf_29 : decode (mC mX0_shareOf) 29 = .ok (.if_icmp .ne 18, 3) := by decide +kernel
theorem dX0_shareOf_32 : decode (mC mX0_shareOf) 32 = .ok (.iload_n 2, 1) := by decide +kernel
theorem dX0_shareOf_33 : decode (mC mX0_shareOf) 33 = .ok (.bipush 60, 2) := by decide +kernel
theorem dX0_shareOf_35 : decode (mC mX0_shareOf) 35 = .ok (.iconst 1, 1) := by decide +kernel
theorem dX0_shareOf_36 : decode (mC mX0_shareOf) 36 = .ok (.iload 4, 2) := by decide +kernel
theorem dX0_shareOf_38 : decode (mC mX0_shareOf) 38 = .ok (.invokestatic 161, 3) := by decide +kernel
theorem dX0_shareOf_41 : decode (mC mX0_shareOf) 41 = .ok (.invokestatic 140, 3) := by decide +kernel
theorem dX0_shareOf_44 : decode (mC mX0_shareOf) 44 = .ok (.idiv, 1) := by decide +kernel
theorem dX0_shareOf_45 : decode (mC mX0_shareOf) 45 = .ok (.iadd, 1) := by decide +kernel
theorem dX0_shareOf_46 : decode (mC mX0_shareOf) 46 = .ok (.istore_n 2, 1) := by decide +kernel
theorem dX0_shareOf_47 : decode (mC mX0_shareOf) 47 = .ok (.iinc 3 1, 3) := by decide +kernel
theorem dX0_shareOf_50 : decode (mC mX0_shareOf) 50 = .ok (.goto (-46), 3) := by decide +kernel
theorem dX0_shareOf_53 : decode (mC mX0_shareOf) 53 = .ok (.iload_n 2, 1) := by decide +kernel
theorem dX0_shareOf_54 : decode (mC mX0_shareOf) 54 = .ok (.ireturn, 1) := by decide +kernel
theorem dX0_showTops_0 : decode (mC mX0_showTops) 0 = .ok (.iconst 0, 1) := by decide +kernel
theorem dX0_showTops_1 : decode (mC mX0_showTops) 1 = .ok (.istore_n 2, 1) := by decide +kernel
theorem dX0_showTops_2 : decode (mC mX0_showTops) 2 = .ok (.iload_n 2, 1) := by decide +kernel
theorem dX0_showTops_3 : decode (mC mX0_showTops) 3 = .ok (.aload_n 0, 1) := by decide +kernel
theorem dX0_showTops_4 : decode (mC mX0_showTops) 4 = .ok (.getfield 30, 3) := by decide +kernel
theorem dX0_showTops_7 : decode (mC mX0_showTops) 7 = .ok (.arraylength, 1) := by decide +kernel
theorem dX0_showTops_8 : decode (mC mX0_showTops) 8 = .ok (.if_icmp .ge 38, 3) := by decide +kernel
theorem dX0_showTops_11 : decode (mC mX0_showTops) 11 = .ok (.aload_n 0, 1) := by decide +kernel
theorem dX0_showTops_12 : decode (mC mX0_showTops) 12 = .ok (.getfield 30, 3) := by decide +kernel
theorem dX0_showTops_15 : decode (mC mX0_showTops) 15 = .ok (.iload_n 2, 1) := by decide +kernel
theorem dX0_showTops_16 : decode (mC mX0_showTops) 16 = .ok (.iaload, 1) := by decide +kernel
theorem dX0_showTops_17 : decode (mC mX0_showTops) 17 = .ok (.istore_n 3, 1) := by decide +kernel
theorem dX0_showTops_18 : decode (mC mX0_showTops) 18 = .ok (.aload_n 1, 1) := by decide +kernel
theorem dX0_showTops_19 : decode (mC mX0_showTops) 19 = .ok (.iload_n 2, 1) := by decide +kernel
theorem dX0_showTops_20 : decode (mC mX0_showTops) 20 = .ok (.iload_n 3, 1) := by decide +kernel
theorem dX0_showTops_21 : decode (mC mX0_showTops) 21 = .ok (.iconst (-1), 1) := by decide +kernel
theorem dX0_showTops_22 : decode (mC mX0_showTops) 22 = .ok (.if_icmp .ne 7, 3) := by decide +kernel
theorem dX0_showTops_25 : decode (mC mX0_showTops) 25 = .ok (.iconst (-1), 1) := by decide +kernel
theorem dX0_showTops_26 : decode (mC mX0_showTops) 26 = .ok (.goto 11, 3) := by decide +kernel
theorem dX0_showTops_29 : decode (mC mX0_showTops) 29 = .ok (.aload_n 0, 1) := by decide +kernel
theorem dX0_showTops_30 : decode (mC mX0_showTops) 30 = .ok (.getfield 15, 3) := by decide +kernel
theorem dX0_showTops_33 : decode (mC mX0_showTops) 33 = .ok (.iload_n 3, 1) := by decide +kernel
theorem dX0_showTops_34 : decode (mC mX0_showTops) 34 = .ok (.invokestatic 77, 3) := by decide +kernel
theorem dX0_showTops_37 : decode (mC mX0_showTops) 37 = .ok (.invokestatic 70, 3) := by decide +kernel
theorem dX0_showTops_40 : decode (mC mX0_showTops) 40 = .ok (.iinc 2 1, 3) := by decide +kernel
theorem dX0_showTops_43 : decode (mC mX0_showTops) 43 = .ok (.goto (-41), 3) := by decide +kernel
theorem dX0_showTops_46 : decode (mC mX0_showTops) 46 = .ok (.return_, 1) := by decide +kernel
theorem dX1_init_0 : decode (mC mX1_init) 0 = .ok (.aload_n 0, 1) := by decide +kernel
theorem dX1_init_1 : decode (mC mX1_init) 1 = .ok (.invokespecial 3, 3) := by decide +kernel
theorem dX1_init_4 : decode (mC mX1_init) 4 = .ok (.aload_n 0, 1) := by decide +kernel
theorem dX1_init_5 : decode (mC mX1_init) 5 = .ok (.bipush 6, 2) := by decide +kernel
theorem dX1_init_7 : decode (mC mX1_init) 7 = .ok (.anewarray 9, 3) := by decide +kernel
theorem dX1_init_10 : decode (mC mX1_init) 10 = .ok (.putfield 11, 3) := by decide +kernel
theorem dX1_init_13 : decode (mC mX1_init) 13 = .ok (.aload_n 0, 1) := by decide +kernel
theorem dX1_init_14 : decode (mC mX1_init) 14 = .ok (.iconst 5, 1) := by decide +kernel
theorem dX1_init_15 : decode (mC mX1_init) 15 = .ok (.newarray .int, 2) := by decide +kernel
theorem dX1_init_17 : decode (mC mX1_init) 17 = .ok (.putfield 17, 3) := by decide +kernel
theorem dX1_init_20 : decode (mC mX1_init) 20 = .ok (.aload_n 0, 1) := by decide +kernel
theorem dX1_init_21 : decode (mC mX1_init) 21 = .ok (.iconst 5, 1) := by decide +kernel
theorem dX1_init_22 : decode (mC mX1_init) 22 = .ok (.newarray .int, 2) := by decide +kernel
theorem dX1_init_24 : decode (mC mX1_init) 24 = .ok (.putfield 21, 3) := by decide +kernel
theorem dX1_init_27 : decode (mC mX1_init) 27 = .ok (.aload_n 0, 1) := by decide +kernel
theorem dX1_init_28 : decode (mC mX1_init) 28 = .ok (.iconst 5, 1) := by decide +kernel
theorem dX1_init_29 : decode (mC mX1_init) 29 = .ok (.newarray .int, 2) := by decide +kernel
theorem dX1_init_31 : decode (mC mX1_init) 31 = .ok (.putfield 24, 3) := by decide +kernel
theorem dX1_init_34 : decode (mC mX1_init) 34 = .ok (.aload_n 0, 1) := by decide +kernel
theorem dX1_init_35 : decode (mC mX1_init) 35 = .ok (.bipush 100, 2) := by decide +kernel
theorem dX1_init_37 : decode (mC mX1_init) 37 = .ok (.newarray .int, 2) := by decide +kernel
theorem dX1_init_39 : decode (mC mX1_init) 39 = .ok (.putfield 27, 3) := by decide +kernel
theorem dX1_init_42 : decode (mC mX1_init) 42 = .ok (.iconst 0, 1) := by decide +kernel
theorem dX1_init_43 : decode (mC mX1_init) 43 = .ok (.istore_n 1, 1) := by decide +kernel
theorem dX1_init_44 : decode (mC mX1_init) 44 = .ok (.iload_n 1, 1) := by decide +kernel
theorem dX1_init_45 : decode (mC mX1_init) 45 = .ok (.aload_n 0, 1) := by decide +kernel
theorem dX1_init_46 : decode (mC mX1_init) 46 = .ok (.getfield 11, 3) := by decide +kernel
theorem dX1_init_49 : decode (mC mX1_init) 49 = .ok (.arraylength, 1) := by decide +kernel
theorem dX1_init_50 : decode (mC mX1_init) 50 = .ok (.if_icmp .ge 22, 3) := by decide +kernel
theorem dX1_init_53 : decode (mC mX1_init) 53 = .ok (.aload_n 0, 1) := by decide +kernel
theorem dX1_init_54 : decode (mC mX1_init) 54 = .ok (.getfield 11, 3) := by decide +kernel
theorem dX1_init_57 : decode (mC mX1_init) 57 = .ok (.iload_n 1, 1) := by decide +kernel
theorem dX1_init_58 : decode (mC mX1_init) 58 = .ok (.new 9, 3) := by decide +kernel
theorem dX1_init_61 : decode (mC mX1_init) 61 = .ok (.dup, 1) := by decide +kernel
theorem dX1_init_62 : decode (mC mX1_init) 62 = .ok (.invokespecial 30, 3) := by decide +kernel
theorem dX1_init_65 : decode (mC mX1_init) 65 = .ok (.aastore, 1) := by decide +kernel
theorem dX1_init_66 : decode (mC mX1_init) 66 = .ok (.iinc 1 1, 3) := by decide +kernel
theorem dX1_init_69 : decode (mC mX1_init) 69 = .ok (.goto (-25), 3) := by decide +kernel
theorem dX1_init_72 : decode (mC mX1_init) 72 = .ok (.aload_n 0, 1) := by decide +kernel
theorem dX1_init_73 : decode (mC mX1_init) 73 = .ok (.invokevirtual 31, 3) := by decide +kernel
theorem dX1_init_76 : decode (mC mX1_init) 76 = .ok (.return_, 1) := by decide +kernel
theorem dX1_clear_0 : decode (mC mX1_clear) 0 = .ok (.aload_n 0, 1) := by decide +kernel
theorem dX1_clear_1 : decode (mC mX1_clear) 1 = .ok (.bipush 6, 2) := by decide +kernel
theorem dX1_clear_3 : decode (mC mX1_clear) 3 = .ok (.putfield 34, 3) := by decide +kernel
theorem dX1_clear_6 : decode (mC mX1_clear) 6 = .ok (.aload_n 0, 1) := by decide +kernel
theorem dX1_clear_7 : decode (mC mX1_clear) 7 = .ok (.bipush 6, 2) := by decide +kernel
theorem dX1_clear_9 : decode (mC mX1_clear) 9 = .ok (.putfield 38, 3) := by decide +kernel
theorem dX1_clear_12 : decode (mC mX1_clear) 12 = .ok (.aload_n 0, 1) := by decide +kernel
theorem dX1_clear_13 : decode (mC mX1_clear) 13 = .ok (.iconst 2, 1) := by decide +kernel
theorem dX1_clear_14 : decode (mC mX1_clear) 14 = .ok (.putfield 41, 3) := by decide +kernel
theorem dX1_clear_17 : decode (mC mX1_clear) 17 = .ok (.aload_n 0, 1) := by decide +kernel
theorem dX1_clear_18 : decode (mC mX1_clear) 18 = .ok (.iconst 0, 1) := by decide +kernel
theorem dX1_clear_19 : decode (mC mX1_clear) 19 = .ok (.putfield 44, 3) := by decide +kernel
theorem dX1_clear_22 : decode (mC mX1_clear) 22 = .ok (.aload_n 0, 1) := by decide +kernel
theorem dX1_clear_23 : decode (mC mX1_clear) 23 = .ok (.iconst 0, 1) := by decide +kernel
theorem dX1_clear_24 : decode (mC mX1_clear) 24 = .ok (.putfield 47, 3) := by decide +kernel
theorem dX1_clear_27 : decode (mC mX1_clear) 27 = .ok (.iconst 0, 1) := by decide +kernel
theorem dX1_clear_28 : decode (mC mX1_clear) 28 = .ok (.istore_n 1, 1) := by decide +kernel
theorem dX1_clear_29 : decode (mC mX1_clear) 29 = .ok (.iload_n 1, 1) := by decide +kernel
theorem dX1_clear_30 : decode (mC mX1_clear) 30 = .ok (.aload_n 0, 1) := by decide +kernel
theorem dX1_clear_31 : decode (mC mX1_clear) 31 = .ok (.getfield 11, 3) := by decide +kernel
theorem dX1_clear_34 : decode (mC mX1_clear) 34 = .ok (.arraylength, 1) := by decide +kernel
theorem dX1_clear_35 : decode (mC mX1_clear) 35 = .ok (.if_icmp .ge 18, 3) := by decide +kernel
theorem dX1_clear_38 : decode (mC mX1_clear) 38 = .ok (.aload_n 0, 1) := by decide +kernel
theorem dX1_clear_39 : decode (mC mX1_clear) 39 = .ok (.getfield 11, 3) := by decide +kernel
theorem dX1_clear_42 : decode (mC mX1_clear) 42 = .ok (.iload_n 1, 1) := by decide +kernel
theorem dX1_clear_43 : decode (mC mX1_clear) 43 = .ok (.aaload, 1) := by decide +kernel
theorem dX1_clear_44 : decode (mC mX1_clear) 44 = .ok (.invokevirtual 50, 3) := by decide +kernel
theorem dX1_clear_47 : decode (mC mX1_clear) 47 = .ok (.iinc 1 1, 3) := by decide +kernel
theorem dX1_clear_50 : decode (mC mX1_clear) 50 = .ok (.goto (-21), 3) := by decide +kernel
theorem dX1_clear_53 : decode (mC mX1_clear) 53 = .ok (.aload_n 0, 1) := by decide +kernel
theorem dX1_clear_54 : decode (mC mX1_clear) 54 = .ok (.getfield 27, 3) := by decide +kernel
theorem dX1_clear_57 : decode (mC mX1_clear) 57 = .ok (.iconst 0, 1) := by decide +kernel
theorem dX1_clear_58 : decode (mC mX1_clear) 58 = .ok (.invokestatic 51, 3) := by decide +kernel
theorem dX1_clear_61 : decode (mC mX1_clear) 61 = .ok (.return_, 1) := by decide +kernel
theorem dX1_copyFrom_0 : decode (mC mX1_copyFrom) 0 = .ok (.aload_n 0, 1) := by decide +kernel
theorem dX1_copyFrom_1 : decode (mC mX1_copyFrom) 1 = .ok (.aload_n 1, 1) := by decide +kernel
theorem dX1_copyFrom_2 : decode (mC mX1_copyFrom) 2 = .ok (.getfield 34, 3) := by decide +kernel
theorem dX1_copyFrom_5 : decode (mC mX1_copyFrom) 5 = .ok (.putfield 34, 3) := by decide +kernel
theorem dX1_copyFrom_8 : decode (mC mX1_copyFrom) 8 = .ok (.aload_n 0, 1) := by decide +kernel
theorem dX1_copyFrom_9 : decode (mC mX1_copyFrom) 9 = .ok (.aload_n 1, 1) := by decide +kernel
theorem dX1_copyFrom_10 : decode (mC mX1_copyFrom) 10 = .ok (.getfield 38, 3) := by decide +kernel
theorem dX1_copyFrom_13 : decode (mC mX1_copyFrom) 13 = .ok (.putfield 38, 3) := by decide +kernel
theorem dX1_copyFrom_16 : decode (mC mX1_copyFrom) 16 = .ok (.aload_n 0, 1) := by decide +kernel
theorem dX1_copyFrom_17 : decode (mC mX1_copyFrom) 17 = .ok (.aload_n 1, 1) := by decide +kernel
theorem dX1_copyFrom_18 : decode (mC mX1_copyFrom) 18 = .ok (.getfield 41, 3) := by decide +kernel
theorem dX1_copyFrom_21 : decode (mC mX1_copyFrom) 21 = .ok (.putfield 41, 3) := by decide +kernel
theorem dX1_copyFrom_24 : decode (mC mX1_copyFrom) 24 = .ok (.aload_n 0, 1) := by decide +kernel
theorem dX1_copyFrom_25 : decode (mC mX1_copyFrom) 25 = .ok (.aload_n 1, 1) := by decide +kernel
theorem dX1_copyFrom_26 : decode (mC mX1_copyFrom) 26 = .ok (.getfield 44, 3) := by decide +kernel
theorem dX1_copyFrom_29 : decode (mC mX1_copyFrom) 29 = .ok (.putfield 44, 3) := by decide +kernel
theorem dX1_copyFrom_32 : decode (mC mX1_copyFrom) 32 = .ok (.aload_n 0, 1) := by decide +kernel
theorem dX1_copyFrom_33 : decode (mC mX1_copyFrom) 33 = .ok (.aload_n 1, 1) := by decide +kernel
theorem dX1_copyFrom_34 : decode (mC mX1_copyFrom) 34 = .ok (.getfield 47, 3) := by decide +kernel
theorem dX1_copyFrom_37 : decode (mC mX1_copyFrom) 37 = .ok (.putfield 47, 3) := by decide +kernel
theorem dX1_copyFrom_40 : decode (mC mX1_copyFrom) 40 = .ok (.iconst 0, 1) := by decide +kernel
theorem dX1_copyFrom_41 : decode (mC mX1_copyFrom) 41 = .ok (.istore_n 2, 1) := by decide +kernel
theorem dX1_copyFrom_42 : decode (mC mX1_copyFrom) 42 = .ok (.iload_n 2, 1) := by decide +kernel
theorem dX1_copyFrom_43 : decode (mC mX1_copyFrom) 43 = .ok (.aload_n 0, 1) := by decide +kernel
theorem dX1_copyFrom_44 : decode (mC mX1_copyFrom) 44 = .ok (.getfield 11, 3) := by decide +kernel
theorem dX1_copyFrom_47 : decode (mC mX1_copyFrom) 47 = .ok (.arraylength, 1) := by decide +kernel
theorem dX1_copyFrom_48 : decode (mC mX1_copyFrom) 48 = .ok (.if_icmp .ge 33, 3) := by decide +kernel
theorem dX1_copyFrom_51 : decode (mC mX1_copyFrom) 51 = .ok (.iload_n 2, 1) := by decide +kernel
theorem dX1_copyFrom_52 : decode (mC mX1_copyFrom) 52 = .ok (.aload_n 1, 1) := by decide +kernel
theorem dX1_copyFrom_53 : decode (mC mX1_copyFrom) 53 = .ok (.getfield 11, 3) := by decide +kernel
theorem dX1_copyFrom_56 : decode (mC mX1_copyFrom) 56 = .ok (.arraylength, 1) := by decide +kernel
theorem dX1_copyFrom_57 : decode (mC mX1_copyFrom) 57 = .ok (.if_icmp .ge 24, 3) := by decide +kernel
theorem dX1_copyFrom_60 : decode (mC mX1_copyFrom) 60 = .ok (.aload_n 0, 1) := by decide +kernel
theorem dX1_copyFrom_61 : decode (mC mX1_copyFrom) 61 = .ok (.getfield 11, 3) := by decide +kernel
theorem dX1_copyFrom_64 : decode (mC mX1_copyFrom) 64 = .ok (.iload_n 2, 1) := by decide +kernel
theorem dX1_copyFrom_65 : decode (mC mX1_copyFrom) 65 = .ok (.aaload, 1) := by decide +kernel
theorem dX1_copyFrom_66 : decode (mC mX1_copyFrom) 66 = .ok (.aload_n 1, 1) := by decide +kernel
theorem dX1_copyFrom_67 : decode (mC mX1_copyFrom) 67 = .ok (.getfield 11, 3) := by decide +kernel
theorem dX1_copyFrom_70 : decode (mC mX1_copyFrom) 70 = .ok (.iload_n 2, 1) := by decide +kernel
theorem dX1_copyFrom_71 : decode (mC mX1_copyFrom) 71 = .ok (.aaload, 1) := by decide +kernel
theorem dX1_copyFrom_72 : decode (mC mX1_copyFrom) 72 = .ok (.invokevirtual 57, 3) := by decide +kernel
theorem dX1_copyFrom_75 : decode (mC mX1_copyFrom) 75 = .ok (.iinc 2 1, 3) := by decide +kernel
theorem dX1_copyFrom_78 : decode (mC mX1_copyFrom) 78 = .ok (.goto (-36), 3) := by decide +kernel
theorem dX1_copyFrom_81 : decode (mC mX1_copyFrom) 81 = .ok (.aload_n 1, 1) := by decide +kernel
theorem dX1_copyFrom_82 : decode (mC mX1_copyFrom) 82 = .ok (.getfield 17, 3) := by decide +kernel
theorem dX1_copyFrom_85 : decode (mC mX1_copyFrom) 85 = .ok (.aload_n 0, 1) := by decide +kernel
theorem dX1_copyFrom_86 : decode (mC mX1_copyFrom) 86 = .ok (.getfield 17, 3) := by decide +kernel
theorem dX1_copyFrom_89 : decode (mC mX1_copyFrom) 89 = .ok (.invokestatic 61, 3) := by decide +kernel
theorem dX1_copyFrom_92 : decode (mC mX1_copyFrom) 92 = .ok (.aload_n 1, 1) := by decide +kernel
theorem dX1_copyFrom_93 : decode (mC mX1_copyFrom) 93 = .ok (.getfield 21, 3) := by decide +kernel
theorem dX1_copyFrom_96 : decode (mC mX1_copyFrom) 96 = .ok (.aload_n 0, 1) := by decide +kernel
theorem dX1_copyFrom_97 : decode (mC mX1_copyFrom) 97 = .ok (.getfield 21, 3) := by decide +kernel
theorem dX1_copyFrom_100 : decode (mC mX1_copyFrom) 100 = .ok (.invokestatic 61, 3) := by decide +kernel
theorem dX1_copyFrom_103 : decode (mC mX1_copyFrom) 103 = .ok (.aload_n 1, 1) := by decide +kernel
theorem dX1_copyFrom_104 : decode (mC mX1_copyFrom) 104 = .ok (.getfield 24, 3) := by decide +kernel
theorem dX1_copyFrom_107 : decode (mC mX1_copyFrom) 107 = .ok (.aload_n 0, 1) := by decide +kernel
theorem dX1_copyFrom_108 : decode (mC mX1_copyFrom) 108 = .ok (.getfield 24, 3) := by decide +kernel
theorem dX1_copyFrom_111 : decode (mC mX1_copyFrom) 111 = .ok (.invokestatic 61, 3) := by decide +kernel
theorem dX1_copyFrom_114 : decode (mC mX1_copyFrom) 114 = .ok (.aload_n 1, 1) := by decide +kernel
theorem dX1_copyFrom_115 : decode (mC mX1_copyFrom) 115 = .ok (.getfield 27, 3) := by decide +kernel
theorem dX1_copyFrom_118 : decode (mC mX1_copyFrom) 118 = .ok (.aload_n 0, 1) := by decide +kernel
theorem dX1_copyFrom_119 : decode (mC mX1_copyFrom) 119 = .ok (.getfield 27, 3) := by decide +kernel
theorem dX1_copyFrom_122 : decode (mC mX1_copyFrom) 122 = .ok (.invokestatic 61, 3) := by decide +kernel
theorem dX1_copyFrom_125 : decode (mC mX1_copyFrom) 125 = .ok (.return_, 1) := by decide +kernel
theorem dX1_member_0 : decode (mC mX1_member) 0 = .ok (.iload_n 1, 1) := by decide +kernel
theorem dX1_member_1 : decode (mC mX1_member) 1 = .ok (.aload_n 0, 1) := by decide +kernel
theorem dX1_member_2 : decode (mC mX1_member) 2 = .ok (.getfield 44, 3) := by decide +kernel
theorem dX1_member_5 : decode (mC mX1_member) 5 = .ok (.if_icmp .ge 11, 3) := by decide +kernel
theorem dX1_member_8 : decode (mC mX1_member) 8 = .ok (.aload_n 0, 1) := by decide +kernel
theorem dX1_member_9 : decode (mC mX1_member) 9 = .ok (.iload_n 1, 1) := by decide +kernel
theorem dX1_member_10 : decode (mC mX1_member) 10 = .ok (.invokevirtual 65, 3) := by decide +kernel
theorem dX1_member_13 : decode (mC mX1_member) 13 = .ok (.goto 4, 3) := by decide +kernel
theorem dX1_member_16 : decode (mC mX1_member) 16 = .ok (.aconst_null, 1) := by decide +kernel
theorem dX1_member_17 : decode (mC mX1_member) 17 = .ok (.areturn, 1) := by decide +kernel
theorem dX1_slot_0 : decode (mC mX1_slot) 0 = .ok (.iload_n 1, 1) := by decide +kernel
theorem dX1_slot_1 : decode (mC mX1_slot) 1 = .ok (.ifCond .lt 21, 3) := by decide +kernel
theorem dX1_slot_4 : decode (mC mX1_slot) 4 = .ok (.iload_n 1, 1) := by decide +kernel
theorem dX1_slot_5 : decode (mC mX1_slot) 5 = .ok (.aload_n 0, 1) := by decide +kernel
theorem dX1_slot_6 : decode (mC mX1_slot) 6 = .ok (.getfield 11, 3) := by decide +kernel
theorem dX1_slot_9 : decode (mC mX1_slot) 9 = .ok (.arraylength, 1) := by decide +kernel
theorem dX1_slot_10 : decode (mC mX1_slot) 10 = .ok (.if_icmp .ge 12, 3) := by decide +kernel
theorem dX1_slot_13 : decode (mC mX1_slot) 13 = .ok (.aload_n 0, 1) := by decide +kernel
theorem dX1_slot_14 : decode (mC mX1_slot) 14 = .ok (.getfield 11, 3) := by decide +kernel
theorem dX1_slot_17 : decode (mC mX1_slot) 17 = .ok (.iload_n 1, 1) := by decide +kernel
theorem dX1_slot_18 : decode (mC mX1_slot) 18 = .ok (.aaload, 1) := by decide +kernel
theorem dX1_slot_19 : decode (mC mX1_slot) 19 = .ok (.goto 4, 3) := by decide +kernel
theorem dX1_slot_22 : decode (mC mX1_slot) 22 = .ok (.aconst_null, 1) := by decide +kernel
theorem dX1_slot_23 : decode (mC mX1_slot) 23 = .ok (.areturn, 1) := by decide +kernel
theorem dX1_cells_0 : decode (mC mX1_cells) 0 = .ok (.aload_n 0, 1) := by decide +kernel
theorem dX1_cells_1 : decode (mC mX1_cells) 1 = .ok (.getfield 34, 3) := by decide +kernel
theorem dX1_cells_4 : decode (mC mX1_cells) 4 = .ok (.aload_n 0, 1) := by decide +kernel
theorem dX1_cells_5 : decode (mC mX1_cells) 5 = .ok (.getfield 38, 3) := by decide +kernel
theorem dX1_cells_8 : decode (mC mX1_cells) 8 = .ok (.imul, 1) := by decide +kernel
theorem dX1_cells_9 : decode (mC mX1_cells) 9 = .ok (.ireturn, 1) := by decide +kernel
theorem dX1_hasCell_0 : decode (mC mX1_hasCell) 0 = .ok (.iload_n 1, 1) := by decide +kernel
theorem dX1_hasCell_1 : decode (mC mX1_hasCell) 1 = .ok (.ifCond .lt 15, 3) := by decide +kernel
theorem dX1_hasCell_4 : decode (mC mX1_hasCell) 4 = .ok (.iload_n 1, 1) := by decide +kernel
theorem dX1_hasCell_5 : decode (mC mX1_hasCell) 5 = .ok (.aload_n 0, 1) := by decide +kernel
theorem dX1_hasCell_6 : decode (mC mX1_hasCell) 6 = .ok (.invokevirtual 69, 3) := by decide +kernel
theorem dX1_hasCell_9 : decode (mC mX1_hasCell) 9 = .ok (.if_icmp .ge 7, 3) := by decide +kernel
theorem dX1_hasCell_12 : decode (mC mX1_hasCell) 12 = .ok (.iconst 1, 1) := by decide +kernel
theorem dX1_hasCell_13 : decode (mC mX1_hasCell) 13 = .ok (.goto 4, 3) := by decide +kernel
theorem dX1_hasCell_16 : decode (mC mX1_hasCell) 16 = .ok (.iconst 0, 1) := by decide +kernel
theorem dX1_hasCell_17 : decode (mC mX1_hasCell) 17 = .ok (.ireturn, 1) := by decide +kernel
theorem dX1_rainyMinutes_0 : decode (mC mX1_rainyMinutes) 0 = .ok (.iconst 0, 1) := by decide +kernel
theorem dX1_rainyMinutes_1 : decode (mC mX1_rainyMinutes) 1 = .ok (.istore_n 1, 1) := by decide +kernel
theorem dX1_rainyMinutes_2 : decode (mC mX1_rainyMinutes) 2 = .ok (.iconst 0, 1) := by decide +kernel
theorem dX1_rainyMinutes_3 : decode (mC mX1_rainyMinutes) 3 = .ok (.istore_n 2, 1) := by decide +kernel
theorem dX1_rainyMinutes_4 : decode (mC mX1_rainyMinutes) 4 = .ok (.iload_n 2, 1) := by decide +kernel
theorem dX1_rainyMinutes_5 : decode (mC mX1_rainyMinutes) 5 = .ok (.aload_n 0, 1) := by decide +kernel
theorem dX1_rainyMinutes_6 : decode (mC mX1_rainyMinutes) 6 = .ok (.getfield 27, 3) := by decide +kernel
theorem dX1_rainyMinutes_9 : decode (mC mX1_rainyMinutes) 9 = .ok (.arraylength, 1) := by decide +kernel
theorem dX1_rainyMinutes_10 : decode (mC mX1_rainyMinutes) 10 = .ok (.if_icmp .ge 18, 3) := by decide +kernel
theorem dX1_rainyMinutes_13 : decode (mC mX1_rainyMinutes) 13 = .ok (.iload_n 1, 1) := by decide +kernel
theorem dX1_rainyMinutes_14 : decode (mC mX1_rainyMinutes) 14 = .ok (.aload_n 0, 1) := by decide +kernel
theorem dX1_rainyMinutes_15 : decode (mC mX1_rainyMinutes) 15 = .ok (.getfield 27, 3) := by decide +kernel
theorem dX1_rainyMinutes_18 : decode (mC mX1_rainyMinutes) 18 = .ok (.iload_n 2, 1) := by decide +kernel
theorem dX1_rainyMinutes_19 : decode (mC mX1_rainyMinutes) 19 = .ok (.iaload, 1) := by decide +kernel
theorem dX1_rainyMinutes_20 : decode (mC mX1_rainyMinutes) 20 = .ok (.iadd, 1) := by decide +kernel
theorem dX1_rainyMinutes_21 : decode (mC mX1_rainyMinutes) 21 = .ok (.istore_n 1, 1) := by decide +kernel
theorem dX1_rainyMinutes_22 : decode (mC mX1_rainyMinutes) 22 = .ok (.iinc 2 1, 3) := by decide +kernel
theorem dX1_rainyMinutes_25 : decode (mC mX1_rainyMinutes) 25 = .ok (.goto (-21), 3) := by decide +kernel
theorem dX1_rainyMinutes_28 : decode (mC mX1_rainyMinutes) 28 = .ok (.iload_n 1, 1) := by decide +kernel
theorem dX1_rainyMinutes_29 : decode (mC mX1_rainyMinutes) 29 = .ok (.ireturn, 1) := by decide +kernel
theorem dX1_errandPart_0 : decode (mC mX1_errandPart) 0 = .ok (.iload_n 1, 1) := by decide +kernel
theorem dX1_errandPart_1 : decode (mC mX1_errandPart) 1 = .ok (.bipush 10, 2) := by decide +kernel
theorem dX1_errandPart_3 : decode (mC mX1_errandPart) 3 = .ok (.if_icmp .lt 26, 3) := by decide +kernel
theorem dX1_errandPart_6 : decode (mC mX1_errandPart) 6 = .ok (.iload_n 1, 1) := by decide +kernel
theorem dX1_errandPart_7 : decode (mC mX1_errandPart) 7 = .ok (.bipush 10, 2) := by decide +kernel
theorem dX1_errandPart_9 : decode (mC mX1_errandPart) 9 = .ok (.isub, 1) := by decide +kernel
theorem dX1_errandPart_10 : decode (mC mX1_errandPart) 10 = .ok (.aload_n 0, 1) := by decide +kernel
theorem dX1_errandPart_11 : decode (mC mX1_errandPart) 11 = .ok (.getfield 47, 3) := by decide +kernel
theorem dX1_errandPart_14 : decode (mC mX1_errandPart) 14 = .ok (.if_icmp .ge 15, 3) := by decide +kernel
theorem dX1_errandPart_17 : decode (mC mX1_errandPart) 17 = .ok (.aload_n 0, 1) := by decide +kernel
theorem dX1_errandPart_18 : decode (mC mX1_errandPart) 18 = .ok (.getfield 17, 3) := by decide +kernel
theorem dX1_errandPart_21 : decode (mC mX1_errandPart) 21 = .ok (.iload_n 1, 1) := by decide +kernel
theorem dX1_errandPart_22 : decode (mC mX1_errandPart) 22 = .ok (.bipush 10, 2) := by decide +kernel
theorem dX1_errandPart_24 : decode (mC mX1_errandPart) 24 = .ok (.isub, 1) := by decide +kernel
theorem dX1_errandPart_25 : decode (mC mX1_errandPart) 25 = .ok (.invokestatic 73, 3) := by decide +kernel
theorem dX1_errandPart_28 : decode (mC mX1_errandPart) 28 = .ok (.ireturn, 1) := by decide +kernel
theorem dX1_errandPart_29 : decode (mC mX1_errandPart) 29 = .ok (.iload_n 1, 1) := by decide +kernel
theorem dX1_errandPart_30 : decode (mC mX1_errandPart) 30 = .ok (.bipush 20, 2) := by decide +kernel
theorem dX1_errandPart_32 : decode (mC mX1_errandPart) 32 = .ok (.if_icmp .lt 26, 3) := by decide +kernel
theorem dX1_errandPart_35 : decode (mC mX1_errandPart) 35 = .ok (.iload_n 1, 1) := by decide +kernel
theorem dX1_errandPart_36 : decode (mC mX1_errandPart) 36 = .ok (.bipush 20, 2) := by decide +kernel
theorem dX1_errandPart_38 : decode (mC mX1_errandPart) 38 = .ok (.isub, 1) := by decide +kernel
theorem dX1_errandPart_39 : decode (mC mX1_errandPart) 39 = .ok (.aload_n 0, 1) := by decide +kernel
theorem dX1_errandPart_40 : decode (mC mX1_errandPart) 40 = .ok (.getfield 47, 3) := by decide +kernel
theorem dX1_errandPart_43 : decode (mC mX1_errandPart) 43 = .ok (.if_icmp .ge 15, 3) := by decide +kernel
theorem dX1_errandPart_46 : decode (mC mX1_errandPart) 46 = .ok (.aload_n 0, 1) := by decide +kernel
theorem dX1_errandPart_47 : decode (mC mX1_errandPart) 47 = .ok (.getfield 21, 3) := by decide +kernel
theorem dX1_errandPart_50 : decode (mC mX1_errandPart) 50 = .ok (.iload_n 1, 1) := by decide +kernel
theorem dX1_errandPart_51 : decode (mC mX1_errandPart) 51 = .ok (.bipush 20, 2) := by decide +kernel
theorem dX1_errandPart_53 : decode (mC mX1_errandPart) 53 = .ok (.isub, 1) := by decide +kernel
theorem dX1_errandPart_54 : decode (mC mX1_errandPart) 54 = .ok (.invokestatic 73, 3) := by decide +kernel
theorem dX1_errandPart_57 : decode (mC mX1_errandPart) 57 = .ok (.ireturn, 1) := by decide +kernel
theorem dX1_errandPart_58 : decode (mC mX1_errandPart) 58 = .ok (.iload_n 1, 1) := by decide +kernel
theorem dX1_errandPart_59 : decode (mC mX1_errandPart) 59 = .ok (.bipush 30, 2) := by decide +kernel
theorem dX1_errandPart_61 : decode (mC mX1_errandPart) 61 = .ok (.if_icmp .lt 26, 3) := by decide +kernel
theorem dX1_errandPart_64 : decode (mC mX1_errandPart) 64 = .ok (.iload_n 1, 1) := by decide +kernel
theorem dX1_errandPart_65 : decode (mC mX1_errandPart) 65 = .ok (.bipush 30, 2) := by decide +kernel
theorem dX1_errandPart_67 : decode (mC mX1_errandPart) 67 = .ok (.isub, 1) := by decide +kernel
theorem dX1_errandPart_68 : decode (mC mX1_errandPart) 68 = .ok (.aload_n 0, 1) := by decide +kernel
theorem dX1_errandPart_69 : decode (mC mX1_errandPart) 69 = .ok (.getfield 47, 3) := by decide +kernel
theorem dX1_errandPart_72 : decode (mC mX1_errandPart) 72 = .ok (.if_icmp .ge 15, 3) := by decide +kernel
theorem dX1_errandPart_75 : decode (mC mX1_errandPart) 75 = .ok (.aload_n 0, 1) := by decide +kernel
theorem dX1_errandPart_76 : decode (mC mX1_errandPart) 76 = .ok (.getfield 24, 3) := by decide +kernel
theorem dX1_errandPart_79 : decode (mC mX1_errandPart) 79 = .ok (.iload_n 1, 1) := by decide +kernel
theorem dX1_errandPart_80 : decode (mC mX1_errandPart) 80 = .ok (.bipush 30, 2) := by decide +kernel
theorem dX1_errandPart_82 : decode (mC mX1_errandPart) 82 = .ok (.isub, 1) := by decide +kernel
theorem dX1_errandPart_83 : decode (mC mX1_errandPart) 83 = .ok (.invokestatic 73, 3) := by decide +kernel
theorem dX1_errandPart_86 : decode (mC mX1_errandPart) 86 = .ok (.ireturn, 1) := by decide +kernel
theorem dX1_errandPart_87 : decode (mC mX1_errandPart) 87 = .ok (.iconst (-1), 1) := by decide +kernel
theorem dX1_errandPart_88 : decode (mC mX1_errandPart) 88 = .ok (.ireturn, 1) := by decide +kernel
theorem dX1_beside_0 : decode (mC mX1_beside) 0 = .ok (.iload_n 1, 1) := by decide +kernel
theorem dX1_beside_1 : decode (mC mX1_beside) 1 = .ok (.ifCond .lt 24, 3) := by decide +kernel
theorem dX1_beside_4 : decode (mC mX1_beside) 4 = .ok (.iload_n 1, 1) := by decide +kernel
theorem dX1_beside_5 : decode (mC mX1_beside) 5 = .ok (.aload_n 0, 1) := by decide +kernel
theorem dX1_beside_6 : decode (mC mX1_beside) 6 = .ok (.getfield 34, 3) := by decide +kernel
theorem dX1_beside_9 : decode (mC mX1_beside) 9 = .ok (.aload_n 0, 1) := by decide +kernel
theorem dX1_beside_10 : decode (mC mX1_beside) 10 = .ok (.getfield 38, 3) := by decide +kernel
theorem dX1_beside_13 : decode (mC mX1_beside) 13 = .ok (.imul, 1) := by decide +kernel
theorem dX1_beside_14 : decode (mC mX1_beside) 14 = .ok (.if_icmp .ge 11, 3) := by decide +kernel
theorem dX1_beside_17 : decode (mC mX1_beside) 17 = .ok (.aload_n 0, 1) := by decide +kernel
theorem dX1_beside_18 : decode (mC mX1_beside) 18 = .ok (.getfield 34, 3) := by decide +kernel
theorem dX1_beside_21 : decode (mC mX1_beside) 21 = .ok (.iconst 1, 1) := by decide +kernel
theorem dX1_beside_22 : decode (mC mX1_beside) 22 = .ok (.if_icmp .ge 5, 3) := by decide +kernel
theorem dX1_beside_25 : decode (mC mX1_beside) 25 = .ok (.iconst (-1), 1) := by decide +kernel
theorem dX1_beside_26 : decode (mC mX1_beside) 26 = .ok (.ireturn, 1) := by decide +kernel
theorem dX1_beside_27 : decode (mC mX1_beside) 27 = .ok (.iload_n 1, 1) := by decide +kernel
theorem dX1_beside_28 : decode (mC mX1_beside) 28 = .ok (.aload_n 0, 1) := by decide +kernel
theorem dX1_beside_29 : decode (mC mX1_beside) 29 = .ok (.getfield 34, 3) := by decide +kernel
theorem dX1_beside_32 : decode (mC mX1_beside) 32 = .ok (.idiv, 1) := by decide +kernel
theorem dX1_beside_33 : decode (mC mX1_beside) 33 = .ok (.istore 4, 2) := by decide +kernel
theorem dX1_beside_35 : decode (mC mX1_beside) 35 = .ok (.iload_n 1, 1) := by decide +kernel
theorem dX1_beside_36 : decode (mC mX1_beside) 36 = .ok (.aload_n 0, 1) := by decide +kernel
theorem dX1_beside_37 : decode (mC mX1_beside) 37 = .ok (.getfield 34, 3) := by decide +kernel
theorem dX1_beside_40 : decode (mC mX1_beside) 40 = .ok (.irem, 1) := by decide +kernel
theorem dX1_beside_41 : decode (mC mX1_beside) 41 = .ok (.istore 5, 2) := by decide +kernel
theorem dX1_beside_43 : decode (mC mX1_beside) 43 = .ok (.iload_n 2, 1) := by decide +kernel
theorem dX1_beside_44 : decode (mC mX1_beside) 44 = .ok (.tableswitch 55 0 2 #[28, 37, 46], 28) := by decide +kernel
theorem dX1_beside_72 : decode (mC mX1_beside) 72 = .ok (.iload 4, 2) := by decide +kernel
theorem dX1_beside_74 : decode (mC mX1_beside) 74 = .ok (.iload_n 3, 1) := by decide +kernel
theorem dX1_beside_75 : decode (mC mX1_beside) 75 = .ok (.isub, 1) := by decide +kernel
theorem dX1_beside_76 : decode (mC mX1_beside) 76 = .ok (.istore 4, 2) := by decide +kernel
theorem dX1_beside_78 : decode (mC mX1_beside) 78 = .ok (.goto 27, 3) := by decide +kernel
theorem dX1_beside_81 : decode (mC mX1_beside) 81 = .ok (.iload 5, 2) := by decide +kernel
theorem dX1_beside_83 : decode (mC mX1_beside) 83 = .ok (.iload_n 3, 1) := by decide +kernel
theorem dX1_beside_84 : decode (mC mX1_beside) 84 = .ok (.iadd, 1) := by decide +kernel
theorem dX1_beside_85 : decode (mC mX1_beside) 85 = .ok (.istore 5, 2) := by decide +kernel
theorem dX1_beside_87 : decode (mC mX1_beside) 87 = .ok (.goto 18, 3) := by decide +kernel
theorem dX1_beside_90 : decode (mC mX1_beside) 90 = .ok (.iload 4, 2) := by decide +kernel
theorem dX1_beside_92 : decode (mC mX1_beside) 92 = .ok (.iload_n 3, 1) := by decide +kernel
theorem dX1_beside_93 : decode (mC mX1_beside) 93 = .ok (.iadd, 1) := by decide +kernel
theorem dX1_beside_94 : decode (mC mX1_beside) 94 = .ok (.istore 4, 2) := by decide +kernel
theorem dX1_beside_96 : decode (mC mX1_beside) 96 = .ok (.goto 9, 3) := by decide +kernel
theorem dX1_beside_99 : decode (mC mX1_beside) 99 = .ok (.iload 5, 2) := by decide +kernel
theorem dX1_beside_101 : decode (mC mX1_beside) 101 = .ok (.iload_n 3, 1) := by decide +kernel
theorem dX1_beside_102 : decode (mC mX1_beside) 102 = .ok (.isub, 1) := by decide +kernel
theorem dX1_beside_103 : decode (mC mX1_beside) 103 = .ok (.istore 5, 2) := by decide +kernel
theorem dX1_beside_105 : decode (mC mX1_beside) 105 = .ok (.iload 4, 2) := by decide +kernel
theorem dX1_beside_107 : decode (mC mX1_beside) 107 = .ok (.ifCond .lt 30, 3) := by decide +kernel
theorem dX1_beside_110 : decode (mC mX1_beside) 110 = .ok (.iload 4, 2) := by decide +kernel
theorem dX1_beside_112 : decode (mC mX1_beside) 112 = .ok (.aload_n 0, 1) := by decide +kernel
theorem dX1_beside_113 : decode (mC mX1_beside) 113 = .ok (.getfield 38, 3) := by decide +kernel
theorem dX1_beside_116 : decode (mC mX1_beside) 116 = .ok (.if_icmp .ge 21, 3) := by decide +kernel
theorem dX1_beside_119 : decode (mC mX1_beside) 119 = .ok (.iload 5, 2) := by decide +kernel
theorem dX1_beside_121 : decode (mC mX1_beside) 121 = .ok (.ifCond .lt 16, 3) := by decide +kernel
theorem dX1_beside_124 : decode (mC mX1_beside) 124 = .ok (.iload 5, 2) := by decide +kernel
theorem dX1_beside_126 : decode (mC mX1_beside) 126 = .ok (.aload_n 0, 1) := by decide +kernel
theorem dX1_beside_127 : decode (mC mX1_beside) 127 = .ok (.getfield 34, 3) := by decide +kernel
theorem dX1_beside_130 : decode (mC mX1_beside) 130 = .ok (.if_icmp .ge 7, 3) := by decide +kernel
theorem dX1_beside_133 : decode (mC mX1_beside) 133 = .ok (.iconst 1, 1) := by decide +kernel
theorem dX1_beside_134 : decode (mC mX1_beside) 134 = .ok (.goto 4, 3) := by decide +kernel
theorem dX1_beside_137 : decode (mC mX1_beside) 137 = .ok (.iconst 0, 1) := by decide +kernel
theorem dX1_beside_138 : decode (mC mX1_beside) 138 = .ok (.istore 6, 2) := by decide +kernel
theorem dX1_beside_140 : decode (mC mX1_beside) 140 = .ok (.iload 6, 2) := by decide +kernel
theorem dX1_beside_142 : decode (mC mX1_beside) 142 = .ok (.ifCond .eq 16, 3) := by decide +kernel
theorem dX1_beside_145 : decode (mC mX1_beside) 145 = .ok (.iload 4, 2) := by decide +kernel
theorem dX1_beside_147 : decode (mC mX1_beside) 147 = .ok (.aload_n 0, 1) := by decide +kernel
theorem dX1_beside_148 : decode (mC mX1_beside) 148 = .ok (.getfield 34, 3) := by decide +kernel
theorem dX1_beside_151 : decode (mC mX1_beside) 151 = .ok (.imul, 1) := by decide +kernel
theorem dX1_beside_152 : decode (mC mX1_beside) 152 = .ok (.iload 5, 2) := by decide +kernel
theorem dX1_beside_154 : decode (mC mX1_beside) 154 = .ok (.iadd, 1) := by decide +kernel
theorem dX1_beside_155 : decode (mC mX1_beside) 155 = .ok (.goto 4, 3) := by decide +kernel
theorem dX1_beside_158 : decode (mC mX1_beside) 158 = .ok (.iconst (-1), 1) := by decide +kernel
theorem dX1_beside_159 : decode (mC mX1_beside) 159 = .ok (.ireturn, 1) := by decide +kernel
theorem dX1_distance_0 : decode (mC mX1_distance) 0 = .ok (.aload_n 0, 1) := by decide +kernel
theorem dX1_distance_1 : decode (mC mX1_distance) 1 = .ok (.getfield 34, 3) := by decide +kernel
theorem dX1_distance_4 : decode (mC mX1_distance) 4 = .ok (.iconst 1, 1) := by decide +kernel
theorem dX1_distance_5 : decode (mC mX1_distance) 5 = .ok (.if_icmp .ge 5, 3) := by decide +kernel
theorem dX1_distance_8 : decode (mC mX1_distance) 8 = .ok (.iconst 0, 1) := by decide +kernel
theorem dX1_distance_9 : decode (mC mX1_distance) 9 = .ok (.ireturn, 1) := by decide +kernel
theorem dX1_distance_10 : decode (mC mX1_distance) 10 = .ok (.iload_n 1, 1) := by decide +kernel
theorem dX1_distance_11 : decode (mC mX1_distance) 11 = .ok (.aload_n 0, 1) := by decide +kernel
theorem dX1_distance_12 : decode (mC mX1_distance) 12 = .ok (.getfield 34, 3) := by decide +kernel
theorem dX1_distance_15 : decode (mC mX1_distance) 15 = .ok (.idiv, 1) := by decide +kernel
theorem dX1_distance_16 : decode (mC mX1_distance) 16 = .ok (.iload_n 2, 1) := by decide +kernel
theorem dX1_distance_17 : decode (mC mX1_distance) 17 = .ok (.aload_n 0, 1) := by decide +kernel
theorem dX1_distance_18 : decode (mC mX1_distance) 18 = .ok (.getfield 34, 3) := by decide +kernel
theorem dX1_distance_21 : decode (mC mX1_distance) 21 = .ok (.idiv, 1) := by decide +kernel
theorem dX1_distance_22 : decode (mC mX1_distance) 22 = .ok (.isub, 1) := by decide +kernel
theorem dX1_distance_23 : decode (mC mX1_distance) 23 = .ok (.invokestatic 77, 3) := by decide +kernel
theorem dX1_distance_26 : decode (mC mX1_distance) 26 = .ok (.iload_n 1, 1) := by decide +kernel
theorem dX1_distance_27 : decode (mC mX1_distance) 27 = .ok (.aload_n 0, 1) := by decide +kernel
theorem dX1_distance_28 : decode (mC mX1_distance) 28 = .ok (.getfield 34, 3) := by decide +kernel
theorem dX1_distance_31 : decode (mC mX1_distance) 31 = .ok (.irem, 1) := by decide +kernel
theorem dX1_distance_32 : decode (mC mX1_distance) 32 = .ok (.iload_n 2, 1) := by decide +kernel
theorem dX1_distance_33 : decode (mC mX1_distance) 33 = .ok (.aload_n 0, 1) := by decide +kernel
theorem dX1_distance_34 : decode (mC mX1_distance) 34 = .ok (.getfield 34, 3) := by decide +kernel
theorem dX1_distance_37 : decode (mC mX1_distance) 37 = .ok (.irem, 1) := by decide +kernel
theorem dX1_distance_38 : decode (mC mX1_distance) 38 = .ok (.isub, 1) := by decide +kernel
theorem dX1_distance_39 : decode (mC mX1_distance) 39 = .ok (.invokestatic 77, 3) := by decide +kernel
theorem dX1_distance_42 : decode (mC mX1_distance) 42 = .ok (.iadd, 1) := by decide +kernel
theorem dX1_distance_43 : decode (mC mX1_distance) 43 = .ok (.ireturn, 1) := by decide +kernel
theorem dX1_stepsMade_0 : decode (mC mX1_stepsMade) 0 = .ok (.aload_n 1, 1) := by decide +kernel
theorem dX1_stepsMade_1 : decode (mC mX1_stepsMade) 1 = .ok (.invokevirtual 83, 3) := by decide +kernel
theorem dX1_stepsMade_4 : decode (mC mX1_stepsMade) 4 = .ok (.ifCond .ne 5, 3) := by decide +kernel
theorem dX1_stepsMade_7 : decode (mC mX1_stepsMade) 7 = .ok (.iconst 0, 1) := by decide +kernel
theorem dX1_stepsMade_8 : decode (mC mX1_stepsMade) 8 = .ok (.ireturn, 1) := by decide +kernel
theorem dX1_stepsMade_9 : decode (mC mX1_stepsMade) 9 = .ok (.aload_n 1, 1) := by decide +kernel
theorem dX1_stepsMade_10 : decode (mC mX1_stepsMade) 10 = .ok (.getfield 87, 3) := by decide +kernel
theorem dX1_stepsMade_13 : decode (mC mX1_stepsMade) 13 = .ok (.istore_n 2, 1) := by decide +kernel
theorem dX1_stepsMade_14 : decode (mC mX1_stepsMade) 14 = .ok (.iconst 1, 1) := by decide +kernel
theorem dX1_stepsMade_15 : decode (mC mX1_stepsMade) 15 = .ok (.istore_n 3, 1) := by decide +kernel
theorem dX1_stepsMade_16 : decode (mC mX1_stepsMade) 16 = .ok (.iload_n 3, 1) := by decide +kernel
theorem dX1_stepsMade_17 : decode (mC mX1_stepsMade) 17 = .ok (.aload_n 1, 1) := by decide +kernel
theorem dX1_stepsMade_18 : decode (mC mX1_stepsMade) 18 = .ok (.getfield 90, 3) := by decide +kernel
theorem dX1_stepsMade_21 : decode (mC mX1_stepsMade) 21 = .ok (.if_icmp .gt 33, 3) := by decide +kernel
theorem dX1_stepsMade_24 : decode (mC mX1_stepsMade) 24 = .ok (.aload_n 0, 1) := by decide +kernel
theorem dX1_stepsMade_25 : decode (mC mX1_stepsMade) 25 = .ok (.iload_n 2, 1) := by decide +kernel
theorem dX1_stepsMade_26 : decode (mC mX1_stepsMade) 26 = .ok (.aload_n 1, 1) := by decide +kernel
theorem dX1_stepsMade_27 : decode (mC mX1_stepsMade) 27 = .ok (.iload_n 3, 1) := by decide +kernel
theorem dX1_stepsMade_28 : decode (mC mX1_stepsMade) 28 = .ok (.invokevirtual 93, 3) := by decide +kernel
theorem dX1_stepsMade_31 : decode (mC mX1_stepsMade) 31 = .ok (.aload_n 1, 1) := by decide +kernel
theorem dX1_stepsMade_32 : decode (mC mX1_stepsMade) 32 = .ok (.getfield 96, 3) := by decide +kernel
theorem dX1_stepsMade_35 : decode (mC mX1_stepsMade) 35 = .ok (.invokevirtual 99, 3) := by decide +kernel
theorem dX1_stepsMade_38 : decode (mC mX1_stepsMade) 38 = .ok (.istore_n 2, 1) := by decide +kernel
theorem dX1_stepsMade_39 : decode (mC mX1_stepsMade) 39 = .ok (.iload_n 2, 1) := by decide +kernel
theorem dX1_stepsMade_40 : decode (mC mX1_stepsMade) 40 = .ok (.iconst (-1), 1) := by decide +kernel
theorem dX1_stepsMade_41 : decode (mC mX1_stepsMade) 41 = .ok (.if_icmp .ne 7, 3) := by decide +kernel
theorem dX1_stepsMade_44 : decode (mC mX1_stepsMade) 44 = .ok (.iload_n 3, 1) := by decide +kernel
theorem dX1_stepsMade_45 : decode (mC mX1_stepsMade) 45 = .ok (.iconst 1, 1) := by decide +kernel
theorem dX1_stepsMade_46 : decode (mC mX1_stepsMade) 46 = .ok (.isub, 1) := by decide +kernel
theorem dX1_stepsMade_47 : decode (mC mX1_stepsMade) 47 = .ok (.ireturn, 1) := by decide +kernel
theorem dX1_stepsMade_48 : decode (mC mX1_stepsMade) 48 = .ok (.iinc 3 1, 3) := by decide +kernel
theorem dX1_stepsMade_51 : decode (mC mX1_stepsMade) 51 = .ok (.goto (-35), 3) := by decide +kernel
theorem dX1_stepsMade_54 : decode (mC mX1_stepsMade) 54 = .ok (.aload_n 1, 1) := by decide +kernel
theorem dX1_stepsMade_55 : decode (mC mX1_stepsMade) 55 = .ok (.getfield 90, 3) := by decide +kernel
theorem dX1_stepsMade_58 : decode (mC mX1_stepsMade) 58 = .ok (.ireturn, 1) := by decide +kernel
theorem dX1_spot_0 : decode (mC mX1_spot) 0 = .ok (.aload_n 0, 1) := by decide +kernel
theorem dX1_spot_1 : decode (mC mX1_spot) 1 = .ok (.iload_n 1, 1) := by decide +kernel
theorem dX1_spot_2 : decode (mC mX1_spot) 2 = .ok (.invokevirtual 103, 3) := by decide +kernel
theorem dX1_spot_5 : decode (mC mX1_spot) 5 = .ok (.astore_n 3, 1) := by decide +kernel
theorem dX1_spot_6 : decode (mC mX1_spot) 6 = .ok (.aload_n 3, 1) := by decide +kernel
theorem dX1_spot_7 : decode (mC mX1_spot) 7 = .ok (.ifnonnull 5, 3) := by decide +kernel
theorem dX1_spot_10 : decode (mC mX1_spot) 10 = .ok (.iconst (-1), 1) := by decide +kernel
theorem dX1_spot_11 : decode (mC mX1_spot) 11 = .ok (.ireturn, 1) := by decide +kernel
theorem dX1_spot_12 : decode (mC mX1_spot) 12 = .ok (.aload_n 3, 1) := by decide +kernel
theorem dX1_spot_13 : decode (mC mX1_spot) 13 = .ok (.getfield 106, 3) := by decide +kernel
theorem dX1_spot_16 : decode (mC mX1_spot) 16 = .ok (.iconst (-1), 1) := by decide +kernel
theorem dX1_spot_17 : decode (mC mX1_spot) 17 = .ok (.if_icmp .ne 10, 3) := by decide +kernel
theorem dX1_spot_20 : decode (mC mX1_spot) 20 = .ok (.aload_n 0, 1) := by decide +kernel
theorem dX1_spot_21 : decode (mC mX1_spot) 21 = .ok (.aload_n 3, 1) := by decide +kernel
theorem dX1_spot_22 : decode (mC mX1_spot) 22 = .ok (.iload_n 2, 1) := by decide +kernel
theorem dX1_spot_23 : decode (mC mX1_spot) 23 = .ok (.invokevirtual 109, 3) := by decide +kernel
theorem dX1_spot_26 : decode (mC mX1_spot) 26 = .ok (.ireturn, 1) := by decide +kernel
theorem dX1_spot_27 : decode (mC mX1_spot) 27 = .ok (.aload_n 0, 1) := by decide +kernel
theorem dX1_spot_28 : decode (mC mX1_spot) 28 = .ok (.aload_n 3, 1) := by decide +kernel
theorem dX1_spot_29 : decode (mC mX1_spot) 29 = .ok (.getfield 106, 3) := by decide +kernel
theorem dX1_spot_32 : decode (mC mX1_spot) 32 = .ok (.invokevirtual 103, 3) := by decide +kernel
theorem dX1_spot_35 : decode (mC mX1_spot) 35 = .ok (.astore 4, 2) := by decide +kernel
theorem dX1_spot_37 : decode (mC mX1_spot) 37 = .ok (.aload 4, 2) := by decide +kernel
theorem dX1_spot_39 : decode (mC mX1_spot) 39 = .ok (.ifnonnull 5, 3) := by decide +kernel
theorem dX1_spot_42 : decode (mC mX1_spot) 42 = .ok (.iconst (-1), 1) := by decide +kernel
theorem dX1_spot_43 : decode (mC mX1_spot) 43 = .ok (.ireturn, 1) := by decide +kernel
theorem dX1_spot_44 : decode (mC mX1_spot) 44 = .ok (.aload 4, 2) := by decide +kernel
theorem dX1_spot_46 : decode (mC mX1_spot) 46 = .ok (.getfield 106, 3) := by decide +kernel
theorem dX1_spot_49 : decode (mC mX1_spot) 49 = .ok (.iconst (-1), 1) := by decide +kernel
theorem dX1_spot_50 : decode (mC mX1_spot) 50 = .ok (.if_icmp .ne 13, 3) := by decide +kernel
theorem dX1_spot_53 : decode (mC mX1_spot) 53 = .ok (.aload_n 0, 1) := by decide +kernel
theorem dX1_spot_54 : decode (mC mX1_spot) 54 = .ok (.aload 4, 2) := by decide +kernel
theorem dX1_spot_56 : decode (mC mX1_spot) 56 = .ok (.iload_n 2, 1) := by decide +kernel
theorem dX1_spot_57 : decode (mC mX1_spot) 57 = .ok (.invokevirtual 109, 3) := by decide +kernel
theorem dX1_spot_60 : decode (mC mX1_spot) 60 = .ok (.goto 7, 3) := by decide +kernel
theorem dX1_spot_63 : decode (mC mX1_spot) 63 = .ok (.aload_n 3, 1) := by decide +kernel
theorem dX1_spot_64 : decode (mC mX1_spot) 64 = .ok (.getfield 87, 3) := by decide +kernel
theorem dX1_spot_67 : decode (mC mX1_spot) 67 = .ok (.ireturn, 1) := by decide +kernel
theorem dX1_walkedTo_0 : decode (mC mX1_walkedTo) 0 = .ok (.aload_n 1, 1) := by decide +kernel
theorem dX1_walkedTo_1 : decode (mC mX1_walkedTo) 1 = .ok (.getfield 87, 3) := by decide +kernel
theorem dX1_walkedTo_4 : decode (mC mX1_walkedTo) 4 = .ok (.iconst (-1), 1) := by decide +kernel
theorem dX1_walkedTo_5 : decode (mC mX1_walkedTo) 5 = .ok (.if_icmp .eq 11, 3) := by decide +kernel
theorem dX1_walkedTo_8 : decode (mC mX1_walkedTo) 8 = .ok (.iload_n 2, 1) := by decide +kernel
theorem dX1_walkedTo_9 : decode (mC mX1_walkedTo) 9 = .ok (.aload_n 1, 1) := by decide +kernel
theorem dX1_walkedTo_10 : decode (mC mX1_walkedTo) 10 = .ok (.getfield 113, 3) := by decide +kernel
theorem dX1_walkedTo_13 : decode (mC mX1_walkedTo) 13 = .ok (.if_icmp .ge 5, 3) := by decide +kernel
theorem dX1_walkedTo_16 : decode (mC mX1_walkedTo) 16 = .ok (.iconst (-1), 1) := by decide +kernel
theorem dX1_walkedTo_17 : decode (mC mX1_walkedTo) 17 = .ok (.ireturn, 1) := by decide +kernel
theorem dX1_walkedTo_18 : decode (mC mX1_walkedTo) 18 = .ok (.aload_n 1, 1) := by decide +kernel
theorem dX1_walkedTo_19 : decode (mC mX1_walkedTo) 19 = .ok (.getfield 87, 3) := by decide +kernel
theorem dX1_walkedTo_22 : decode (mC mX1_walkedTo) 22 = .ok (.istore_n 3, 1) := by decide +kernel
theorem dX1_walkedTo_23 : decode (mC mX1_walkedTo) 23 = .ok (.iconst 1, 1) := by decide +kernel
theorem dX1_walkedTo_24 : decode (mC mX1_walkedTo) 24 = .ok (.istore 4, 2) := by decide +kernel
theorem dX1_walkedTo_26 : decode (mC mX1_walkedTo) 26 = .ok (.iload 4, 2) := by decide +kernel
theorem dX1_walkedTo_28 : decode (mC mX1_walkedTo) 28 = .ok (.aload_n 1, 1) := by decide +kernel
theorem dX1_walkedTo_29 : decode (mC mX1_walkedTo) 29 = .ok (.getfield 90, 3) := by decide +kernel
theorem dX1_walkedTo_32 : decode (mC mX1_walkedTo) 32 = .ok (.if_icmp .gt 48, 3) := by decide +kernel
theorem dX1_walkedTo_35 : decode (mC mX1_walkedTo) 35 = .ok (.iload 4, 2) := by decide +kernel
theorem dX1_walkedTo_37 : decode (mC mX1_walkedTo) 37 = .ok (.iload_n 2, 1) := by decide +kernel
theorem dX1_walkedTo_38 : decode (mC mX1_walkedTo) 38 = .ok (.aload_n 1, 1) := by decide +kernel
theorem dX1_walkedTo_39 : decode (mC mX1_walkedTo) 39 = .ok (.getfield 113, 3) := by decide +kernel
theorem dX1_walkedTo_42 : decode (mC mX1_walkedTo) 42 = .ok (.isub, 1) := by decide +kernel
theorem dX1_walkedTo_43 : decode (mC mX1_walkedTo) 43 = .ok (.if_icmp .gt 37, 3) := by decide +kernel
theorem dX1_walkedTo_46 : decode (mC mX1_walkedTo) 46 = .ok (.aload_n 0, 1) := by decide +kernel
theorem dX1_walkedTo_47 : decode (mC mX1_walkedTo) 47 = .ok (.iload_n 3, 1) := by decide +kernel
theorem dX1_walkedTo_48 : decode (mC mX1_walkedTo) 48 = .ok (.aload_n 1, 1) := by decide +kernel
theorem dX1_walkedTo_49 : decode (mC mX1_walkedTo) 49 = .ok (.iload 4, 2) := by decide +kernel
theorem dX1_walkedTo_51 : decode (mC mX1_walkedTo) 51 = .ok (.invokevirtual 93, 3) := by decide +kernel
theorem dX1_walkedTo_54 : decode (mC mX1_walkedTo) 54 = .ok (.aload_n 1, 1) := by decide +kernel
theorem dX1_walkedTo_55 : decode (mC mX1_walkedTo) 55 = .ok (.getfield 96, 3) := by decide +kernel
theorem dX1_walkedTo_58 : decode (mC mX1_walkedTo) 58 = .ok (.invokevirtual 99, 3) := by decide +kernel
theorem dX1_walkedTo_61 : decode (mC mX1_walkedTo) 61 = .ok (.istore 5, 2) := by decide +kernel
theorem dX1_walkedTo_63 : decode (mC mX1_walkedTo) 63 = .ok (.iload 5, 2) := by decide +kernel
theorem dX1_walkedTo_65 : decode (mC mX1_walkedTo) 65 = .ok (.iconst (-1), 1) := by decide +kernel
theorem dX1_walkedTo_66 : decode (mC mX1_walkedTo) 66 = .ok (.if_icmp .ne 5, 3) := by decide +kernel
theorem dX1_walkedTo_69 : decode (mC mX1_walkedTo) 69 = .ok (.iload_n 3, 1) := by decide +kernel
theorem dX1_walkedTo_70 : decode (mC mX1_walkedTo) 70 = .ok (.ireturn, 1) := by decide +kernel
theorem dX1_walkedTo_71 : decode (mC mX1_walkedTo) 71 = .ok (.iload 5, 2) := by decide +kernel
theorem dX1_walkedTo_73 : decode (mC mX1_walkedTo) 73 = .ok (.istore_n 3, 1) := by decide +kernel
theorem dX1_walkedTo_74 : decode (mC mX1_walkedTo) 74 = .ok (.iinc 4 1, 3) := by decide +kernel
theorem dX1_walkedTo_77 : decode (mC mX1_walkedTo) 77 = .ok (.goto (-51), 3) := by decide +kernel
theorem dX1_walkedTo_80 : decode (mC mX1_walkedTo) 80 = .ok (.iload_n 3, 1) := by decide +kernel
theorem dX1_walkedTo_81 : decode (mC mX1_walkedTo) 81 = .ok (.ireturn, 1) := by decide +kernel
theorem dX1_isIn_0 : decode (mC mX1_isIn) 0 = .ok (.iload_n 3, 1) := by decide +kernel
theorem dX1_isIn_1 : decode (mC mX1_isIn) 1 = .ok (.istore 5, 2) := by decide +kernel
theorem dX1_isIn_3 : decode (mC mX1_isIn) 3 = .ok (.iload 5, 2) := by decide +kernel
theorem dX1_isIn_5 : decode (mC mX1_isIn) 5 = .ok (.iload 4, 2) := by decide +kernel
theorem dX1_isIn_7 : decode (mC mX1_isIn) 7 = .ok (.if_icmp .gt 22, 3) := by decide +kernel
theorem dX1_isIn_10 : decode (mC mX1_isIn) 10 = .ok (.aload_n 0, 1) := by decide +kernel
theorem dX1_isIn_11 : decode (mC mX1_isIn) 11 = .ok (.iload_n 1, 1) := by decide +kernel
theorem dX1_isIn_12 : decode (mC mX1_isIn) 12 = .ok (.iload 5, 2) := by decide +kernel
theorem dX1_isIn_14 : decode (mC mX1_isIn) 14 = .ok (.invokevirtual 116, 3) := by decide +kernel
theorem dX1_isIn_17 : decode (mC mX1_isIn) 17 = .ok (.iload_n 2, 1) := by decide +kernel
theorem dX1_isIn_18 : decode (mC mX1_isIn) 18 = .ok (.if_icmp .ne 5, 3) := by decide +kernel
theorem dX1_isIn_21 : decode (mC mX1_isIn) 21 = .ok (.iconst 1, 1) := by decide +kernel
theorem dX1_isIn_22 : decode (mC mX1_isIn) 22 = .ok (.ireturn, 1) := by decide +kernel
theorem dX1_isIn_23 : decode (mC mX1_isIn) 23 = .ok (.iinc 5 1, 3) := by decide +kernel
theorem dX1_isIn_26 : decode (mC mX1_isIn) 26 = .ok (.goto (-23), 3) := by decide +kernel
theorem dX1_isIn_29 : decode (mC mX1_isIn) 29 = .ok (.iconst 0, 1) := by decide +kernel
theorem dX1_isIn_30 : decode (mC mX1_isIn) 30 = .ok (.ireturn, 1) := by decide +kernel
theorem dX1_loadOf_0 : decode (mC mX1_loadOf) 0 = .ok (.aload_n 0, 1) := by decide +kernel
theorem dX1_loadOf_1 : decode (mC mX1_loadOf) 1 = .ok (.getfield 41, 3) := by decide +kernel
theorem dX1_loadOf_4 : decode (mC mX1_loadOf) 4 = .ok (.istore_n 2, 1) := by decide +kernel
theorem dX1_loadOf_5 : decode (mC mX1_loadOf) 5 = .ok (.iconst 0, 1) := by decide +kernel
theorem dX1_loadOf_6 : decode (mC mX1_loadOf) 6 = .ok (.istore_n 3, 1) := by decide +kernel
theorem dX1_loadOf_7 : decode (mC mX1_loadOf) 7 = .ok (.iload_n 3, 1) := by decide +kernel
theorem dX1_loadOf_8 : decode (mC mX1_loadOf) 8 = .ok (.aload_n 0, 1) := by decide +kernel
theorem dX1_loadOf_9 : decode (mC mX1_loadOf) 9 = .ok (.getfield 44, 3) := by decide +kernel
theorem dX1_loadOf_12 : decode (mC mX1_loadOf) 12 = .ok (.if_icmp .ge 43, 3) := by decide +kernel
theorem dX1_loadOf_15 : decode (mC mX1_loadOf) 15 = .ok (.aload_n 0, 1) := by decide +kernel
theorem dX1_loadOf_16 : decode (mC mX1_loadOf) 16 = .ok (.iload_n 3, 1) := by decide +kernel
theorem dX1_loadOf_17 : decode (mC mX1_loadOf) 17 = .ok (.invokevirtual 103, 3) := by decide +kernel
theorem dX1_loadOf_20 : decode (mC mX1_loadOf) 20 = .ok (.astore 4, 2) := by decide +kernel
theorem dX1_loadOf_22 : decode (mC mX1_loadOf) 22 = .ok (.aload 4, 2) := by decide +kernel
theorem dX1_loadOf_24 : decode (mC mX1_loadOf) 24 = .ok (.ifnull 25, 3) := by decide +kernel
theorem dX1_loadOf_27 : decode (mC mX1_loadOf) 27 = .ok (.iload_n 3, 1) := by decide +kernel
theorem dX1_loadOf_28 : decode (mC mX1_loadOf) 28 = .ok (.iload_n 1, 1) := by decide +kernel
theorem dX1_loadOf_29 : decode (mC mX1_loadOf) 29 = .ok (.if_icmp .eq 12, 3) := by decide +kernel
theorem dX1_loadOf_32 : decode (mC mX1_loadOf) 32 = .ok (.aload 4, 2) := by decide +kernel
theorem dX1_loadOf_34 : decode (mC mX1_loadOf) 34 = .ok (.getfield 106, 3) := by decide +kernel
theorem dX1_loadOf_37 : decode (mC mX1_loadOf) 37 = .ok (.iload_n 1, 1) := by decide +kernel
theorem dX1_loadOf_38 : decode (mC mX1_loadOf) 38 = .ok (.if_icmp .ne 11, 3) := by decide +kernel
theorem dX1_loadOf_41 : decode (mC mX1_loadOf) 41 = .ok (.iload_n 2, 1) := by decide +kernel
theorem dX1_loadOf_42 : decode (mC mX1_loadOf) 42 = .ok (.aload 4, 2) := by decide +kernel
theorem dX1_loadOf_44 : decode (mC mX1_loadOf) 44 = .ok (.getfield 120, 3) := by decide +kernel
theorem dX1_loadOf_47 : decode (mC mX1_loadOf) 47 = .ok (.iadd, 1) := by decide +kernel
theorem dX1_loadOf_48 : decode (mC mX1_loadOf) 48 = .ok (.istore_n 2, 1) := by decide +kernel
theorem dX1_loadOf_49 : decode (mC mX1_loadOf) 49 = .ok (.iinc 3 1, 3) := by decide +kernel
theorem dX1_loadOf_52 : decode (mC mX1_loadOf) 52 = .ok (.goto (-45), 3) := by decide +kernel
theorem dX1_loadOf_55 : decode (mC mX1_loadOf) 55 = .ok (.iload_n 2, 1) := by decide +kernel
theorem dX1_loadOf_56 : decode (mC mX1_loadOf) 56 = .ok (.ireturn, 1) := by decide +kernel
theorem dX1_drawRains_0 : decode (mC mX1_drawRains) 0 = .ok (.iload_n 1, 1) := by decide +kernel
theorem dX1_drawRains_1 : decode (mC mX1_drawRains) 1 = .ok (.istore_n 3, 1) := by decide +kernel
theorem dX1_drawRains_2 : decode (mC mX1_drawRains) 2 = .ok (.iconst 0, 1) := by decide +kernel
theorem dX1_drawRains_3 : decode (mC mX1_drawRains) 3 = .ok (.istore 4, 2) := by decide +kernel
theorem dX1_drawRains_5 : decode (mC mX1_drawRains) 5 = .ok (.iconst 0, 1) := by decide +kernel
theorem dX1_drawRains_6 : decode (mC mX1_drawRains) 6 = .ok (.istore 5, 2) := by decide +kernel
theorem dX1_drawRains_8 : decode (mC mX1_drawRains) 8 = .ok (.iload 5, 2) := by decide +kernel
theorem dX1_drawRains_10 : decode (mC mX1_drawRains) 10 = .ok (.aload_n 0, 1) := by decide +kernel
theorem dX1_drawRains_11 : decode (mC mX1_drawRains) 11 = .ok (.getfield 27, 3) := by decide +kernel
theorem dX1_drawRains_14 : decode (mC mX1_drawRains) 14 = .ok (.arraylength, 1) := by decide +kernel
theorem dX1_drawRains_15 : decode (mC mX1_drawRains) 15 = .ok (.if_icmp .ge 40, 3) := by decide +kernel
theorem dX1_drawRains_18 : decode (mC mX1_drawRains) 18 = .ok (.iload_n 3, 1) := by decide +kernel
theorem dX1_drawRains_19 : decode (mC mX1_drawRains) 19 = .ok (.ldc 123, 2) := by decide +kernel
theorem dX1_drawRains_21 : decode (mC mX1_drawRains) 21 = .ok (.imul, 1) := by decide +kernel
theorem dX1_drawRains_22 : decode (mC mX1_drawRains) 22 = .ok (.sipush 12345, 3) := by decide +kernel
theorem dX1_drawRains_25 : decode (mC mX1_drawRains) 25 = .ok (.iadd, 1) := by decide +kernel
theorem dX1_drawRains_26 : decode (mC mX1_drawRains) 26 = .ok (.istore_n 3, 1) := by decide +kernel
theorem dX1_drawRains_27 : decode (mC mX1_drawRains) 27 = .ok (.iload_n 3, 1) := by decide +kernel
theorem dX1_drawRains_28 : decode (mC mX1_drawRains) 28 = .ok (.bipush 16, 2) := by decide +kernel
theorem dX1_drawRains_30 : decode (mC mX1_drawRains) 30 = .ok (.iushr, 1) := by decide +kernel
theorem dX1_drawRains_31 : decode (mC mX1_drawRains) 31 = .ok (.bipush 100, 2) := by decide +kernel
theorem dX1_drawRains_33 : decode (mC mX1_drawRains) 33 = .ok (.irem, 1) := by decide +kernel
theorem dX1_drawRains_34 : decode (mC mX1_drawRains) 34 = .ok (.iload_n 2, 1) := by decide +kernel
theorem dX1_drawRains_35 : decode (mC mX1_drawRains) 35 = .ok (.if_icmp .ge 14, 3) := by decide +kernel
theorem dX1_drawRains_38 : decode (mC mX1_drawRains) 38 = .ok (.aload_n 0, 1) := by decide +kernel
theorem dX1_drawRains_39 : decode (mC mX1_drawRains) 39 = .ok (.getfield 27, 3) := by decide +kernel
theorem dX1_drawRains_42 : decode (mC mX1_drawRains) 42 = .ok (.iload 5, 2) := by decide +kernel
theorem dX1_drawRains_44 : decode (mC mX1_drawRains) 44 = .ok (.iconst 1, 1) := by decide +kernel
theorem dX1_drawRains_45 : decode (mC mX1_drawRains) 45 = .ok (.iastore, 1) := by decide +kernel
theorem dX1_drawRains_46 : decode (mC mX1_drawRains) 46 = .ok (.iinc 4 1, 3) := by decide +kernel
theorem dX1_drawRains_49 : decode (mC mX1_drawRains) 49 = .ok (.iinc 5 1, 3) := by decide +kernel
theorem dX1_drawRains_52 : decode (mC mX1_drawRains) 52 = .ok (.goto (-44), 3) := by decide +kernel
theorem dX1_drawRains_55 : decode (mC mX1_drawRains) 55 = .ok (.iload 4, 2) := by decide +kernel
theorem dX1_drawRains_57 : decode (mC mX1_drawRains) 57 = .ok (.ireturn, 1) := by decide +kernel
theorem dX2_init_0 : decode (mC mX2_init) 0 = .ok (.aload_n 0, 1) := by decide +kernel
theorem dX2_init_1 : decode (mC mX2_init) 1 = .ok (.invokespecial 3, 3) := by decide +kernel
theorem dX2_init_4 : decode (mC mX2_init) 4 = .ok (.aload_n 0, 1) := by decide +kernel
theorem dX2_init_5 : decode (mC mX2_init) 5 = .ok (.bipush 24, 2) := by decide +kernel
theorem dX2_init_7 : decode (mC mX2_init) 7 = .ok (.newarray .int, 2) := by decide +kernel
theorem dX2_init_9 : decode (mC mX2_init) 9 = .ok (.putfield 9, 3) := by decide +kernel
theorem dX2_init_12 : decode (mC mX2_init) 12 = .ok (.return_, 1) := by decide +kernel
theorem dX2_clear_0 : decode (mC mX2_clear) 0 = .ok (.aload_n 0, 1) := by decide +kernel
theorem dX2_clear_1 : decode (mC mX2_clear) 1 = .ok (.iconst 0, 1) := by decide +kernel
theorem dX2_clear_2 : decode (mC mX2_clear) 2 = .ok (.putfield 15, 3) := by decide +kernel
theorem dX2_clear_5 : decode (mC mX2_clear) 5 = .ok (.aload_n 0, 1) := by decide +kernel
theorem dX2_clear_6 : decode (mC mX2_clear) 6 = .ok (.iconst (-1), 1) := by decide +kernel
theorem dX2_clear_7 : decode (mC mX2_clear) 7 = .ok (.putfield 19, 3) := by decide +kernel
theorem dX2_clear_10 : decode (mC mX2_clear) 10 = .ok (.aload_n 0, 1) := by decide +kernel
theorem dX2_clear_11 : decode (mC mX2_clear) 11 = .ok (.invokevirtual 22, 3) := by decide +kernel
theorem dX2_clear_14 : decode (mC mX2_clear) 14 = .ok (.return_, 1) := by decide +kernel
theorem dX2_stay_0 : decode (mC mX2_stay) 0 = .ok (.aload_n 0, 1) := by decide +kernel
theorem dX2_stay_1 : decode (mC mX2_stay) 1 = .ok (.iconst (-1), 1) := by decide +kernel
theorem dX2_stay_2 : decode (mC mX2_stay) 2 = .ok (.putfield 25, 3) := by decide +kernel
theorem dX2_stay_5 : decode (mC mX2_stay) 5 = .ok (.aload_n 0, 1) := by decide +kernel
theorem dX2_stay_6 : decode (mC mX2_stay) 6 = .ok (.iconst (-1), 1) := by decide +kernel
theorem dX2_stay_7 : decode (mC mX2_stay) 7 = .ok (.putfield 28, 3) := by decide +kernel
theorem dX2_stay_10 : decode (mC mX2_stay) 10 = .ok (.aload_n 0, 1) := by decide +kernel
theorem dX2_stay_11 : decode (mC mX2_stay) 11 = .ok (.iconst 0, 1) := by decide +kernel
theorem dX2_stay_12 : decode (mC mX2_stay) 12 = .ok (.putfield 31, 3) := by decide +kernel
theorem dX2_stay_15 : decode (mC mX2_stay) 15 = .ok (.return_, 1) := by decide +kernel
theorem dX2_copyFrom_0 : decode (mC mX2_copyFrom) 0 = .ok (.aload_n 0, 1) := by decide +kernel
theorem dX2_copyFrom_1 : decode (mC mX2_copyFrom) 1 = .ok (.aload_n 1, 1) := by decide +kernel
theorem dX2_copyFrom_2 : decode (mC mX2_copyFrom) 2 = .ok (.getfield 34, 3) := by decide +kernel
theorem dX2_copyFrom_5 : decode (mC mX2_copyFrom) 5 = .ok (.putfield 34, 3) := by decide +kernel
theorem dX2_copyFrom_8 : decode (mC mX2_copyFrom) 8 = .ok (.aload_n 0, 1) := by decide +kernel
theorem dX2_copyFrom_9 : decode (mC mX2_copyFrom) 9 = .ok (.aload_n 1, 1) := by decide +kernel
theorem dX2_copyFrom_10 : decode (mC mX2_copyFrom) 10 = .ok (.getfield 37, 3) := by decide +kernel
theorem dX2_copyFrom_13 : decode (mC mX2_copyFrom) 13 = .ok (.putfield 37, 3) := by decide +kernel
theorem dX2_copyFrom_16 : decode (mC mX2_copyFrom) 16 = .ok (.aload_n 0, 1) := by decide +kernel
theorem dX2_copyFrom_17 : decode (mC mX2_copyFrom) 17 = .ok (.aload_n 1, 1) := by decide +kernel
theorem dX2_copyFrom_18 : decode (mC mX2_copyFrom) 18 = .ok (.getfield 40, 3) := by decide +kernel
theorem dX2_copyFrom_21 : decode (mC mX2_copyFrom) 21 = .ok (.putfield 40, 3) := by decide +kernel
theorem dX2_copyFrom_24 : decode (mC mX2_copyFrom) 24 = .ok (.aload_n 0, 1) := by decide +kernel
theorem dX2_copyFrom_25 : decode (mC mX2_copyFrom) 25 = .ok (.aload_n 1, 1) := by decide +kernel
theorem dX2_copyFrom_26 : decode (mC mX2_copyFrom) 26 = .ok (.getfield 43, 3) := by decide +kernel
theorem dX2_copyFrom_29 : decode (mC mX2_copyFrom) 29 = .ok (.putfield 43, 3) := by decide +kernel
theorem dX2_copyFrom_32 : decode (mC mX2_copyFrom) 32 = .ok (.aload_n 0, 1) := by decide +kernel
theorem dX2_copyFrom_33 : decode (mC mX2_copyFrom) 33 = .ok (.aload_n 1, 1) := by decide +kernel
theorem dX2_copyFrom_34 : decode (mC mX2_copyFrom) 34 = .ok (.getfield 15, 3) := by decide +kernel
theorem dX2_copyFrom_37 : decode (mC mX2_copyFrom) 37 = .ok (.putfield 15, 3) := by decide +kernel
theorem dX2_copyFrom_40 : decode (mC mX2_copyFrom) 40 = .ok (.aload_n 0, 1) := by decide +kernel
theorem dX2_copyFrom_41 : decode (mC mX2_copyFrom) 41 = .ok (.aload_n 1, 1) := by decide +kernel
theorem dX2_copyFrom_42 : decode (mC mX2_copyFrom) 42 = .ok (.getfield 19, 3) := by decide +kernel
theorem dX2_copyFrom_45 : decode (mC mX2_copyFrom) 45 = .ok (.putfield 19, 3) := by decide +kernel
theorem dX2_copyFrom_48 : decode (mC mX2_copyFrom) 48 = .ok (.aload_n 0, 1) := by decide +kernel
theorem dX2_copyFrom_49 : decode (mC mX2_copyFrom) 49 = .ok (.aload_n 1, 1) := by decide +kernel
theorem dX2_copyFrom_50 : decode (mC mX2_copyFrom) 50 = .ok (.getfield 25, 3) := by decide +kernel
theorem dX2_copyFrom_53 : decode (mC mX2_copyFrom) 53 = .ok (.putfield 25, 3) := by decide +kernel
theorem dX2_copyFrom_56 : decode (mC mX2_copyFrom) 56 = .ok (.aload_n 0, 1) := by decide +kernel
theorem dX2_copyFrom_57 : decode (mC mX2_copyFrom) 57 = .ok (.aload_n 1, 1) := by decide +kernel
theorem dX2_copyFrom_58 : decode (mC mX2_copyFrom) 58 = .ok (.getfield 28, 3) := by decide +kernel
theorem dX2_copyFrom_61 : decode (mC mX2_copyFrom) 61 = .ok (.putfield 28, 3) := by decide +kernel
theorem dX2_copyFrom_64 : decode (mC mX2_copyFrom) 64 = .ok (.aload_n 0, 1) := by decide +kernel
theorem dX2_copyFrom_65 : decode (mC mX2_copyFrom) 65 = .ok (.aload_n 1, 1) := by decide +kernel
theorem dX2_copyFrom_66 : decode (mC mX2_copyFrom) 66 = .ok (.getfield 31, 3) := by decide +kernel
theorem dX2_copyFrom_69 : decode (mC mX2_copyFrom) 69 = .ok (.putfield 31, 3) := by decide +kernel
theorem dX2_copyFrom_72 : decode (mC mX2_copyFrom) 72 = .ok (.aload_n 1, 1) := by decide +kernel
theorem dX2_copyFrom_73 : decode (mC mX2_copyFrom) 73 = .ok (.getfield 9, 3) := by decide +kernel
theorem dX2_copyFrom_76 : decode (mC mX2_copyFrom) 76 = .ok (.aload_n 0, 1) := by decide +kernel
theorem dX2_copyFrom_77 : decode (mC mX2_copyFrom) 77 = .ok (.getfield 9, 3) := by decide +kernel
theorem dX2_copyFrom_80 : decode (mC mX2_copyFrom) 80 = .ok (.invokestatic 46, 3) := by decide +kernel
theorem dX2_copyFrom_83 : decode (mC mX2_copyFrom) 83 = .ok (.return_, 1) := by decide +kernel
theorem dX2_walksHimself_0 : decode (mC mX2_walksHimself) 0 = .ok (.aload_n 0, 1) := by decide +kernel
theorem dX2_walksHimself_1 : decode (mC mX2_walksHimself) 1 = .ok (.getfield 19, 3) := by decide +kernel
theorem dX2_walksHimself_4 : decode (mC mX2_walksHimself) 4 = .ok (.iconst (-1), 1) := by decide +kernel
theorem dX2_walksHimself_5 : decode (mC mX2_walksHimself) 5 = .ok (.if_icmp .ne 15, 3) := by decide +kernel
theorem dX2_walksHimself_8 : decode (mC mX2_walksHimself) 8 = .ok (.aload_n 0, 1) := by decide +kernel
theorem dX2_walksHimself_9 : decode (mC mX2_walksHimself) 9 = .ok (.getfield 25, 3) := by decide +kernel
theorem dX2_walksHimself_12 : decode (mC mX2_walksHimself) 12 = .ok (.iconst (-1), 1) := by decide +kernel
theorem dX2_walksHimself_13 : decode (mC mX2_walksHimself) 13 = .ok (.if_icmp .eq 7, 3) := by decide +kernel
theorem dX2_walksHimself_16 : decode (mC mX2_walksHimself) 16 = .ok (.iconst 1, 1) := by decide +kernel
theorem dX2_walksHimself_17 : decode (mC mX2_walksHimself) 17 = .ok (.goto 4, 3) := by decide +kernel
theorem dX2_walksHimself_20 : decode (mC mX2_walksHimself) 20 = .ok (.iconst 0, 1) := by decide +kernel
theorem dX2_walksHimself_21 : decode (mC mX2_walksHimself) 21 = .ok (.ireturn, 1) := by decide +kernel
theorem dX2_sideAt_0 : decode (mC mX2_sideAt) 0 = .ok (.aload_n 0, 1) := by decide +kernel
theorem dX2_sideAt_1 : decode (mC mX2_sideAt) 1 = .ok (.getfield 9, 3) := by decide +kernel
theorem dX2_sideAt_4 : decode (mC mX2_sideAt) 4 = .ok (.iconst 0, 1) := by decide +kernel
theorem dX2_sideAt_5 : decode (mC mX2_sideAt) 5 = .ok (.iload_n 1, 1) := by decide +kernel
theorem dX2_sideAt_6 : decode (mC mX2_sideAt) 6 = .ok (.iconst 1, 1) := by decide +kernel
theorem dX2_sideAt_7 : decode (mC mX2_sideAt) 7 = .ok (.isub, 1) := by decide +kernel
theorem dX2_sideAt_8 : decode (mC mX2_sideAt) 8 = .ok (.invokestatic 50, 3) := by decide +kernel
theorem dX2_sideAt_11 : decode (mC mX2_sideAt) 11 = .ok (.invokestatic 56, 3) := by decide +kernel
theorem dX2_sideAt_14 : decode (mC mX2_sideAt) 14 = .ok (.ireturn, 1) := by decide +kernel
theorem dX2_depthUnder_0 : decode (mC mX2_depthUnder) 0 = .ok (.aload_n 0, 1) := by decide +kernel
theorem dX2_depthUnder_1 : decode (mC mX2_depthUnder) 1 = .ok (.getfield 43, 3) := by decide +kernel
theorem dX2_depthUnder_4 : decode (mC mX2_depthUnder) 4 = .ok (.iload_n 2, 1) := by decide +kernel
theorem dX2_depthUnder_5 : decode (mC mX2_depthUnder) 5 = .ok (.iconst 1, 1) := by decide +kernel
theorem dX2_depthUnder_6 : decode (mC mX2_depthUnder) 6 = .ok (.iadd, 1) := by decide +kernel
theorem dX2_depthUnder_7 : decode (mC mX2_depthUnder) 7 = .ok (.if_icmp .ne 13, 3) := by decide +kernel
theorem dX2_depthUnder_10 : decode (mC mX2_depthUnder) 10 = .ok (.iconst 1, 1) := by decide +kernel
theorem dX2_depthUnder_11 : decode (mC mX2_depthUnder) 11 = .ok (.iload_n 1, 1) := by decide +kernel
theorem dX2_depthUnder_12 : decode (mC mX2_depthUnder) 12 = .ok (.iconst 2, 1) := by decide +kernel
theorem dX2_depthUnder_13 : decode (mC mX2_depthUnder) 13 = .ok (.idiv, 1) := by decide +kernel
theorem dX2_depthUnder_14 : decode (mC mX2_depthUnder) 14 = .ok (.invokestatic 50, 3) := by decide +kernel
theorem dX2_depthUnder_17 : decode (mC mX2_depthUnder) 17 = .ok (.goto 4, 3) := by decide +kernel
theorem dX2_depthUnder_20 : decode (mC mX2_depthUnder) 20 = .ok (.iload_n 1, 1) := by decide +kernel
theorem dX2_depthUnder_21 : decode (mC mX2_depthUnder) 21 = .ok (.ireturn, 1) := by decide +kernel
theorem dX3_init_0 : decode (mC mX3_init) 0 = .ok (.aload_n 0, 1) := by decide +kernel
theorem dX3_init_1 : decode (mC mX3_init) 1 = .ok (.invokespecial 3, 3) := by decide +kernel
theorem dX3_init_4 : decode (mC mX3_init) 4 = .ok (.aload_n 0, 1) := by decide +kernel
theorem dX3_init_5 : decode (mC mX3_init) 5 = .ok (.bipush 10, 2) := by decide +kernel
theorem dX3_init_7 : decode (mC mX3_init) 7 = .ok (.newarray .int, 2) := by decide +kernel
theorem dX3_init_9 : decode (mC mX3_init) 9 = .ok (.putfield 9, 3) := by decide +kernel
theorem dX3_init_12 : decode (mC mX3_init) 12 = .ok (.aload_n 0, 1) := by decide +kernel
theorem dX3_init_13 : decode (mC mX3_init) 13 = .ok (.bipush 10, 2) := by decide +kernel
theorem dX3_init_15 : decode (mC mX3_init) 15 = .ok (.newarray .int, 2) := by decide +kernel
theorem dX3_init_17 : decode (mC mX3_init) 17 = .ok (.putfield 15, 3) := by decide +kernel
theorem dX3_init_20 : decode (mC mX3_init) 20 = .ok (.aload_n 0, 1) := by decide +kernel
theorem dX3_init_21 : decode (mC mX3_init) 21 = .ok (.bipush 10, 2) := by decide +kernel
theorem dX3_init_23 : decode (mC mX3_init) 23 = .ok (.newarray .int, 2) := by decide +kernel
theorem dX3_init_25 : decode (mC mX3_init) 25 = .ok (.putfield 18, 3) := by decide +kernel
theorem dX3_init_28 : decode (mC mX3_init) 28 = .ok (.aload_n 0, 1) := by decide +kernel
theorem dX3_init_29 : decode (mC mX3_init) 29 = .ok (.bipush 10, 2) := by decide +kernel
theorem dX3_init_31 : decode (mC mX3_init) 31 = .ok (.newarray .int, 2) := by decide +kernel
theorem dX3_init_33 : decode (mC mX3_init) 33 = .ok (.putfield 21, 3) := by decide +kernel
theorem dX3_init_36 : decode (mC mX3_init) 36 = .ok (.aload_n 0, 1) := by decide +kernel
theorem dX3_init_37 : decode (mC mX3_init) 37 = .ok (.bipush 10, 2) := by decide +kernel
theorem dX3_init_39 : decode (mC mX3_init) 39 = .ok (.newarray .int, 2) := by decide +kernel
theorem dX3_init_41 : decode (mC mX3_init) 41 = .ok (.putfield 24, 3) := by decide +kernel
theorem dX3_init_44 : decode (mC mX3_init) 44 = .ok (.return_, 1) := by decide +kernel
theorem dX3_copyFrom_0 : decode (mC mX3_copyFrom) 0 = .ok (.aload_n 0, 1) := by decide +kernel
theorem dX3_copyFrom_1 : decode (mC mX3_copyFrom) 1 = .ok (.aload_n 1, 1) := by decide +kernel
theorem dX3_copyFrom_2 : decode (mC mX3_copyFrom) 2 = .ok (.getfield 27, 3) := by decide +kernel
theorem dX3_copyFrom_5 : decode (mC mX3_copyFrom) 5 = .ok (.putfield 27, 3) := by decide +kernel
theorem dX3_copyFrom_8 : decode (mC mX3_copyFrom) 8 = .ok (.aload_n 1, 1) := by decide +kernel
theorem dX3_copyFrom_9 : decode (mC mX3_copyFrom) 9 = .ok (.getfield 9, 3) := by decide +kernel
theorem dX3_copyFrom_12 : decode (mC mX3_copyFrom) 12 = .ok (.aload_n 0, 1) := by decide +kernel
theorem dX3_copyFrom_13 : decode (mC mX3_copyFrom) 13 = .ok (.getfield 9, 3) := by decide +kernel
theorem dX3_copyFrom_16 : decode (mC mX3_copyFrom) 16 = .ok (.invokestatic 31, 3) := by decide +kernel
theorem dX3_copyFrom_19 : decode (mC mX3_copyFrom) 19 = .ok (.aload_n 1, 1) := by decide +kernel
theorem dX3_copyFrom_20 : decode (mC mX3_copyFrom) 20 = .ok (.getfield 15, 3) := by decide +kernel
theorem dX3_copyFrom_23 : decode (mC mX3_copyFrom) 23 = .ok (.aload_n 0, 1) := by decide +kernel
theorem dX3_copyFrom_24 : decode (mC mX3_copyFrom) 24 = .ok (.getfield 15, 3) := by decide +kernel
theorem dX3_copyFrom_27 : decode (mC mX3_copyFrom) 27 = .ok (.invokestatic 31, 3) := by decide +kernel
theorem dX3_copyFrom_30 : decode (mC mX3_copyFrom) 30 = .ok (.aload_n 1, 1) := by decide +kernel
theorem dX3_copyFrom_31 : decode (mC mX3_copyFrom) 31 = .ok (.getfield 18, 3) := by decide +kernel
theorem dX3_copyFrom_34 : decode (mC mX3_copyFrom) 34 = .ok (.aload_n 0, 1) := by decide +kernel
theorem dX3_copyFrom_35 : decode (mC mX3_copyFrom) 35 = .ok (.getfield 18, 3) := by decide +kernel
theorem dX3_copyFrom_38 : decode (mC mX3_copyFrom) 38 = .ok (.invokestatic 31, 3) := by decide +kernel
theorem dX3_copyFrom_41 : decode (mC mX3_copyFrom) 41 = .ok (.aload_n 1, 1) := by decide +kernel
theorem dX3_copyFrom_42 : decode (mC mX3_copyFrom) 42 = .ok (.getfield 21, 3) := by decide +kernel
theorem dX3_copyFrom_45 : decode (mC mX3_copyFrom) 45 = .ok (.aload_n 0, 1) := by decide +kernel
theorem dX3_copyFrom_46 : decode (mC mX3_copyFrom) 46 = .ok (.getfield 21, 3) := by decide +kernel
theorem dX3_copyFrom_49 : decode (mC mX3_copyFrom) 49 = .ok (.invokestatic 31, 3) := by decide +kernel
theorem dX3_copyFrom_52 : decode (mC mX3_copyFrom) 52 = .ok (.aload_n 1, 1) := by decide +kernel
theorem dX3_copyFrom_53 : decode (mC mX3_copyFrom) 53 = .ok (.getfield 24, 3) := by decide +kernel
theorem dX3_copyFrom_56 : decode (mC mX3_copyFrom) 56 = .ok (.aload_n 0, 1) := by decide +kernel
theorem dX3_copyFrom_57 : decode (mC mX3_copyFrom) 57 = .ok (.getfield 24, 3) := by decide +kernel
theorem dX3_copyFrom_60 : decode (mC mX3_copyFrom) 60 = .ok (.invokestatic 31, 3) := by decide +kernel
theorem dX3_copyFrom_63 : decode (mC mX3_copyFrom) 63 = .ok (.return_, 1) := by decide +kernel
theorem dX3_hasSign_0 : decode (mC mX3_hasSign) 0 = .ok (.iload_n 1, 1) := by decide +kernel
theorem dX3_hasSign_1 : decode (mC mX3_hasSign) 1 = .ok (.ifCond .lt 15, 3) := by decide +kernel
theorem dX3_hasSign_4 : decode (mC mX3_hasSign) 4 = .ok (.iload_n 1, 1) := by decide +kernel
theorem dX3_hasSign_5 : decode (mC mX3_hasSign) 5 = .ok (.aload_n 0, 1) := by decide +kernel
theorem dX3_hasSign_6 : decode (mC mX3_hasSign) 6 = .ok (.getfield 27, 3) := by decide +kernel
theorem dX3_hasSign_9 : decode (mC mX3_hasSign) 9 = .ok (.if_icmp .ge 7, 3) := by decide +kernel
theorem dX3_hasSign_12 : decode (mC mX3_hasSign) 12 = .ok (.iconst 1, 1) := by decide +kernel
theorem dX3_hasSign_13 : decode (mC mX3_hasSign) 13 = .ok (.goto 4, 3) := by decide +kernel
theorem dX3_hasSign_16 : decode (mC mX3_hasSign) 16 = .ok (.iconst 0, 1) := by decide +kernel
theorem dX3_hasSign_17 : decode (mC mX3_hasSign) 17 = .ok (.ireturn, 1) := by decide +kernel
theorem dX3_part_0 : decode (mC mX3_part) 0 = .ok (.iload_n 2, 1) := by decide +kernel
theorem dX3_part_1 : decode (mC mX3_part) 1 = .ok (.tableswitch 80 0 4 #[35, 44, 53, 62, 71], 35) := by decide +kernel
theorem dX3_part_36 : decode (mC mX3_part) 36 = .ok (.aload_n 0, 1) := by decide +kernel
theorem dX3_part_37 : decode (mC mX3_part) 37 = .ok (.getfield 9, 3) := by decide +kernel
theorem dX3_part_40 : decode (mC mX3_part) 40 = .ok (.iload_n 1, 1) := by decide +kernel
theorem dX3_part_41 : decode (mC mX3_part) 41 = .ok (.invokestatic 35, 3) := by decide +kernel
theorem dX3_part_44 : decode (mC mX3_part) 44 = .ok (.ireturn, 1) := by decide +kernel
theorem dX3_part_45 : decode (mC mX3_part) 45 = .ok (.aload_n 0, 1) := by decide +kernel
theorem dX3_part_46 : decode (mC mX3_part) 46 = .ok (.getfield 15, 3) := by decide +kernel
theorem dX3_part_49 : decode (mC mX3_part) 49 = .ok (.iload_n 1, 1) := by decide +kernel
theorem dX3_part_50 : decode (mC mX3_part) 50 = .ok (.invokestatic 35, 3) := by decide +kernel
theorem dX3_part_53 : decode (mC mX3_part) 53 = .ok (.ireturn, 1) := by decide +kernel
theorem dX3_part_54 : decode (mC mX3_part) 54 = .ok (.aload_n 0, 1) := by decide +kernel
theorem dX3_part_55 : decode (mC mX3_part) 55 = .ok (.getfield 18, 3) := by decide +kernel
theorem dX3_part_58 : decode (mC mX3_part) 58 = .ok (.iload_n 1, 1) := by decide +kernel
theorem dX3_part_59 : decode (mC mX3_part) 59 = .ok (.invokestatic 35, 3) := by decide +kernel
theorem dX3_part_62 : decode (mC mX3_part) 62 = .ok (.ireturn, 1) := by decide +kernel
theorem dX3_part_63 : decode (mC mX3_part) 63 = .ok (.aload_n 0, 1) := by decide +kernel
theorem dX3_part_64 : decode (mC mX3_part) 64 = .ok (.getfield 21, 3) := by decide +kernel
theorem dX3_part_67 : decode (mC mX3_part) 67 = .ok (.iload_n 1, 1) := by decide +kernel
theorem dX3_part_68 : decode (mC mX3_part) 68 = .ok (.invokestatic 35, 3) := by decide +kernel
theorem dX3_part_71 : decode (mC mX3_part) 71 = .ok (.ireturn, 1) := by decide +kernel
theorem dX3_part_72 : decode (mC mX3_part) 72 = .ok (.aload_n 0, 1) := by decide +kernel
theorem dX3_part_73 : decode (mC mX3_part) 73 = .ok (.getfield 24, 3) := by decide +kernel
theorem dX3_part_76 : decode (mC mX3_part) 76 = .ok (.iload_n 1, 1) := by decide +kernel
theorem dX3_part_77 : decode (mC mX3_part) 77 = .ok (.invokestatic 35, 3) := by decide +kernel
theorem dX3_part_80 : decode (mC mX3_part) 80 = .ok (.ireturn, 1) := by decide +kernel
theorem dX3_part_81 : decode (mC mX3_part) 81 = .ok (.bipush (-2), 2) := by decide +kernel
theorem dX3_part_83 : decode (mC mX3_part) 83 = .ok (.ireturn, 1) := by decide +kernel
theorem dX4_init_0 : decode (mC mX4_init) 0 = .ok (.aload_n 0, 1) := by decide +kernel
theorem dX4_init_1 : decode (mC mX4_init) 1 = .ok (.invokespecial 3, 3) := by decide +kernel
theorem dX4_init_4 : decode (mC mX4_init) 4 = .ok (.aload_n 0, 1) := by decide +kernel
theorem dX4_init_5 : decode (mC mX4_init) 5 = .ok (.bipush 10, 2) := by decide +kernel
theorem dX4_init_7 : decode (mC mX4_init) 7 = .ok (.newarray .int, 2) := by decide +kernel
theorem dX4_init_9 : decode (mC mX4_init) 9 = .ok (.putfield 9, 3) := by decide +kernel
theorem dX4_init_12 : decode (mC mX4_init) 12 = .ok (.aload_n 0, 1) := by decide +kernel
theorem dX4_init_13 : decode (mC mX4_init) 13 = .ok (.bipush 10, 2) := by decide +kernel
theorem dX4_init_15 : decode (mC mX4_init) 15 = .ok (.newarray .int, 2) := by decide +kernel
theorem dX4_init_17 : decode (mC mX4_init) 17 = .ok (.putfield 15, 3) := by decide +kernel
theorem dX4_init_20 : decode (mC mX4_init) 20 = .ok (.aload_n 0, 1) := by decide +kernel
theorem dX4_init_21 : decode (mC mX4_init) 21 = .ok (.bipush 10, 2) := by decide +kernel
theorem dX4_init_23 : decode (mC mX4_init) 23 = .ok (.newarray .int, 2) := by decide +kernel
theorem dX4_init_25 : decode (mC mX4_init) 25 = .ok (.putfield 18, 3) := by decide +kernel
theorem dX4_init_28 : decode (mC mX4_init) 28 = .ok (.aload_n 0, 1) := by decide +kernel
theorem dX4_init_29 : decode (mC mX4_init) 29 = .ok (.bipush 10, 2) := by decide +kernel
theorem dX4_init_31 : decode (mC mX4_init) 31 = .ok (.newarray .int, 2) := by decide +kernel
theorem dX4_init_33 : decode (mC mX4_init) 33 = .ok (.putfield 21, 3) := by decide +kernel
theorem dX4_init_36 : decode (mC mX4_init) 36 = .ok (.aload_n 0, 1) := by decide +kernel
theorem dX4_init_37 : decode (mC mX4_init) 37 = .ok (.bipush 10, 2) := by decide +kernel
theorem dX4_init_39 : decode (mC mX4_init) 39 = .ok (.newarray .int, 2) := by decide +kernel
theorem dX4_init_41 : decode (mC mX4_init) 41 = .ok (.putfield 24, 3) := by decide +kernel
theorem dX4_init_44 : decode (mC mX4_init) 44 = .ok (.aload_n 0, 1) := by decide +kernel
theorem dX4_init_45 : decode (mC mX4_init) 45 = .ok (.bipush 10, 2) := by decide +kernel
theorem dX4_init_47 : decode (mC mX4_init) 47 = .ok (.newarray .int, 2) := by decide +kernel
theorem dX4_init_49 : decode (mC mX4_init) 49 = .ok (.putfield 27, 3) := by decide +kernel
theorem dX4_init_52 : decode (mC mX4_init) 52 = .ok (.return_, 1) := by decide +kernel
theorem dX4_compare_0 : decode (mC mX4_compare) 0 = .ok (.aload_n 0, 1) := by decide +kernel
theorem dX4_compare_1 : decode (mC mX4_compare) 1 = .ok (.aload_n 2, 1) := by decide +kernel
theorem dX4_compare_2 : decode (mC mX4_compare) 2 = .ok (.getfield 30, 3) := by decide +kernel
theorem dX4_compare_5 : decode (mC mX4_compare) 5 = .ok (.putfield 36, 3) := by decide +kernel
theorem dX4_compare_8 : decode (mC mX4_compare) 8 = .ok (.aload_n 0, 1) := by decide +kernel
theorem dX4_compare_9 : decode (mC mX4_compare) 9 = .ok (.iconst (-1), 1) := by decide +kernel
theorem dX4_compare_10 : decode (mC mX4_compare) 10 = .ok (.putfield 37, 3) := by decide +kernel
theorem dX4_compare_13 : decode (mC mX4_compare) 13 = .ok (.iconst 0, 1) := by decide +kernel
theorem dX4_compare_14 : decode (mC mX4_compare) 14 = .ok (.istore_n 3, 1) := by decide +kernel
theorem dX4_compare_15 : decode (mC mX4_compare) 15 = .ok (.iload_n 3, 1) := by decide +kernel
theorem dX4_compare_16 : decode (mC mX4_compare) 16 = .ok (.aload_n 0, 1) := by decide +kernel
theorem dX4_compare_17 : decode (mC mX4_compare) 17 = .ok (.getfield 36, 3) := by decide +kernel
theorem dX4_compare_20 : decode (mC mX4_compare) 20 = .ok (.if_icmp .ge 23, 3) := by decide +kernel
theorem dX4_compare_23 : decode (mC mX4_compare) 23 = .ok (.aload_n 0, 1) := by decide +kernel
theorem dX4_compare_24 : decode (mC mX4_compare) 24 = .ok (.getfield 9, 3) := by decide +kernel
theorem dX4_compare_27 : decode (mC mX4_compare) 27 = .ok (.iload_n 3, 1) := by decide +kernel
theorem dX4_compare_28 : decode (mC mX4_compare) 28 = .ok (.aload_n 1, 1) := by decide +kernel
theorem dX4_compare_29 : decode (mC mX4_compare) 29 = .ok (.aload_n 2, 1) := by decide +kernel
theorem dX4_compare_30 : decode (mC mX4_compare) 30 = .ok (.iload_n 3, 1) := by decide +kernel
theorem dX4_compare_31 : decode (mC mX4_compare) 31 = .ok (.invokestatic 40, 3) := by decide +kernel
theorem dX4_compare_34 : decode (mC mX4_compare) 34 = .ok (.invokestatic 44, 3) := by decide +kernel
theorem dX4_compare_37 : decode (mC mX4_compare) 37 = .ok (.iinc 3 1, 3) := by decide +kernel
theorem dX4_compare_40 : decode (mC mX4_compare) 40 = .ok (.goto (-25), 3) := by decide +kernel
theorem dX4_compare_43 : decode (mC mX4_compare) 43 = .ok (.iconst 0, 1) := by decide +kernel
theorem dX4_compare_44 : decode (mC mX4_compare) 44 = .ok (.istore_n 3, 1) := by decide +kernel
theorem dX4_compare_45 : decode (mC mX4_compare) 45 = .ok (.iload_n 3, 1) := by decide +kernel
theorem dX4_compare_46 : decode (mC mX4_compare) 46 = .ok (.aload_n 0, 1) := by decide +kernel
theorem dX4_compare_47 : decode (mC mX4_compare) 47 = .ok (.getfield 36, 3) := by decide +kernel
theorem dX4_compare_50 : decode (mC mX4_compare) 50 = .ok (.if_icmp .ge 61, 3) := by decide +kernel
theorem dX4_compare_53 : decode (mC mX4_compare) 53 = .ok (.iconst 0, 1) := by decide +kernel
theorem dX4_compare_54 : decode (mC mX4_compare) 54 = .ok (.istore 4, 2) := by decide +kernel
theorem dX4_compare_56 : decode (mC mX4_compare) 56 = .ok (.iconst 0, 1) := by decide +kernel
theorem dX4_compare_57 : decode (mC mX4_compare) 57 = .ok (.istore 5, 2) := by decide +kernel
theorem dX4_compare_59 : decode (mC mX4_compare) 59 = .ok (.iload 5, 2) := by decide +kernel
theorem dX4_compare_61 : decode (mC mX4_compare) 61 = .ok (.aload_n 0, 1) := by decide +kernel
theorem dX4_compare_62 : decode (mC mX4_compare) 62 = .ok (.getfield 36, 3) := by decide +kernel
theorem dX4_compare_65 : decode (mC mX4_compare) 65 = .ok (.if_icmp .ge 30, 3) := by decide +kernel
theorem dX4_compare_68 : decode (mC mX4_compare) 68 = .ok (.aload_n 0, 1) := by decide +kernel
theorem dX4_compare_69 : decode (mC mX4_compare) 69 = .ok (.aload_n 1, 1) := by decide +kernel
theorem dX4_compare_70 : decode (mC mX4_compare) 70 = .ok (.aload_n 2, 1) := by decide +kernel
theorem dX4_compare_71 : decode (mC mX4_compare) 71 = .ok (.iload_n 3, 1) := by decide +kernel
theorem dX4_compare_72 : decode (mC mX4_compare) 72 = .ok (.iload 5, 2) := by decide +kernel
theorem dX4_compare_74 : decode (mC mX4_compare) 74 = .ok (.invokevirtual 48, 3) := by decide +kernel
theorem dX4_compare_77 : decode (mC mX4_compare) 77 = .ok (.ifCond .eq 12, 3) := by decide +kernel
theorem dX4_compare_80 : decode (mC mX4_compare) 80 = .ok (.iload 4, 2) := by decide +kernel
theorem dX4_compare_82 : decode (mC mX4_compare) 82 = .ok (.iconst 1, 1) := by decide +kernel
theorem dX4_compare_83 : decode (mC mX4_compare) 83 = .ok (.iload 5, 2) := by decide +kernel
theorem dX4_compare_85 : decode (mC mX4_compare) 85 = .ok (.ishl, 1) := by decide +kernel
theorem dX4_compare_86 : decode (mC mX4_compare) 86 = .ok (.ior, 1) := by decide +kernel
theorem dX4_compare_87 : decode (mC mX4_compare) 87 = .ok (.istore 4, 2) := by decide +kernel
theorem dX4_compare_89 : decode (mC mX4_compare) 89 = .ok (.iinc 5 1, 3) := by decide +kernel
theorem dX4_compare_92 : decode (mC mX4_compare) 92 = .ok (.goto (-33), 3) := by decide +kernel
theorem dX4_compare_95 : decode (mC mX4_compare) 95 = .ok (.aload_n 0, 1) := by decide +kernel
theorem dX4_compare_96 : decode (mC mX4_compare) 96 = .ok (.getfield 15, 3) := by decide +kernel
theorem dX4_compare_99 : decode (mC mX4_compare) 99 = .ok (.iload_n 3, 1) := by decide +kernel
theorem dX4_compare_100 : decode (mC mX4_compare) 100 = .ok (.iload 4, 2) := by decide +kernel
theorem dX4_compare_102 : decode (mC mX4_compare) 102 = .ok (.invokestatic 44, 3) := by decide +kernel
theorem dX4_compare_105 : decode (mC mX4_compare) 105 = .ok (.iinc 3 1, 3) := by decide +kernel
theorem dX4_compare_108 : decode (mC mX4_compare) 108 = .ok (.goto (-63), 3) := by decide +kernel
theorem dX4_compare_111 : decode (mC mX4_compare) 111 = .ok (.return_, 1) := by decide +kernel
theorem dX4_makersOf_0 : decode (mC mX4_makersOf) 0 = .ok (.iconst 0, 1) := by decide +kernel
theorem dX4_makersOf_1 : decode (mC mX4_makersOf) 1 = .ok (.istore_n 3, 1) := by decide +kernel
theorem dX4_makersOf_2 : decode (mC mX4_makersOf) 2 = .ok (.aload_n 1, 1) := by decide +kernel
theorem dX4_makersOf_3 : decode (mC mX4_makersOf) 3 = .ok (.getfield 52, 3) := by decide +kernel
theorem dX4_makersOf_6 : decode (mC mX4_makersOf) 6 = .ok (.iload_n 2, 1) := by decide +kernel
theorem dX4_makersOf_7 : decode (mC mX4_makersOf) 7 = .ok (.invokestatic 55, 3) := by decide +kernel
theorem dX4_makersOf_10 : decode (mC mX4_makersOf) 10 = .ok (.istore 4, 2) := by decide +kernel
theorem dX4_makersOf_12 : decode (mC mX4_makersOf) 12 = .ok (.iconst 0, 1) := by decide +kernel
theorem dX4_makersOf_13 : decode (mC mX4_makersOf) 13 = .ok (.istore 5, 2) := by decide +kernel
theorem dX4_makersOf_15 : decode (mC mX4_makersOf) 15 = .ok (.iload 5, 2) := by decide +kernel
theorem dX4_makersOf_17 : decode (mC mX4_makersOf) 17 = .ok (.aload_n 0, 1) := by decide +kernel
theorem dX4_makersOf_18 : decode (mC mX4_makersOf) 18 = .ok (.getfield 59, 3) := by decide +kernel
theorem dX4_makersOf_21 : decode (mC mX4_makersOf) 21 = .ok (.if_icmp .ge 57, 3) := by decide +kernel
theorem dX4_makersOf_24 : decode (mC mX4_makersOf) 24 = .ok (.aload_n 0, 1) := by decide +kernel
theorem dX4_makersOf_25 : decode (mC mX4_makersOf) 25 = .ok (.iload 5, 2) := by decide +kernel
theorem dX4_makersOf_27 : decode (mC mX4_makersOf) 27 = .ok (.invokevirtual 64, 3) := by decide +kernel
theorem dX4_makersOf_30 : decode (mC mX4_makersOf) 30 = .ok (.astore 6, 2) := by decide +kernel
theorem dX4_makersOf_32 : decode (mC mX4_makersOf) 32 = .ok (.aload 6, 2) := by decide +kernel
theorem dX4_makersOf_34 : decode (mC mX4_makersOf) 34 = .ok (.ifnull 38, 3) := by decide +kernel
theorem dX4_makersOf_37 : decode (mC mX4_makersOf) 37 = .ok (.iload 4, 2) := by decide +kernel
theorem dX4_makersOf_39 : decode (mC mX4_makersOf) 39 = .ok (.bipush 6, 2) := by decide +kernel
theorem dX4_makersOf_41 : decode (mC mX4_makersOf) 41 = .ok (.if_icmp .eq 13, 3) := by decide +kernel
theorem dX4_makersOf_44 : decode (mC mX4_makersOf) 44 = .ok (.iload 4, 2) := by decide +kernel
theorem dX4_makersOf_46 : decode (mC mX4_makersOf) 46 = .ok (.aload 6, 2) := by decide +kernel
theorem dX4_makersOf_48 : decode (mC mX4_makersOf) 48 = .ok (.getfield 68, 3) := by decide +kernel
theorem dX4_makersOf_51 : decode (mC mX4_makersOf) 51 = .ok (.if_icmp .ne 21, 3) := by decide +kernel
theorem dX4_makersOf_54 : decode (mC mX4_makersOf) 54 = .ok (.aload_n 0, 1) := by decide +kernel
theorem dX4_makersOf_55 : decode (mC mX4_makersOf) 55 = .ok (.aload_n 1, 1) := by decide +kernel
theorem dX4_makersOf_56 : decode (mC mX4_makersOf) 56 = .ok (.iload_n 2, 1) := by decide +kernel
theorem dX4_makersOf_57 : decode (mC mX4_makersOf) 57 = .ok (.iload 5, 2) := by decide +kernel
theorem dX4_makersOf_59 : decode (mC mX4_makersOf) 59 = .ok (.invokestatic 73, 3) := by decide +kernel
theorem dX4_makersOf_62 : decode (mC mX4_makersOf) 62 = .ok (.ifCond .eq 10, 3) := by decide +kernel
theorem dX4_makersOf_65 : decode (mC mX4_makersOf) 65 = .ok (.iload_n 3, 1) := by decide +kernel
theorem dX4_makersOf_66 : decode (mC mX4_makersOf) 66 = .ok (.iconst 1, 1) := by decide +kernel
theorem dX4_makersOf_67 : decode (mC mX4_makersOf) 67 = .ok (.iload 5, 2) := by decide +kernel
theorem dX4_makersOf_69 : decode (mC mX4_makersOf) 69 = .ok (.ishl, 1) := by decide +kernel
theorem dX4_makersOf_70 : decode (mC mX4_makersOf) 70 = .ok (.ior, 1) := by decide +kernel
theorem dX4_makersOf_71 : decode (mC mX4_makersOf) 71 = .ok (.istore_n 3, 1) := by decide +kernel
theorem dX4_makersOf_72 : decode (mC mX4_makersOf) 72 = .ok (.iinc 5 1, 3) := by decide +kernel
theorem dX4_makersOf_75 : decode (mC mX4_makersOf) 75 = .ok (.goto (-60), 3) := by decide +kernel
theorem dX4_makersOf_78 : decode (mC mX4_makersOf) 78 = .ok (.iload_n 3, 1) := by decide +kernel
theorem dX4_makersOf_79 : decode (mC mX4_makersOf) 79 = .ok (.ireturn, 1) := by decide +kernel
theorem dX4_pressesSo_0 : decode (mC mX4_pressesSo) 0 = .ok (.aload_n 0, 1) := by decide +kernel
theorem dX4_pressesSo_1 : decode (mC mX4_pressesSo) 1 = .ok (.iload_n 3, 1) := by decide +kernel
theorem dX4_pressesSo_2 : decode (mC mX4_pressesSo) 2 = .ok (.invokevirtual 64, 3) := by decide +kernel
theorem dX4_pressesSo_5 : decode (mC mX4_pressesSo) 5 = .ok (.astore 4, 2) := by decide +kernel
theorem dX4_pressesSo_7 : decode (mC mX4_pressesSo) 7 = .ok (.iconst 0, 1) := by decide +kernel
theorem dX4_pressesSo_8 : decode (mC mX4_pressesSo) 8 = .ok (.istore 5, 2) := by decide +kernel
theorem dX4_pressesSo_10 : decode (mC mX4_pressesSo) 10 = .ok (.iload 5, 2) := by decide +kernel
theorem dX4_pressesSo_12 : decode (mC mX4_pressesSo) 12 = .ok (.aload_n 0, 1) := by decide +kernel
theorem dX4_pressesSo_13 : decode (mC mX4_pressesSo) 13 = .ok (.getfield 59, 3) := by decide +kernel
theorem dX4_pressesSo_16 : decode (mC mX4_pressesSo) 16 = .ok (.if_icmp .ge 87, 3) := by decide +kernel
theorem dX4_pressesSo_19 : decode (mC mX4_pressesSo) 19 = .ok (.aload 4, 2) := by decide +kernel
theorem dX4_pressesSo_21 : decode (mC mX4_pressesSo) 21 = .ok (.ifnull 82, 3) := by decide +kernel
theorem dX4_pressesSo_24 : decode (mC mX4_pressesSo) 24 = .ok (.aload_n 0, 1) := by decide +kernel
theorem dX4_pressesSo_25 : decode (mC mX4_pressesSo) 25 = .ok (.iload 5, 2) := by decide +kernel
theorem dX4_pressesSo_27 : decode (mC mX4_pressesSo) 27 = .ok (.invokevirtual 64, 3) := by decide +kernel
theorem dX4_pressesSo_30 : decode (mC mX4_pressesSo) 30 = .ok (.astore 6, 2) := by decide +kernel
theorem dX4_pressesSo_32 : decode (mC mX4_pressesSo) 32 = .ok (.aload 6, 2) := by decide +kernel
theorem dX4_pressesSo_34 : decode (mC mX4_pressesSo) 34 = .ok (.ifnull 9, 3) := by decide +kernel
theorem dX4_pressesSo_37 : decode (mC mX4_pressesSo) 37 = .ok (.iload 5, 2) := by decide +kernel
theorem dX4_pressesSo_39 : decode (mC mX4_pressesSo) 39 = .ok (.iload_n 3, 1) := by decide +kernel
theorem dX4_pressesSo_40 : decode (mC mX4_pressesSo) 40 = .ok (.if_icmp .ne 7, 3) := by decide +kernel
theorem dX4_pressesSo_43 : decode (mC mX4_pressesSo) 43 = .ok (.iconst 0, 1) := by decide +kernel
theorem dX4_pressesSo_44 : decode (mC mX4_pressesSo) 44 = .ok (.goto 8, 3) := by decide +kernel
theorem dX4_pressesSo_47 : decode (mC mX4_pressesSo) 47 = .ok (.aload 6, 2) := by decide +kernel
theorem dX4_pressesSo_49 : decode (mC mX4_pressesSo) 49 = .ok (.getfield 76, 3) := by decide +kernel
theorem dX4_pressesSo_52 : decode (mC mX4_pressesSo) 52 = .ok (.istore 7, 2) := by decide +kernel
theorem dX4_pressesSo_54 : decode (mC mX4_pressesSo) 54 = .ok (.aload 4, 2) := by decide +kernel
theorem dX4_pressesSo_56 : decode (mC mX4_pressesSo) 56 = .ok (.aload 4, 2) := by decide +kernel
theorem dX4_pressesSo_58 : decode (mC mX4_pressesSo) 58 = .ok (.getfield 76, 3) := by decide +kernel
theorem dX4_pressesSo_61 : decode (mC mX4_pressesSo) 61 = .ok (.iload 7, 2) := by decide +kernel
theorem dX4_pressesSo_63 : decode (mC mX4_pressesSo) 63 = .ok (.iadd, 1) := by decide +kernel
theorem dX4_pressesSo_64 : decode (mC mX4_pressesSo) 64 = .ok (.aload_n 0, 1) := by decide +kernel
theorem dX4_pressesSo_65 : decode (mC mX4_pressesSo) 65 = .ok (.getfield 79, 3) := by decide +kernel
theorem dX4_pressesSo_68 : decode (mC mX4_pressesSo) 68 = .ok (.iadd, 1) := by decide +kernel
theorem dX4_pressesSo_69 : decode (mC mX4_pressesSo) 69 = .ok (.aload_n 1, 1) := by decide +kernel
theorem dX4_pressesSo_70 : decode (mC mX4_pressesSo) 70 = .ok (.getfield 82, 3) := by decide +kernel
theorem dX4_pressesSo_73 : decode (mC mX4_pressesSo) 73 = .ok (.iload_n 2, 1) := by decide +kernel
theorem dX4_pressesSo_74 : decode (mC mX4_pressesSo) 74 = .ok (.invokestatic 55, 3) := by decide +kernel
theorem dX4_pressesSo_77 : decode (mC mX4_pressesSo) 77 = .ok (.invokevirtual 85, 3) := by decide +kernel
theorem dX4_pressesSo_80 : decode (mC mX4_pressesSo) 80 = .ok (.istore 8, 2) := by decide +kernel
theorem dX4_pressesSo_82 : decode (mC mX4_pressesSo) 82 = .ok (.iload 8, 2) := by decide +kernel
theorem dX4_pressesSo_84 : decode (mC mX4_pressesSo) 84 = .ok (.aload_n 1, 1) := by decide +kernel
theorem dX4_pressesSo_85 : decode (mC mX4_pressesSo) 85 = .ok (.getfield 89, 3) := by decide +kernel
theorem dX4_pressesSo_88 : decode (mC mX4_pressesSo) 88 = .ok (.iload_n 2, 1) := by decide +kernel
theorem dX4_pressesSo_89 : decode (mC mX4_pressesSo) 89 = .ok (.invokestatic 55, 3) := by decide +kernel
theorem dX4_pressesSo_92 : decode (mC mX4_pressesSo) 92 = .ok (.if_icmp .ne 5, 3) := by decide +kernel
theorem dX4_pressesSo_95 : decode (mC mX4_pressesSo) 95 = .ok (.iconst 1, 1) := by decide +kernel
theorem dX4_pressesSo_96 : decode (mC mX4_pressesSo) 96 = .ok (.ireturn, 1) := by decide +kernel
theorem dX4_pressesSo_97 : decode (mC mX4_pressesSo) 97 = .ok (.iinc 5 1, 3) := by decide +kernel
theorem dX4_pressesSo_100 : decode (mC mX4_pressesSo) 100 = .ok (.goto (-90), 3) := by decide +kernel
theorem dX4_pressesSo_103 : decode (mC mX4_pressesSo) 103 = .ok (.iconst 0, 1) := by decide +kernel
theorem dX4_pressesSo_104 : decode (mC mX4_pressesSo) 104 = .ok (.ireturn, 1) := by decide +kernel
theorem dX4_mayFollow_0 : decode (mC mX4_mayFollow) 0 = .ok (.aload_n 2, 1) := by decide +kernel
theorem dX4_mayFollow_1 : decode (mC mX4_mayFollow) 1 = .ok (.getfield 52, 3) := by decide +kernel
theorem dX4_mayFollow_4 : decode (mC mX4_mayFollow) 4 = .ok (.iload_n 3, 1) := by decide +kernel
theorem dX4_mayFollow_5 : decode (mC mX4_mayFollow) 5 = .ok (.invokestatic 55, 3) := by decide +kernel
theorem dX4_mayFollow_8 : decode (mC mX4_mayFollow) 8 = .ok (.aload_n 2, 1) := by decide +kernel
theorem dX4_mayFollow_9 : decode (mC mX4_mayFollow) 9 = .ok (.getfield 52, 3) := by decide +kernel
theorem dX4_mayFollow_12 : decode (mC mX4_mayFollow) 12 = .ok (.iload 4, 2) := by decide +kernel
theorem dX4_mayFollow_14 : decode (mC mX4_mayFollow) 14 = .ok (.invokestatic 55, 3) := by decide +kernel
theorem dX4_mayFollow_17 : decode (mC mX4_mayFollow) 17 = .ok (.if_icmp .ne 7, 3) := by decide +kernel
theorem dX4_mayFollow_20 : decode (mC mX4_mayFollow) 20 = .ok (.iconst 1, 1) := by decide +kernel
theorem dX4_mayFollow_21 : decode (mC mX4_mayFollow) 21 = .ok (.goto 4, 3) := by decide +kernel
theorem dX4_mayFollow_24 : decode (mC mX4_mayFollow) 24 = .ok (.iconst 0, 1) := by decide +kernel
theorem dX4_mayFollow_25 : decode (mC mX4_mayFollow) 25 = .ok (.istore 5, 2) := by decide +kernel
theorem dX4_mayFollow_27 : decode (mC mX4_mayFollow) 27 = .ok (.iload 5, 2) := by decide +kernel
theorem dX4_mayFollow_29 : decode (mC mX4_mayFollow) 29 = .ok (.ifCond .eq 23, 3) := by decide +kernel
theorem dX4_mayFollow_32 : decode (mC mX4_mayFollow) 32 = .ok (.aload_n 2, 1) := by decide +kernel
theorem dX4_mayFollow_33 : decode (mC mX4_mayFollow) 33 = .ok (.getfield 82, 3) := by decide +kernel
theorem dX4_mayFollow_36 : decode (mC mX4_mayFollow) 36 = .ok (.iload_n 3, 1) := by decide +kernel
theorem dX4_mayFollow_37 : decode (mC mX4_mayFollow) 37 = .ok (.invokestatic 55, 3) := by decide +kernel
theorem dX4_mayFollow_40 : decode (mC mX4_mayFollow) 40 = .ok (.aload_n 2, 1) := by decide +kernel
theorem dX4_mayFollow_41 : decode (mC mX4_mayFollow) 41 = .ok (.getfield 82, 3) := by decide +kernel
theorem dX4_mayFollow_44 : decode (mC mX4_mayFollow) 44 = .ok (.iload 4, 2) := by decide +kernel
theorem dX4_mayFollow_46 : decode (mC mX4_mayFollow) 46 = .ok (.invokestatic 55, 3) := by decide +kernel
theorem dX4_mayFollow_49 : decode (mC mX4_mayFollow) 49 = .ok (.if_icmp .ne 5, 3) := by decide +kernel
theorem dX4_mayFollow_52 : decode (mC mX4_mayFollow) 52 = .ok (.iconst 0, 1) := by decide +kernel
theorem dX4_mayFollow_53 : decode (mC mX4_mayFollow) 53 = .ok (.ireturn, 1) := by decide +kernel
theorem dX4_mayFollow_54 : decode (mC mX4_mayFollow) 54 = .ok (.aload_n 0, 1) := by decide +kernel
theorem dX4_mayFollow_55 : decode (mC mX4_mayFollow) 55 = .ok (.getfield 9, 3) := by decide +kernel
theorem dX4_mayFollow_58 : decode (mC mX4_mayFollow) 58 = .ok (.iload_n 3, 1) := by decide +kernel
theorem dX4_mayFollow_59 : decode (mC mX4_mayFollow) 59 = .ok (.invokestatic 55, 3) := by decide +kernel
theorem dX4_mayFollow_62 : decode (mC mX4_mayFollow) 62 = .ok (.aload_n 0, 1) := by decide +kernel
theorem dX4_mayFollow_63 : decode (mC mX4_mayFollow) 63 = .ok (.getfield 9, 3) := by decide +kernel
theorem dX4_mayFollow_66 : decode (mC mX4_mayFollow) 66 = .ok (.iload 4, 2) := by decide +kernel
theorem dX4_mayFollow_68 : decode (mC mX4_mayFollow) 68 = .ok (.invokestatic 55, 3) := by decide +kernel
theorem dX4_mayFollow_71 : decode (mC mX4_mayFollow) 71 = .ok (.iand, 1) := by decide +kernel
theorem dX4_mayFollow_72 : decode (mC mX4_mayFollow) 72 = .ok (.istore 6, 2) := by decide +kernel
theorem dX4_mayFollow_74 : decode (mC mX4_mayFollow) 74 = .ok (.iconst 0, 1) := by decide +kernel
theorem dX4_mayFollow_75 : decode (mC mX4_mayFollow) 75 = .ok (.istore 7, 2) := by decide +kernel
theorem dX4_mayFollow_77 : decode (mC mX4_mayFollow) 77 = .ok (.iload 7, 2) := by decide +kernel
theorem dX4_mayFollow_79 : decode (mC mX4_mayFollow) 79 = .ok (.aload_n 1, 1) := by decide +kernel
theorem dX4_mayFollow_80 : decode (mC mX4_mayFollow) 80 = .ok (.getfield 59, 3) := by decide +kernel
theorem dX4_mayFollow_83 : decode (mC mX4_mayFollow) 83 = .ok (.if_icmp .ge 83, 3) := by decide +kernel
theorem dX4_mayFollow_86 : decode (mC mX4_mayFollow) 86 = .ok (.aload_n 1, 1) := by decide +kernel
theorem dX4_mayFollow_87 : decode (mC mX4_mayFollow) 87 = .ok (.iload 7, 2) := by decide +kernel
theorem dX4_mayFollow_89 : decode (mC mX4_mayFollow) 89 = .ok (.invokevirtual 64, 3) := by decide +kernel
theorem dX4_mayFollow_92 : decode (mC mX4_mayFollow) 92 = .ok (.astore 8, 2) := by decide +kernel
theorem dX4_mayFollow_94 : decode (mC mX4_mayFollow) 94 = .ok (.aload 8, 2) := by decide +kernel
theorem dX4_mayFollow_96 : decode (mC mX4_mayFollow) 96 = .ok (.ifnull 64, 3) := by decide +kernel
theorem dX4_mayFollow_99 : decode (mC mX4_mayFollow) 99 = .ok (.iload 6, 2) := by decide +kernel
theorem dX4_mayFollow_101 : decode (mC mX4_mayFollow) 101 = .ok (.iload 7, 2) := by decide +kernel
theorem dX4_mayFollow_103 : decode (mC mX4_mayFollow) 103 = .ok (.ishr, 1) := by decide +kernel
theorem dX4_mayFollow_104 : decode (mC mX4_mayFollow) 104 = .ok (.iconst 1, 1) := by decide +kernel
theorem dX4_mayFollow_105 : decode (mC mX4_mayFollow) 105 = .ok (.iand, 1) := by decide +kernel
theorem dX4_mayFollow_106 : decode (mC mX4_mayFollow) 106 = .ok (.iconst 1, 1) := by decide +kernel
theorem dX4_mayFollow_107 : decode (mC mX4_mayFollow) 107 = .ok (.if_icmp .ne 53, 3) := by decide +kernel
theorem dX4_mayFollow_110 : decode (mC mX4_mayFollow) 110 = .ok (.aload_n 1, 1) := by decide +kernel
theorem dX4_mayFollow_111 : decode (mC mX4_mayFollow) 111 = .ok (.aload_n 2, 1) := by decide +kernel
theorem dX4_mayFollow_112 : decode (mC mX4_mayFollow) 112 = .ok (.getfield 92, 3) := by decide +kernel
theorem dX4_mayFollow_115 : decode (mC mX4_mayFollow) 115 = .ok (.iload_n 3, 1) := by decide +kernel
theorem dX4_mayFollow_116 : decode (mC mX4_mayFollow) 116 = .ok (.invokestatic 55, 3) := by decide +kernel
theorem dX4_mayFollow_119 : decode (mC mX4_mayFollow) 119 = .ok (.aload_n 2, 1) := by decide +kernel
theorem dX4_mayFollow_120 : decode (mC mX4_mayFollow) 120 = .ok (.getfield 95, 3) := by decide +kernel
theorem dX4_mayFollow_123 : decode (mC mX4_mayFollow) 123 = .ok (.iload 4, 2) := by decide +kernel
theorem dX4_mayFollow_125 : decode (mC mX4_mayFollow) 125 = .ok (.invokestatic 55, 3) := by decide +kernel
theorem dX4_mayFollow_128 : decode (mC mX4_mayFollow) 128 = .ok (.aload 8, 2) := by decide +kernel
theorem dX4_mayFollow_130 : decode (mC mX4_mayFollow) 130 = .ok (.getfield 98, 3) := by decide +kernel
theorem dX4_mayFollow_133 : decode (mC mX4_mayFollow) 133 = .ok (.invokevirtual 101, 3) := by decide +kernel
theorem dX4_mayFollow_136 : decode (mC mX4_mayFollow) 136 = .ok (.istore 9, 2) := by decide +kernel
theorem dX4_mayFollow_138 : decode (mC mX4_mayFollow) 138 = .ok (.iload 9, 2) := by decide +kernel
theorem dX4_mayFollow_140 : decode (mC mX4_mayFollow) 140 = .ok (.iconst (-1), 1) := by decide +kernel
theorem dX4_mayFollow_141 : decode (mC mX4_mayFollow) 141 = .ok (.if_icmp .eq 19, 3) := by decide +kernel
theorem dX4_mayFollow_144 : decode (mC mX4_mayFollow) 144 = .ok (.iload 9, 2) := by decide +kernel
theorem dX4_mayFollow_146 : decode (mC mX4_mayFollow) 146 = .ok (.aload_n 2, 1) := by decide +kernel
theorem dX4_mayFollow_147 : decode (mC mX4_mayFollow) 147 = .ok (.getfield 92, 3) := by decide +kernel
theorem dX4_mayFollow_150 : decode (mC mX4_mayFollow) 150 = .ok (.iload 4, 2) := by decide +kernel
theorem dX4_mayFollow_152 : decode (mC mX4_mayFollow) 152 = .ok (.invokestatic 55, 3) := by decide +kernel
theorem dX4_mayFollow_155 : decode (mC mX4_mayFollow) 155 = .ok (.if_icmp .ne 5, 3) := by decide +kernel
theorem dX4_mayFollow_158 : decode (mC mX4_mayFollow) 158 = .ok (.iconst 1, 1) := by decide +kernel
theorem dX4_mayFollow_159 : decode (mC mX4_mayFollow) 159 = .ok (.ireturn, 1) := by decide +kernel
theorem dX4_mayFollow_160 : decode (mC mX4_mayFollow) 160 = .ok (.iinc 7 1, 3) := by decide +kernel
theorem dX4_mayFollow_163 : decode (mC mX4_mayFollow) 163 = .ok (.goto (-86), 3) := by decide +kernel
theorem dX4_mayFollow_166 : decode (mC mX4_mayFollow) 166 = .ok (.iconst 0, 1) := by decide +kernel
theorem dX4_mayFollow_167 : decode (mC mX4_mayFollow) 167 = .ok (.ireturn, 1) := by decide +kernel
theorem dX4_forged_0 : decode (mC mX4_forged) 0 = .ok (.iconst 0, 1) := by decide +kernel
theorem dX4_forged_1 : decode (mC mX4_forged) 1 = .ok (.istore_n 1, 1) := by decide +kernel
theorem dX4_forged_2 : decode (mC mX4_forged) 2 = .ok (.iconst 0, 1) := by decide +kernel
theorem dX4_forged_3 : decode (mC mX4_forged) 3 = .ok (.istore_n 2, 1) := by decide +kernel
theorem dX4_forged_4 : decode (mC mX4_forged) 4 = .ok (.iload_n 2, 1) := by decide +kernel
theorem dX4_forged_5 : decode (mC mX4_forged) 5 = .ok (.aload_n 0, 1) := by decide +kernel
theorem dX4_forged_6 : decode (mC mX4_forged) 6 = .ok (.getfield 36, 3) := by decide +kernel
theorem dX4_forged_9 : decode (mC mX4_forged) 9 = .ok (.if_icmp .ge 26, 3) := by decide +kernel
theorem dX4_forged_12 : decode (mC mX4_forged) 12 = .ok (.aload_n 0, 1) := by decide +kernel
theorem dX4_forged_13 : decode (mC mX4_forged) 13 = .ok (.getfield 9, 3) := by decide +kernel
theorem dX4_forged_16 : decode (mC mX4_forged) 16 = .ok (.iload_n 2, 1) := by decide +kernel
theorem dX4_forged_17 : decode (mC mX4_forged) 17 = .ok (.invokestatic 55, 3) := by decide +kernel
theorem dX4_forged_20 : decode (mC mX4_forged) 20 = .ok (.ifCond .ne 9, 3) := by decide +kernel
theorem dX4_forged_23 : decode (mC mX4_forged) 23 = .ok (.iload_n 1, 1) := by decide +kernel
theorem dX4_forged_24 : decode (mC mX4_forged) 24 = .ok (.iconst 1, 1) := by decide +kernel
theorem dX4_forged_25 : decode (mC mX4_forged) 25 = .ok (.iload_n 2, 1) := by decide +kernel
theorem dX4_forged_26 : decode (mC mX4_forged) 26 = .ok (.ishl, 1) := by decide +kernel
theorem dX4_forged_27 : decode (mC mX4_forged) 27 = .ok (.ior, 1) := by decide +kernel
theorem dX4_forged_28 : decode (mC mX4_forged) 28 = .ok (.istore_n 1, 1) := by decide +kernel
theorem dX4_forged_29 : decode (mC mX4_forged) 29 = .ok (.iinc 2 1, 3) := by decide +kernel
theorem dX4_forged_32 : decode (mC mX4_forged) 32 = .ok (.goto (-28), 3) := by decide +kernel
theorem dX4_forged_35 : decode (mC mX4_forged) 35 = .ok (.iload_n 1, 1) := by decide +kernel
theorem dX4_forged_36 : decode (mC mX4_forged) 36 = .ok (.ireturn, 1) := by decide +kernel
theorem dX4_couples_0 : decode (mC mX4_couples) 0 = .ok (.iconst 0, 1) := by decide +kernel
theorem dX4_couples_1 : decode (mC mX4_couples) 1 = .ok (.istore_n 1, 1) := by decide +kernel
theorem dX4_couples_2 : decode (mC mX4_couples) 2 = .ok (.iconst 0, 1) := by decide +kernel
theorem dX4_couples_3 : decode (mC mX4_couples) 3 = .ok (.istore_n 2, 1) := by decide +kernel
theorem dX4_couples_4 : decode (mC mX4_couples) 4 = .ok (.iload_n 2, 1) := by decide +kernel
theorem dX4_couples_5 : decode (mC mX4_couples) 5 = .ok (.aload_n 0, 1) := by decide +kernel
theorem dX4_couples_6 : decode (mC mX4_couples) 6 = .ok (.getfield 36, 3) := by decide +kernel
theorem dX4_couples_9 : decode (mC mX4_couples) 9 = .ok (.if_icmp .ge 23, 3) := by decide +kernel
theorem dX4_couples_12 : decode (mC mX4_couples) 12 = .ok (.iload_n 1, 1) := by decide +kernel
theorem dX4_couples_13 : decode (mC mX4_couples) 13 = .ok (.aload_n 0, 1) := by decide +kernel
theorem dX4_couples_14 : decode (mC mX4_couples) 14 = .ok (.getfield 15, 3) := by decide +kernel
theorem dX4_couples_17 : decode (mC mX4_couples) 17 = .ok (.iload_n 2, 1) := by decide +kernel
theorem dX4_couples_18 : decode (mC mX4_couples) 18 = .ok (.invokestatic 55, 3) := by decide +kernel
theorem dX4_couples_21 : decode (mC mX4_couples) 21 = .ok (.invokestatic 105, 3) := by decide +kernel
theorem dX4_couples_24 : decode (mC mX4_couples) 24 = .ok (.iadd, 1) := by decide +kernel
theorem dX4_couples_25 : decode (mC mX4_couples) 25 = .ok (.istore_n 1, 1) := by decide +kernel
theorem dX4_couples_26 : decode (mC mX4_couples) 26 = .ok (.iinc 2 1, 3) := by decide +kernel
theorem dX4_couples_29 : decode (mC mX4_couples) 29 = .ok (.goto (-25), 3) := by decide +kernel
theorem dX4_couples_32 : decode (mC mX4_couples) 32 = .ok (.iload_n 1, 1) := by decide +kernel
theorem dX4_couples_33 : decode (mC mX4_couples) 33 = .ok (.ireturn, 1) := by decide +kernel
theorem dX4_countFewest_0 : decode (mC mX4_countFewest) 0 = .ok (.aload_n 0, 1) := by decide +kernel
theorem dX4_countFewest_1 : decode (mC mX4_countFewest) 1 = .ok (.getfield 37, 3) := by decide +kernel
theorem dX4_countFewest_4 : decode (mC mX4_countFewest) 4 = .ok (.iconst (-1), 1) := by decide +kernel
theorem dX4_countFewest_5 : decode (mC mX4_countFewest) 5 = .ok (.if_icmp .ne 33, 3) := by decide +kernel
theorem dX4_countFewest_8 : decode (mC mX4_countFewest) 8 = .ok (.aload_n 0, 1) := by decide +kernel
theorem dX4_countFewest_9 : decode (mC mX4_countFewest) 9 = .ok (.aload_n 0, 1) := by decide +kernel
theorem dX4_countFewest_10 : decode (mC mX4_countFewest) 10 = .ok (.bipush 10, 2) := by decide +kernel
theorem dX4_countFewest_12 : decode (mC mX4_countFewest) 12 = .ok (.iconst 0, 1) := by decide +kernel
theorem dX4_countFewest_13 : decode (mC mX4_countFewest) 13 = .ok (.invokevirtual 111, 3) := by decide +kernel
theorem dX4_countFewest_16 : decode (mC mX4_countFewest) 16 = .ok (.putfield 37, 3) := by decide +kernel
theorem dX4_countFewest_19 : decode (mC mX4_countFewest) 19 = .ok (.aload_n 0, 1) := by decide +kernel
theorem dX4_countFewest_20 : decode (mC mX4_countFewest) 20 = .ok (.aload_n 0, 1) := by decide +kernel
theorem dX4_countFewest_21 : decode (mC mX4_countFewest) 21 = .ok (.getfield 115, 3) := by decide +kernel
theorem dX4_countFewest_24 : decode (mC mX4_countFewest) 24 = .ok (.putfield 118, 3) := by decide +kernel
theorem dX4_countFewest_27 : decode (mC mX4_countFewest) 27 = .ok (.aload_n 0, 1) := by decide +kernel
theorem dX4_countFewest_28 : decode (mC mX4_countFewest) 28 = .ok (.getfield 27, 3) := by decide +kernel
theorem dX4_countFewest_31 : decode (mC mX4_countFewest) 31 = .ok (.aload_n 0, 1) := by decide +kernel
theorem dX4_countFewest_32 : decode (mC mX4_countFewest) 32 = .ok (.getfield 18, 3) := by decide +kernel
theorem dX4_countFewest_35 : decode (mC mX4_countFewest) 35 = .ok (.invokestatic 121, 3) := by decide +kernel
theorem dX4_countFewest_38 : decode (mC mX4_countFewest) 38 = .ok (.return_, 1) := by decide +kernel
theorem dX4_fewestOf_0 : decode (mC mX4_fewestOf) 0 = .ok (.aload_n 0, 1) := by decide +kernel
theorem dX4_fewestOf_1 : decode (mC mX4_fewestOf) 1 = .ok (.iconst 1, 1) := by decide +kernel
theorem dX4_fewestOf_2 : decode (mC mX4_fewestOf) 2 = .ok (.iload_n 1, 1) := by decide +kernel
theorem dX4_fewestOf_3 : decode (mC mX4_fewestOf) 3 = .ok (.invokestatic 125, 3) := by decide +kernel
theorem dX4_fewestOf_6 : decode (mC mX4_fewestOf) 6 = .ok (.putfield 130, 3) := by decide +kernel
theorem dX4_fewestOf_9 : decode (mC mX4_fewestOf) 9 = .ok (.aload_n 0, 1) := by decide +kernel
theorem dX4_fewestOf_10 : decode (mC mX4_fewestOf) 10 = .ok (.iload_n 2, 1) := by decide +kernel
theorem dX4_fewestOf_11 : decode (mC mX4_fewestOf) 11 = .ok (.putfield 133, 3) := by decide +kernel
theorem dX4_fewestOf_14 : decode (mC mX4_fewestOf) 14 = .ok (.aload_n 0, 1) := by decide +kernel
theorem dX4_fewestOf_15 : decode (mC mX4_fewestOf) 15 = .ok (.iconst 0, 1) := by decide +kernel
theorem dX4_fewestOf_16 : decode (mC mX4_fewestOf) 16 = .ok (.putfield 115, 3) := by decide +kernel
theorem dX4_fewestOf_19 : decode (mC mX4_fewestOf) 19 = .ok (.aload_n 0, 1) := by decide +kernel
theorem dX4_fewestOf_20 : decode (mC mX4_fewestOf) 20 = .ok (.getfield 36, 3) := by decide +kernel
theorem dX4_fewestOf_23 : decode (mC mX4_fewestOf) 23 = .ok (.aload_n 0, 1) := by decide +kernel
theorem dX4_fewestOf_24 : decode (mC mX4_fewestOf) 24 = .ok (.getfield 130, 3) := by decide +kernel
theorem dX4_fewestOf_27 : decode (mC mX4_fewestOf) 27 = .ok (.iadd, 1) := by decide +kernel
theorem dX4_fewestOf_28 : decode (mC mX4_fewestOf) 28 = .ok (.iconst 1, 1) := by decide +kernel
theorem dX4_fewestOf_29 : decode (mC mX4_fewestOf) 29 = .ok (.isub, 1) := by decide +kernel
theorem dX4_fewestOf_30 : decode (mC mX4_fewestOf) 30 = .ok (.aload_n 0, 1) := by decide +kernel
theorem dX4_fewestOf_31 : decode (mC mX4_fewestOf) 31 = .ok (.getfield 130, 3) := by decide +kernel
theorem dX4_fewestOf_34 : decode (mC mX4_fewestOf) 34 = .ok (.idiv, 1) := by decide +kernel
theorem dX4_fewestOf_35 : decode (mC mX4_fewestOf) 35 = .ok (.istore_n 3, 1) := by decide +kernel
theorem dX4_fewestOf_36 : decode (mC mX4_fewestOf) 36 = .ok (.iload_n 3, 1) := by decide +kernel
theorem dX4_fewestOf_37 : decode (mC mX4_fewestOf) 37 = .ok (.istore 4, 2) := by decide +kernel
theorem dX4_fewestOf_39 : decode (mC mX4_fewestOf) 39 = .ok (.iload 4, 2) := by decide +kernel
theorem dX4_fewestOf_41 : decode (mC mX4_fewestOf) 41 = .ok (.aload_n 0, 1) := by decide +kernel
theorem dX4_fewestOf_42 : decode (mC mX4_fewestOf) 42 = .ok (.getfield 36, 3) := by decide +kernel
theorem dX4_fewestOf_45 : decode (mC mX4_fewestOf) 45 = .ok (.if_icmp .gt 49, 3) := by decide +kernel
theorem dX4_fewestOf_48 : decode (mC mX4_fewestOf) 48 = .ok (.aload_n 0, 1) := by decide +kernel
theorem dX4_fewestOf_49 : decode (mC mX4_fewestOf) 49 = .ok (.getfield 115, 3) := by decide +kernel
theorem dX4_fewestOf_52 : decode (mC mX4_fewestOf) 52 = .ok (.ifCond .ne 42, 3) := by decide +kernel
theorem dX4_fewestOf_55 : decode (mC mX4_fewestOf) 55 = .ok (.aload_n 0, 1) := by decide +kernel
theorem dX4_fewestOf_56 : decode (mC mX4_fewestOf) 56 = .ok (.iload 4, 2) := by decide +kernel
theorem dX4_fewestOf_58 : decode (mC mX4_fewestOf) 58 = .ok (.putfield 137, 3) := by decide +kernel
theorem dX4_fewestOf_61 : decode (mC mX4_fewestOf) 61 = .ok (.aload_n 0, 1) := by decide +kernel
theorem dX4_fewestOf_62 : decode (mC mX4_fewestOf) 62 = .ok (.iconst 0, 1) := by decide +kernel
theorem dX4_fewestOf_63 : decode (mC mX4_fewestOf) 63 = .ok (.putfield 140, 3) := by decide +kernel
theorem dX4_fewestOf_66 : decode (mC mX4_fewestOf) 66 = .ok (.aload_n 0, 1) := by decide +kernel
theorem dX4_fewestOf_67 : decode (mC mX4_fewestOf) 67 = .ok (.getfield 21, 3) := by decide +kernel
theorem dX4_fewestOf_70 : decode (mC mX4_fewestOf) 70 = .ok (.iconst (-1), 1) := by decide +kernel
theorem dX4_fewestOf_71 : decode (mC mX4_fewestOf) 71 = .ok (.invokestatic 143, 3) := by decide +kernel
theorem dX4_fewestOf_74 : decode (mC mX4_fewestOf) 74 = .ok (.aload_n 0, 1) := by decide +kernel
theorem dX4_fewestOf_75 : decode (mC mX4_fewestOf) 75 = .ok (.getfield 24, 3) := by decide +kernel
theorem dX4_fewestOf_78 : decode (mC mX4_fewestOf) 78 = .ok (.iconst (-1), 1) := by decide +kernel
theorem dX4_fewestOf_79 : decode (mC mX4_fewestOf) 79 = .ok (.invokestatic 143, 3) := by decide +kernel
theorem dX4_fewestOf_82 : decode (mC mX4_fewestOf) 82 = .ok (.aload_n 0, 1) := by decide +kernel
theorem dX4_fewestOf_83 : decode (mC mX4_fewestOf) 83 = .ok (.iconst 0, 1) := by decide +kernel
theorem dX4_fewestOf_84 : decode (mC mX4_fewestOf) 84 = .ok (.iconst 0, 1) := by decide +kernel
theorem dX4_fewestOf_85 : decode (mC mX4_fewestOf) 85 = .ok (.invokevirtual 149, 3) := by decide +kernel
theorem dX4_fewestOf_88 : decode (mC mX4_fewestOf) 88 = .ok (.iinc 4 1, 3) := by decide +kernel
theorem dX4_fewestOf_91 : decode (mC mX4_fewestOf) 91 = .ok (.goto (-52), 3) := by decide +kernel
theorem dX4_fewestOf_94 : decode (mC mX4_fewestOf) 94 = .ok (.aload_n 0, 1) := by decide +kernel
theorem dX4_fewestOf_95 : decode (mC mX4_fewestOf) 95 = .ok (.getfield 137, 3) := by decide +kernel
theorem dX4_fewestOf_98 : decode (mC mX4_fewestOf) 98 = .ok (.ireturn, 1) := by decide +kernel
theorem dX4_search_0 : decode (mC mX4_search) 0 = .ok (.aload_n 0, 1) := by decide +kernel
theorem dX4_search_1 : decode (mC mX4_search) 1 = .ok (.getfield 133, 3) := by decide +kernel
theorem dX4_search_4 : decode (mC mX4_search) 4 = .ok (.ifCond .eq 11, 3) := by decide +kernel
theorem dX4_search_7 : decode (mC mX4_search) 7 = .ok (.aload_n 0, 1) := by decide +kernel
theorem dX4_search_8 : decode (mC mX4_search) 8 = .ok (.getfield 115, 3) := by decide +kernel
theorem dX4_search_11 : decode (mC mX4_search) 11 = .ok (.ifCond .le 4, 3) := by decide +kernel
theorem dX4_search_14 : decode (mC mX4_search) 14 = .ok (.return_, 1) := by decide +kernel
theorem dX4_search_15 : decode (mC mX4_search) 15 = .ok (.iload_n 1, 1) := by decide +kernel
theorem dX4_search_16 : decode (mC mX4_search) 16 = .ok (.aload_n 0, 1) := by decide +kernel
theorem dX4_search_17 : decode (mC mX4_search) 17 = .ok (.getfield 36, 3) := by decide +kernel
theorem dX4_search_20 : decode (mC mX4_search) 20 = .ok (.if_icmp .ge 9, 3) := by decide +kernel
theorem dX4_search_23 : decode (mC mX4_search) 23 = .ok (.iload_n 1, 1) := by decide +kernel
theorem dX4_search_24 : decode (mC mX4_search) 24 = .ok (.bipush 10, 2) := by decide +kernel
theorem dX4_search_26 : decode (mC mX4_search) 26 = .ok (.if_icmp .lt 32, 3) := by decide +kernel
theorem dX4_search_29 : decode (mC mX4_search) 29 = .ok (.aload_n 0, 1) := by decide +kernel
theorem dX4_search_30 : decode (mC mX4_search) 30 = .ok (.getfield 115, 3) := by decide +kernel
theorem dX4_search_33 : decode (mC mX4_search) 33 = .ok (.ifCond .ne 14, 3) := by decide +kernel
theorem dX4_search_36 : decode (mC mX4_search) 36 = .ok (.aload_n 0, 1) := by decide +kernel
theorem dX4_search_37 : decode (mC mX4_search) 37 = .ok (.getfield 21, 3) := by decide +kernel
theorem dX4_search_40 : decode (mC mX4_search) 40 = .ok (.aload_n 0, 1) := by decide +kernel
theorem dX4_search_41 : decode (mC mX4_search) 41 = .ok (.getfield 27, 3) := by decide +kernel
theorem dX4_search_44 : decode (mC mX4_search) 44 = .ok (.invokestatic 121, 3) := by decide +kernel
theorem dX4_search_47 : decode (mC mX4_search) 47 = .ok (.aload_n 0, 1) := by decide +kernel
theorem dX4_search_48 : decode (mC mX4_search) 48 = .ok (.dup, 1) := by decide +kernel
theorem dX4_search_49 : decode (mC mX4_search) 49 = .ok (.getfield 115, 3) := by decide +kernel
theorem dX4_search_52 : decode (mC mX4_search) 52 = .ok (.iconst 1, 1) := by decide +kernel
theorem dX4_search_53 : decode (mC mX4_search) 53 = .ok (.iadd, 1) := by decide +kernel
theorem dX4_search_54 : decode (mC mX4_search) 54 = .ok (.putfield 115, 3) := by decide +kernel
theorem dX4_search_57 : decode (mC mX4_search) 57 = .ok (.return_, 1) := by decide +kernel
theorem dX4_search_58 : decode (mC mX4_search) 58 = .ok (.iload_n 2, 1) := by decide +kernel
theorem dX4_search_59 : decode (mC mX4_search) 59 = .ok (.aload_n 0, 1) := by decide +kernel
theorem dX4_search_60 : decode (mC mX4_search) 60 = .ok (.iload_n 1, 1) := by decide +kernel
theorem dX4_search_61 : decode (mC mX4_search) 61 = .ok (.invokevirtual 153, 3) := by decide +kernel
theorem dX4_search_64 : decode (mC mX4_search) 64 = .ok (.iadd, 1) := by decide +kernel
theorem dX4_search_65 : decode (mC mX4_search) 65 = .ok (.aload_n 0, 1) := by decide +kernel
theorem dX4_search_66 : decode (mC mX4_search) 66 = .ok (.getfield 137, 3) := by decide +kernel
theorem dX4_search_69 : decode (mC mX4_search) 69 = .ok (.if_icmp .le 4, 3) := by decide +kernel
theorem dX4_search_72 : decode (mC mX4_search) 72 = .ok (.return_, 1) := by decide +kernel
theorem dX4_search_73 : decode (mC mX4_search) 73 = .ok (.iconst 0, 1) := by decide +kernel
theorem dX4_search_74 : decode (mC mX4_search) 74 = .ok (.istore_n 3, 1) := by decide +kernel
theorem dX4_search_75 : decode (mC mX4_search) 75 = .ok (.iload_n 3, 1) := by decide +kernel
theorem dX4_search_76 : decode (mC mX4_search) 76 = .ok (.aload_n 0, 1) := by decide +kernel
theorem dX4_search_77 : decode (mC mX4_search) 77 = .ok (.getfield 36, 3) := by decide +kernel
theorem dX4_search_80 : decode (mC mX4_search) 80 = .ok (.if_icmp .ge 88, 3) := by decide +kernel
theorem dX4_search_83 : decode (mC mX4_search) 83 = .ok (.aload_n 0, 1) := by decide +kernel
theorem dX4_search_84 : decode (mC mX4_search) 84 = .ok (.iload_n 1, 1) := by decide +kernel
theorem dX4_search_85 : decode (mC mX4_search) 85 = .ok (.iload_n 3, 1) := by decide +kernel
theorem dX4_search_86 : decode (mC mX4_search) 86 = .ok (.invokevirtual 156, 3) := by decide +kernel
theorem dX4_search_89 : decode (mC mX4_search) 89 = .ok (.ifCond .eq 73, 3) := by decide +kernel
theorem dX4_search_92 : decode (mC mX4_search) 92 = .ok (.aload_n 0, 1) := by decide +kernel
theorem dX4_search_93 : decode (mC mX4_search) 93 = .ok (.getfield 21, 3) := by decide +kernel
theorem dX4_search_96 : decode (mC mX4_search) 96 = .ok (.iload_n 1, 1) := by decide +kernel
theorem dX4_search_97 : decode (mC mX4_search) 97 = .ok (.iload_n 3, 1) := by decide +kernel
theorem dX4_search_98 : decode (mC mX4_search) 98 = .ok (.invokestatic 44, 3) := by decide +kernel
theorem dX4_search_101 : decode (mC mX4_search) 101 = .ok (.aload_n 0, 1) := by decide +kernel
theorem dX4_search_102 : decode (mC mX4_search) 102 = .ok (.getfield 24, 3) := by decide +kernel
theorem dX4_search_105 : decode (mC mX4_search) 105 = .ok (.iload_n 3, 1) := by decide +kernel
theorem dX4_search_106 : decode (mC mX4_search) 106 = .ok (.iload_n 1, 1) := by decide +kernel
theorem dX4_search_107 : decode (mC mX4_search) 107 = .ok (.invokestatic 44, 3) := by decide +kernel
theorem dX4_search_110 : decode (mC mX4_search) 110 = .ok (.aload_n 0, 1) := by decide +kernel
theorem dX4_search_111 : decode (mC mX4_search) 111 = .ok (.dup, 1) := by decide +kernel
theorem dX4_search_112 : decode (mC mX4_search) 112 = .ok (.getfield 140, 3) := by decide +kernel
theorem dX4_search_115 : decode (mC mX4_search) 115 = .ok (.iconst 1, 1) := by decide +kernel
theorem dX4_search_116 : decode (mC mX4_search) 116 = .ok (.iload_n 3, 1) := by decide +kernel
theorem dX4_search_117 : decode (mC mX4_search) 117 = .ok (.ishl, 1) := by decide +kernel
theorem dX4_search_118 : decode (mC mX4_search) 118 = .ok (.ior, 1) := by decide +kernel
theorem dX4_search_119 : decode (mC mX4_search) 119 = .ok (.putfield 140, 3) := by decide +kernel
theorem dX4_search_122 : decode (mC mX4_search) 122 = .ok (.aload_n 0, 1) := by decide +kernel
theorem dX4_search_123 : decode (mC mX4_search) 123 = .ok (.iload_n 1, 1) := by decide +kernel
theorem dX4_search_124 : decode (mC mX4_search) 124 = .ok (.iconst 1, 1) := by decide +kernel
theorem dX4_search_125 : decode (mC mX4_search) 125 = .ok (.iadd, 1) := by decide +kernel
theorem dX4_search_126 : decode (mC mX4_search) 126 = .ok (.iload_n 2, 1) := by decide +kernel
theorem dX4_search_127 : decode (mC mX4_search) 127 = .ok (.invokevirtual 149, 3) := by decide +kernel
theorem dX4_search_130 : decode (mC mX4_search) 130 = .ok (.aload_n 0, 1) := by decide +kernel
theorem dX4_search_131 : decode (mC mX4_search) 131 = .ok (.dup, 1) := by decide +kernel
theorem dX4_search_132 : decode (mC mX4_search) 132 = .ok (.getfield 140, 3) := by decide +kernel
theorem dX4_search_135 : decode (mC mX4_search) 135 = .ok (.iconst 1, 1) := by decide +kernel
theorem dX4_search_136 : decode (mC mX4_search) 136 = .ok (.iload_n 3, 1) := by decide +kernel
theorem dX4_search_137 : decode (mC mX4_search) 137 = .ok (.ishl, 1) := by decide +kernel
theorem dX4_search_138 : decode (mC mX4_search) 138 = .ok (.iconst (-1), 1) := by decide +kernel
theorem dX4_search_139 : decode (mC mX4_search) 139 = .ok (.ixor, 1) := by decide +kernel
theorem dX4_search_140 : decode (mC mX4_search) 140 = .ok (.iand, 1) := by decide +kernel
theorem dX4_search_141 : decode (mC mX4_search) 141 = .ok (.putfield 140, 3) := by decide +kernel
theorem dX4_search_144 : decode (mC mX4_search) 144 = .ok (.aload_n 0, 1) := by decide +kernel
theorem dX4_search_145 : decode (mC mX4_search) 145 = .ok (.getfield 24, 3) := by decide +kernel
theorem dX4_search_148 : decode (mC mX4_search) 148 = .ok (.iload_n 3, 1) := by decide +kernel
theorem dX4_search_149 : decode (mC mX4_search) 149 = .ok (.iconst (-1), 1) := by decide +kernel
theorem dX4_search_150 : decode (mC mX4_search) 150 = .ok (.invokestatic 44, 3) := by decide +kernel
theorem dX4_search_153 : decode (mC mX4_search) 153 = .ok (.aload_n 0, 1) := by decide +kernel
theorem dX4_search_154 : decode (mC mX4_search) 154 = .ok (.getfield 21, 3) := by decide +kernel
theorem dX4_search_157 : decode (mC mX4_search) 157 = .ok (.iload_n 1, 1) := by decide +kernel
theorem dX4_search_158 : decode (mC mX4_search) 158 = .ok (.iconst (-1), 1) := by decide +kernel
theorem dX4_search_159 : decode (mC mX4_search) 159 = .ok (.invokestatic 44, 3) := by decide +kernel
theorem dX4_search_162 : decode (mC mX4_search) 162 = .ok (.iinc 3 1, 3) := by decide +kernel
theorem dX4_search_165 : decode (mC mX4_search) 165 = .ok (.goto (-90), 3) := by decide +kernel
theorem dX4_search_168 : decode (mC mX4_search) 168 = .ok (.iload_n 2, 1) := by decide +kernel
theorem dX4_search_169 : decode (mC mX4_search) 169 = .ok (.aload_n 0, 1) := by decide +kernel
theorem dX4_search_170 : decode (mC mX4_search) 170 = .ok (.getfield 137, 3) := by decide +kernel
theorem dX4_search_173 : decode (mC mX4_search) 173 = .ok (.if_icmp .ge 13, 3) := by decide +kernel
theorem dX4_search_176 : decode (mC mX4_search) 176 = .ok (.aload_n 0, 1) := by decide +kernel
theorem dX4_search_177 : decode (mC mX4_search) 177 = .ok (.iload_n 1, 1) := by decide +kernel
theorem dX4_search_178 : decode (mC mX4_search) 178 = .ok (.iconst 1, 1) := by decide +kernel
theorem dX4_search_179 : decode (mC mX4_search) 179 = .ok (.iadd, 1) := by decide +kernel
theorem dX4_search_180 : decode (mC mX4_search) 180 = .ok (.iload_n 2, 1) := by decide +kernel
theorem dX4_search_181 : decode (mC mX4_search) 181 = .ok (.iconst 1, 1) := by decide +kernel
theorem dX4_search_182 : decode (mC mX4_search) 182 = .ok (.iadd, 1) := by decide +kernel
theorem dX4_search_183 : decode (mC mX4_search) 183 = .ok (.invokevirtual 149, 3) := by decide +kernel
theorem dX4_search_186 : decode (mC mX4_search) 186 = .ok (.return_, 1) := by decide +kernel
theorem dX4_endsFrom_0 : decode (mC mX4_endsFrom) 0 = .ok (.iconst 0, 1) := by decide +kernel
theorem dX4_endsFrom_1 : decode (mC mX4_endsFrom) 1 = .ok (.istore_n 2, 1) := by decide +kernel
theorem dX4_endsFrom_2 : decode (mC mX4_endsFrom) 2 = .ok (.iload_n 1, 1) := by decide +kernel
theorem dX4_endsFrom_3 : decode (mC mX4_endsFrom) 3 = .ok (.istore_n 3, 1) := by decide +kernel
theorem dX4_endsFrom_4 : decode (mC mX4_endsFrom) 4 = .ok (.iload_n 3, 1) := by decide +kernel
theorem dX4_endsFrom_5 : decode (mC mX4_endsFrom) 5 = .ok (.aload_n 0, 1) := by decide +kernel
theorem dX4_endsFrom_6 : decode (mC mX4_endsFrom) 6 = .ok (.getfield 36, 3) := by decide +kernel
theorem dX4_endsFrom_9 : decode (mC mX4_endsFrom) 9 = .ok (.if_icmp .ge 30, 3) := by decide +kernel
theorem dX4_endsFrom_12 : decode (mC mX4_endsFrom) 12 = .ok (.aload_n 0, 1) := by decide +kernel
theorem dX4_endsFrom_13 : decode (mC mX4_endsFrom) 13 = .ok (.getfield 15, 3) := by decide +kernel
theorem dX4_endsFrom_16 : decode (mC mX4_endsFrom) 16 = .ok (.iload_n 3, 1) := by decide +kernel
theorem dX4_endsFrom_17 : decode (mC mX4_endsFrom) 17 = .ok (.invokestatic 55, 3) := by decide +kernel
theorem dX4_endsFrom_20 : decode (mC mX4_endsFrom) 20 = .ok (.aload_n 0, 1) := by decide +kernel
theorem dX4_endsFrom_21 : decode (mC mX4_endsFrom) 21 = .ok (.getfield 140, 3) := by decide +kernel
theorem dX4_endsFrom_24 : decode (mC mX4_endsFrom) 24 = .ok (.iconst (-1), 1) := by decide +kernel
theorem dX4_endsFrom_25 : decode (mC mX4_endsFrom) 25 = .ok (.ixor, 1) := by decide +kernel
theorem dX4_endsFrom_26 : decode (mC mX4_endsFrom) 26 = .ok (.iand, 1) := by decide +kernel
theorem dX4_endsFrom_27 : decode (mC mX4_endsFrom) 27 = .ok (.ifCond .ne 6, 3) := by decide +kernel
theorem dX4_endsFrom_30 : decode (mC mX4_endsFrom) 30 = .ok (.iinc 2 1, 3) := by decide +kernel
theorem dX4_endsFrom_33 : decode (mC mX4_endsFrom) 33 = .ok (.iinc 3 1, 3) := by decide +kernel
theorem dX4_endsFrom_36 : decode (mC mX4_endsFrom) 36 = .ok (.goto (-32), 3) := by decide +kernel
theorem dX4_endsFrom_39 : decode (mC mX4_endsFrom) 39 = .ok (.iload_n 2, 1) := by decide +kernel
theorem dX4_endsFrom_40 : decode (mC mX4_endsFrom) 40 = .ok (.ireturn, 1) := by decide +kernel
theorem dX4_mayJoin_0 : decode (mC mX4_mayJoin) 0 = .ok (.aload_n 0, 1) := by decide +kernel
theorem dX4_mayJoin_1 : decode (mC mX4_mayJoin) 1 = .ok (.getfield 15, 3) := by decide +kernel
theorem dX4_mayJoin_4 : decode (mC mX4_mayJoin) 4 = .ok (.iload_n 1, 1) := by decide +kernel
theorem dX4_mayJoin_5 : decode (mC mX4_mayJoin) 5 = .ok (.invokestatic 55, 3) := by decide +kernel
theorem dX4_mayJoin_8 : decode (mC mX4_mayJoin) 8 = .ok (.aload_n 0, 1) := by decide +kernel
theorem dX4_mayJoin_9 : decode (mC mX4_mayJoin) 9 = .ok (.getfield 140, 3) := by decide +kernel
theorem dX4_mayJoin_12 : decode (mC mX4_mayJoin) 12 = .ok (.iconst (-1), 1) := by decide +kernel
theorem dX4_mayJoin_13 : decode (mC mX4_mayJoin) 13 = .ok (.ixor, 1) := by decide +kernel
theorem dX4_mayJoin_14 : decode (mC mX4_mayJoin) 14 = .ok (.iand, 1) := by decide +kernel
theorem dX4_mayJoin_15 : decode (mC mX4_mayJoin) 15 = .ok (.iconst 1, 1) := by decide +kernel
theorem dX4_mayJoin_16 : decode (mC mX4_mayJoin) 16 = .ok (.iload_n 2, 1) := by decide +kernel
theorem dX4_mayJoin_17 : decode (mC mX4_mayJoin) 17 = .ok (.ishl, 1) := by decide +kernel
theorem dX4_mayJoin_18 : decode (mC mX4_mayJoin) 18 = .ok (.iand, 1) := by decide +kernel
theorem dX4_mayJoin_19 : decode (mC mX4_mayJoin) 19 = .ok (.ifCond .ne 5, 3) := by decide +kernel
theorem dX4_mayJoin_22 : decode (mC mX4_mayJoin) 22 = .ok (.iconst 0, 1) := by decide +kernel
theorem dX4_mayJoin_23 : decode (mC mX4_mayJoin) 23 = .ok (.ireturn, 1) := by decide +kernel
theorem dX4_mayJoin_24 : decode (mC mX4_mayJoin) 24 = .ok (.iconst 2, 1) := by decide +kernel
theorem dX4_mayJoin_25 : decode (mC mX4_mayJoin) 25 = .ok (.istore_n 3, 1) := by decide +kernel
theorem dX4_mayJoin_26 : decode (mC mX4_mayJoin) 26 = .ok (.iload_n 2, 1) := by decide +kernel
theorem dX4_mayJoin_27 : decode (mC mX4_mayJoin) 27 = .ok (.istore 4, 2) := by decide +kernel
theorem dX4_mayJoin_29 : decode (mC mX4_mayJoin) 29 = .ok (.aload_n 0, 1) := by decide +kernel
theorem dX4_mayJoin_30 : decode (mC mX4_mayJoin) 30 = .ok (.getfield 21, 3) := by decide +kernel
theorem dX4_mayJoin_33 : decode (mC mX4_mayJoin) 33 = .ok (.iload 4, 2) := by decide +kernel
theorem dX4_mayJoin_35 : decode (mC mX4_mayJoin) 35 = .ok (.invokestatic 55, 3) := by decide +kernel
theorem dX4_mayJoin_38 : decode (mC mX4_mayJoin) 38 = .ok (.iconst (-1), 1) := by decide +kernel
theorem dX4_mayJoin_39 : decode (mC mX4_mayJoin) 39 = .ok (.if_icmp .eq 26, 3) := by decide +kernel
theorem dX4_mayJoin_42 : decode (mC mX4_mayJoin) 42 = .ok (.iload_n 3, 1) := by decide +kernel
theorem dX4_mayJoin_43 : decode (mC mX4_mayJoin) 43 = .ok (.bipush 10, 2) := by decide +kernel
theorem dX4_mayJoin_45 : decode (mC mX4_mayJoin) 45 = .ok (.if_icmp .gt 20, 3) := by decide +kernel
theorem dX4_mayJoin_48 : decode (mC mX4_mayJoin) 48 = .ok (.aload_n 0, 1) := by decide +kernel
theorem dX4_mayJoin_49 : decode (mC mX4_mayJoin) 49 = .ok (.getfield 21, 3) := by decide +kernel
theorem dX4_mayJoin_52 : decode (mC mX4_mayJoin) 52 = .ok (.iload 4, 2) := by decide +kernel
theorem dX4_mayJoin_54 : decode (mC mX4_mayJoin) 54 = .ok (.invokestatic 55, 3) := by decide +kernel
theorem dX4_mayJoin_57 : decode (mC mX4_mayJoin) 57 = .ok (.istore 4, 2) := by decide +kernel
theorem dX4_mayJoin_59 : decode (mC mX4_mayJoin) 59 = .ok (.iinc 3 1, 3) := by decide +kernel
theorem dX4_mayJoin_62 : decode (mC mX4_mayJoin) 62 = .ok (.goto (-33), 3) := by decide +kernel
theorem dX4_mayJoin_65 : decode (mC mX4_mayJoin) 65 = .ok (.iload_n 1, 1) := by decide +kernel
theorem dX4_mayJoin_66 : decode (mC mX4_mayJoin) 66 = .ok (.istore 5, 2) := by decide +kernel
theorem dX4_mayJoin_68 : decode (mC mX4_mayJoin) 68 = .ok (.aload_n 0, 1) := by decide +kernel
theorem dX4_mayJoin_69 : decode (mC mX4_mayJoin) 69 = .ok (.getfield 24, 3) := by decide +kernel
theorem dX4_mayJoin_72 : decode (mC mX4_mayJoin) 72 = .ok (.iload 5, 2) := by decide +kernel
theorem dX4_mayJoin_74 : decode (mC mX4_mayJoin) 74 = .ok (.invokestatic 55, 3) := by decide +kernel
theorem dX4_mayJoin_77 : decode (mC mX4_mayJoin) 77 = .ok (.iconst (-1), 1) := by decide +kernel
theorem dX4_mayJoin_78 : decode (mC mX4_mayJoin) 78 = .ok (.if_icmp .eq 26, 3) := by decide +kernel
theorem dX4_mayJoin_81 : decode (mC mX4_mayJoin) 81 = .ok (.iload_n 3, 1) := by decide +kernel
theorem dX4_mayJoin_82 : decode (mC mX4_mayJoin) 82 = .ok (.bipush 10, 2) := by decide +kernel
theorem dX4_mayJoin_84 : decode (mC mX4_mayJoin) 84 = .ok (.if_icmp .gt 20, 3) := by decide +kernel
theorem dX4_mayJoin_87 : decode (mC mX4_mayJoin) 87 = .ok (.aload_n 0, 1) := by decide +kernel
theorem dX4_mayJoin_88 : decode (mC mX4_mayJoin) 88 = .ok (.getfield 24, 3) := by decide +kernel
theorem dX4_mayJoin_91 : decode (mC mX4_mayJoin) 91 = .ok (.iload 5, 2) := by decide +kernel
theorem dX4_mayJoin_93 : decode (mC mX4_mayJoin) 93 = .ok (.invokestatic 55, 3) := by decide +kernel
theorem dX4_mayJoin_96 : decode (mC mX4_mayJoin) 96 = .ok (.istore 5, 2) := by decide +kernel
theorem dX4_mayJoin_98 : decode (mC mX4_mayJoin) 98 = .ok (.iinc 3 1, 3) := by decide +kernel
theorem dX4_mayJoin_101 : decode (mC mX4_mayJoin) 101 = .ok (.goto (-33), 3) := by decide +kernel
theorem dX4_mayJoin_104 : decode (mC mX4_mayJoin) 104 = .ok (.iload 4, 2) := by decide +kernel
theorem dX4_mayJoin_106 : decode (mC mX4_mayJoin) 106 = .ok (.iload_n 1, 1) := by decide +kernel
theorem dX4_mayJoin_107 : decode (mC mX4_mayJoin) 107 = .ok (.if_icmp .eq 15, 3) := by decide +kernel
theorem dX4_mayJoin_110 : decode (mC mX4_mayJoin) 110 = .ok (.iload_n 3, 1) := by decide +kernel
theorem dX4_mayJoin_111 : decode (mC mX4_mayJoin) 111 = .ok (.aload_n 0, 1) := by decide +kernel
theorem dX4_mayJoin_112 : decode (mC mX4_mayJoin) 112 = .ok (.getfield 130, 3) := by decide +kernel
theorem dX4_mayJoin_115 : decode (mC mX4_mayJoin) 115 = .ok (.if_icmp .gt 7, 3) := by decide +kernel
theorem dX4_mayJoin_118 : decode (mC mX4_mayJoin) 118 = .ok (.iconst 1, 1) := by decide +kernel
theorem dX4_mayJoin_119 : decode (mC mX4_mayJoin) 119 = .ok (.goto 4, 3) := by decide +kernel
theorem dX4_mayJoin_122 : decode (mC mX4_mayJoin) 122 = .ok (.iconst 0, 1) := by decide +kernel
theorem dX4_mayJoin_123 : decode (mC mX4_mayJoin) 123 = .ok (.ireturn, 1) := by decide +kernel
theorem dX5_init_0 : decode (mC mX5_init) 0 = .ok (.aload_n 0, 1) := by decide +kernel
theorem dX5_init_1 : decode (mC mX5_init) 1 = .ok (.invokespecial 3, 3) := by decide +kernel
theorem dX5_init_4 : decode (mC mX5_init) 4 = .ok (.aload_n 0, 1) := by decide +kernel
theorem dX5_init_5 : decode (mC mX5_init) 5 = .ok (.new 9, 3) := by decide +kernel
theorem dX5_init_8 : decode (mC mX5_init) 8 = .ok (.dup, 1) := by decide +kernel
theorem dX5_init_9 : decode (mC mX5_init) 9 = .ok (.invokespecial 11, 3) := by decide +kernel
theorem dX5_init_12 : decode (mC mX5_init) 12 = .ok (.putfield 12, 3) := by decide +kernel
theorem dX5_init_15 : decode (mC mX5_init) 15 = .ok (.aload_n 0, 1) := by decide +kernel
theorem dX5_init_16 : decode (mC mX5_init) 16 = .ok (.new 18, 3) := by decide +kernel
theorem dX5_init_19 : decode (mC mX5_init) 19 = .ok (.dup, 1) := by decide +kernel
theorem dX5_init_20 : decode (mC mX5_init) 20 = .ok (.invokespecial 20, 3) := by decide +kernel
theorem dX5_init_23 : decode (mC mX5_init) 23 = .ok (.putfield 21, 3) := by decide +kernel
theorem dX5_init_26 : decode (mC mX5_init) 26 = .ok (.aload_n 0, 1) := by decide +kernel
theorem dX5_init_27 : decode (mC mX5_init) 27 = .ok (.bipush 27, 2) := by decide +kernel
theorem dX5_init_29 : decode (mC mX5_init) 29 = .ok (.newarray .int, 2) := by decide +kernel
theorem dX5_init_31 : decode (mC mX5_init) 31 = .ok (.putfield 25, 3) := by decide +kernel
theorem dX5_init_34 : decode (mC mX5_init) 34 = .ok (.return_, 1) := by decide +kernel
theorem dX5_read_0 : decode (mC mX5_read) 0 = .ok (.aload_n 0, 1) := by decide +kernel
theorem dX5_read_1 : decode (mC mX5_read) 1 = .ok (.aload_n 1, 1) := by decide +kernel
theorem dX5_read_2 : decode (mC mX5_read) 2 = .ok (.putfield 29, 3) := by decide +kernel
theorem dX5_read_5 : decode (mC mX5_read) 5 = .ok (.aload_n 0, 1) := by decide +kernel
theorem dX5_read_6 : decode (mC mX5_read) 6 = .ok (.iload_n 2, 1) := by decide +kernel
theorem dX5_read_7 : decode (mC mX5_read) 7 = .ok (.putfield 32, 3) := by decide +kernel
theorem dX5_read_10 : decode (mC mX5_read) 10 = .ok (.aload_n 0, 1) := by decide +kernel
theorem dX5_read_11 : decode (mC mX5_read) 11 = .ok (.iconst 0, 1) := by decide +kernel
theorem dX5_read_12 : decode (mC mX5_read) 12 = .ok (.putfield 36, 3) := by decide +kernel
theorem dX5_read_15 : decode (mC mX5_read) 15 = .ok (.aload_n 0, 1) := by decide +kernel
theorem dX5_read_16 : decode (mC mX5_read) 16 = .ok (.iconst 0, 1) := by decide +kernel
theorem dX5_read_17 : decode (mC mX5_read) 17 = .ok (.putfield 39, 3) := by decide +kernel
theorem dX5_read_20 : decode (mC mX5_read) 20 = .ok (.aload_n 0, 1) := by decide +kernel
theorem dX5_read_21 : decode (mC mX5_read) 21 = .ok (.iconst (-1), 1) := by decide +kernel
theorem dX5_read_22 : decode (mC mX5_read) 22 = .ok (.putfield 42, 3) := by decide +kernel
theorem dX5_read_25 : decode (mC mX5_read) 25 = .ok (.aload_n 0, 1) := by decide +kernel
theorem dX5_read_26 : decode (mC mX5_read) 26 = .ok (.iconst (-1), 1) := by decide +kernel
theorem dX5_read_27 : decode (mC mX5_read) 27 = .ok (.putfield 45, 3) := by decide +kernel
theorem dX5_read_30 : decode (mC mX5_read) 30 = .ok (.aload_n 0, 1) := by decide +kernel
theorem dX5_read_31 : decode (mC mX5_read) 31 = .ok (.iconst (-1), 1) := by decide +kernel
theorem dX5_read_32 : decode (mC mX5_read) 32 = .ok (.putfield 48, 3) := by decide +kernel
theorem dX5_read_35 : decode (mC mX5_read) 35 = .ok (.aload_n 0, 1) := by decide +kernel
theorem dX5_read_36 : decode (mC mX5_read) 36 = .ok (.getfield 12, 3) := by decide +kernel
theorem dX5_read_39 : decode (mC mX5_read) 39 = .ok (.invokevirtual 51, 3) := by decide +kernel
theorem dX5_read_42 : decode (mC mX5_read) 42 = .ok (.aload_n 0, 1) := by decide +kernel
theorem dX5_read_43 : decode (mC mX5_read) 43 = .ok (.getfield 21, 3) := by decide +kernel
theorem dX5_read_46 : decode (mC mX5_read) 46 = .ok (.iconst 0, 1) := by decide +kernel
theorem dX5_read_47 : decode (mC mX5_read) 47 = .ok (.putfield 54, 3) := by decide +kernel
theorem dX5_read_50 : decode (mC mX5_read) 50 = .ok (.aload_n 0, 1) := by decide +kernel
theorem dX5_read_51 : decode (mC mX5_read) 51 = .ok (.invokevirtual 57, 3) := by decide +kernel
theorem dX5_read_54 : decode (mC mX5_read) 54 = .ok (.iconst 0, 1) := by decide +kernel
theorem dX5_read_55 : decode (mC mX5_read) 55 = .ok (.istore 4, 2) := by decide +kernel
theorem dX5_read_57 : decode (mC mX5_read) 57 = .ok (.aload_n 0, 1) := by decide +kernel
theorem dX5_read_58 : decode (mC mX5_read) 58 = .ok (.getfield 60, 3) := by decide +kernel
theorem dX5_read_61 : decode (mC mX5_read) 61 = .ok (.iconst 4, 1) := by decide +kernel
theorem dX5_read_62 : decode (mC mX5_read) 62 = .ok (.if_icmp .eq 40, 3) := by decide +kernel
theorem dX5_read_65 : decode (mC mX5_read) 65 = .ok (.iload 4, 2) := by decide +kernel
theorem dX5_read_67 : decode (mC mX5_read) 67 = .ok (.sipush 600, 3) := by decide +kernel
theorem dX5_read_70 : decode (mC mX5_read) 70 = .ok (.if_icmp .ge 32, 3) := by decide +kernel
theorem dX5_read_73 : decode (mC mX5_read) 73 = .ok (.aload_n 0, 1) := by decide +kernel
theorem dX5_read_74 : decode (mC mX5_read) 74 = .ok (.iload_n 3, 1) := by decide +kernel
theorem dX5_read_75 : decode (mC mX5_read) 75 = .ok (.invokevirtual 63, 3) := by decide +kernel
theorem dX5_read_78 : decode (mC mX5_read) 78 = .ok (.ifCond .ne 18, 3) := by decide +kernel
theorem dX5_read_81 : decode (mC mX5_read) 81 = .ok (.aload_n 0, 1) := by decide +kernel
theorem dX5_read_82 : decode (mC mX5_read) 82 = .ok (.iconst 1, 1) := by decide +kernel
theorem dX5_read_83 : decode (mC mX5_read) 83 = .ok (.putfield 39, 3) := by decide +kernel
theorem dX5_read_86 : decode (mC mX5_read) 86 = .ok (.aload_n 0, 1) := by decide +kernel
theorem dX5_read_87 : decode (mC mX5_read) 87 = .ok (.aload_n 0, 1) := by decide +kernel
theorem dX5_read_88 : decode (mC mX5_read) 88 = .ok (.getfield 67, 3) := by decide +kernel
theorem dX5_read_91 : decode (mC mX5_read) 91 = .ok (.putfield 42, 3) := by decide +kernel
theorem dX5_read_94 : decode (mC mX5_read) 94 = .ok (.iconst 0, 1) := by decide +kernel
theorem dX5_read_95 : decode (mC mX5_read) 95 = .ok (.ireturn, 1) := by decide +kernel
theorem dX5_read_96 : decode (mC mX5_read) 96 = .ok (.iinc 4 1, 3) := by decide +kernel
theorem dX5_read_99 : decode (mC mX5_read) 99 = .ok (.goto (-42), 3) := by decide +kernel
theorem dX5_read_102 : decode (mC mX5_read) 102 = .ok (.aload_n 0, 1) := by decide +kernel
theorem dX5_read_103 : decode (mC mX5_read) 103 = .ok (.getfield 12, 3) := by decide +kernel
theorem dX5_read_106 : decode (mC mX5_read) 106 = .ok (.iconst 0, 1) := by decide +kernel
theorem dX5_read_107 : decode (mC mX5_read) 107 = .ok (.aload_n 0, 1) := by decide +kernel
theorem dX5_read_108 : decode (mC mX5_read) 108 = .ok (.getfield 45, 3) := by decide +kernel
theorem dX5_read_111 : decode (mC mX5_read) 111 = .ok (.invokestatic 70, 3) := by decide +kernel
theorem dX5_read_114 : decode (mC mX5_read) 114 = .ok (.invokevirtual 76, 3) := by decide +kernel
theorem dX5_read_117 : decode (mC mX5_read) 117 = .ok (.ifCond .eq 17, 3) := by decide +kernel
theorem dX5_read_120 : decode (mC mX5_read) 120 = .ok (.aload_n 0, 1) := by decide +kernel
theorem dX5_read_121 : decode (mC mX5_read) 121 = .ok (.getfield 48, 3) := by decide +kernel
theorem dX5_read_124 : decode (mC mX5_read) 124 = .ok (.aload_n 0, 1) := by decide +kernel
theorem dX5_read_125 : decode (mC mX5_read) 125 = .ok (.getfield 12, 3) := by decide +kernel
theorem dX5_read_128 : decode (mC mX5_read) 128 = .ok (.getfield 79, 3) := by decide +kernel
theorem dX5_read_131 : decode (mC mX5_read) 131 = .ok (.if_icmp .lt 8, 3) := by decide +kernel
theorem dX5_read_134 : decode (mC mX5_read) 134 = .ok (.aload_n 0, 1) := by decide +kernel
theorem dX5_read_135 : decode (mC mX5_read) 135 = .ok (.iconst 4, 1) := by decide +kernel
theorem dX5_read_136 : decode (mC mX5_read) 136 = .ok (.invokevirtual 82, 3) := by decide +kernel
theorem dX5_read_139 : decode (mC mX5_read) 139 = .ok (.aload_n 0, 1) := by decide +kernel
theorem dX5_read_140 : decode (mC mX5_read) 140 = .ok (.getfield 39, 3) := by decide +kernel
theorem dX5_read_143 : decode (mC mX5_read) 143 = .ok (.ifCond .ne 7, 3) := by decide +kernel
theorem dX5_read_146 : decode (mC mX5_read) 146 = .ok (.iconst 1, 1) := by decide +kernel
theorem dX5_read_147 : decode (mC mX5_read) 147 = .ok (.goto 4, 3) := by decide +kernel
theorem dX5_read_150 : decode (mC mX5_read) 150 = .ok (.iconst 0, 1) := by decide +kernel
theorem dX5_read_151 : decode (mC mX5_read) 151 = .ok (.ireturn, 1) := by decide +kernel
theorem dX5_readLine_0 : decode (mC mX5_readLine) 0 = .ok (.aload_n 0, 1) := by decide +kernel
theorem dX5_readLine_1 : decode (mC mX5_readLine) 1 = .ok (.iload_n 1, 1) := by decide +kernel
theorem dX5_readLine_2 : decode (mC mX5_readLine) 2 = .ok (.invokevirtual 86, 3) := by decide +kernel
theorem dX5_readLine_5 : decode (mC mX5_readLine) 5 = .ok (.istore_n 2, 1) := by decide +kernel
theorem dX5_readLine_6 : decode (mC mX5_readLine) 6 = .ok (.iload_n 2, 1) := by decide +kernel
theorem dX5_readLine_7 : decode (mC mX5_readLine) 7 = .ok (.iconst (-1), 1) := by decide +kernel
theorem dX5_readLine_8 : decode (mC mX5_readLine) 8 = .ok (.if_icmp .ne 5, 3) := by decide +kernel
theorem dX5_readLine_11 : decode (mC mX5_readLine) 11 = .ok (.iconst 0, 1) := by decide +kernel
theorem dX5_readLine_12 : decode (mC mX5_readLine) 12 = .ok (.ireturn, 1) := by decide +kernel
theorem dX5_readLine_13 : decode (mC mX5_readLine) 13 = .ok (.aload_n 0, 1) := by decide +kernel
theorem dX5_readLine_14 : decode (mC mX5_readLine) 14 = .ok (.iload_n 2, 1) := by decide +kernel
theorem dX5_readLine_15 : decode (mC mX5_readLine) 15 = .ok (.invokevirtual 90, 3) := by decide +kernel
theorem dX5_readLine_18 : decode (mC mX5_readLine) 18 = .ok (.ifCond .eq 8, 3) := by decide +kernel
theorem dX5_readLine_21 : decode (mC mX5_readLine) 21 = .ok (.aload_n 0, 1) := by decide +kernel
theorem dX5_readLine_22 : decode (mC mX5_readLine) 22 = .ok (.iconst 3, 1) := by decide +kernel
theorem dX5_readLine_23 : decode (mC mX5_readLine) 23 = .ok (.invokevirtual 82, 3) := by decide +kernel
theorem dX5_readLine_26 : decode (mC mX5_readLine) 26 = .ok (.aload_n 0, 1) := by decide +kernel
theorem dX5_readLine_27 : decode (mC mX5_readLine) 27 = .ok (.invokevirtual 57, 3) := by decide +kernel
theorem dX5_readLine_30 : decode (mC mX5_readLine) 30 = .ok (.getstatic 93, 3) := by decide +kernel
theorem dX5_readLine_33 : decode (mC mX5_readLine) 33 = .ok (.iload_n 2, 1) := by decide +kernel
theorem dX5_readLine_34 : decode (mC mX5_readLine) 34 = .ok (.invokestatic 96, 3) := by decide +kernel
theorem dX5_readLine_37 : decode (mC mX5_readLine) 37 = .ok (.istore_n 3, 1) := by decide +kernel
theorem dX5_readLine_38 : decode (mC mX5_readLine) 38 = .ok (.iconst 0, 1) := by decide +kernel
theorem dX5_readLine_39 : decode (mC mX5_readLine) 39 = .ok (.istore 4, 2) := by decide +kernel
theorem dX5_readLine_41 : decode (mC mX5_readLine) 41 = .ok (.aload_n 0, 1) := by decide +kernel
theorem dX5_readLine_42 : decode (mC mX5_readLine) 42 = .ok (.getfield 60, 3) := by decide +kernel
theorem dX5_readLine_45 : decode (mC mX5_readLine) 45 = .ok (.iconst 2, 1) := by decide +kernel
theorem dX5_readLine_46 : decode (mC mX5_readLine) 46 = .ok (.if_icmp .ne 52, 3) := by decide +kernel
theorem dX5_readLine_49 : decode (mC mX5_readLine) 49 = .ok (.iload 4, 2) := by decide +kernel
theorem dX5_readLine_51 : decode (mC mX5_readLine) 51 = .ok (.iload_n 3, 1) := by decide +kernel
theorem dX5_readLine_52 : decode (mC mX5_readLine) 52 = .ok (.if_icmp .lt 8, 3) := by decide +kernel
theorem dX5_readLine_55 : decode (mC mX5_readLine) 55 = .ok (.iload_n 2, 1) := by decide +kernel
theorem dX5_readLine_56 : decode (mC mX5_readLine) 56 = .ok (.iconst 3, 1) := by decide +kernel
theorem dX5_readLine_57 : decode (mC mX5_readLine) 57 = .ok (.if_icmp .ne 41, 3) := by decide +kernel
theorem dX5_readLine_60 : decode (mC mX5_readLine) 60 = .ok (.iload 4, 2) := by decide +kernel
theorem dX5_readLine_62 : decode (mC mX5_readLine) 62 = .ok (.sipush 600, 3) := by decide +kernel
theorem dX5_readLine_65 : decode (mC mX5_readLine) 65 = .ok (.if_icmp .ge 33, 3) := by decide +kernel
theorem dX5_readLine_68 : decode (mC mX5_readLine) 68 = .ok (.aload_n 0, 1) := by decide +kernel
theorem dX5_readLine_69 : decode (mC mX5_readLine) 69 = .ok (.iload_n 2, 1) := by decide +kernel
theorem dX5_readLine_70 : decode (mC mX5_readLine) 70 = .ok (.iload 4, 2) := by decide +kernel
theorem dX5_readLine_72 : decode (mC mX5_readLine) 72 = .ok (.invokevirtual 100, 3) := by decide +kernel
theorem dX5_readLine_75 : decode (mC mX5_readLine) 75 = .ok (.aload_n 0, 1) := by decide +kernel
theorem dX5_readLine_76 : decode (mC mX5_readLine) 76 = .ok (.getfield 25, 3) := by decide +kernel
theorem dX5_readLine_79 : decode (mC mX5_readLine) 79 = .ok (.iload 4, 2) := by decide +kernel
theorem dX5_readLine_81 : decode (mC mX5_readLine) 81 = .ok (.aload_n 0, 1) := by decide +kernel
theorem dX5_readLine_82 : decode (mC mX5_readLine) 82 = .ok (.getfield 104, 3) := by decide +kernel
theorem dX5_readLine_85 : decode (mC mX5_readLine) 85 = .ok (.invokestatic 107, 3) := by decide +kernel
theorem dX5_readLine_88 : decode (mC mX5_readLine) 88 = .ok (.iinc 4 1, 3) := by decide +kernel
theorem dX5_readLine_91 : decode (mC mX5_readLine) 91 = .ok (.aload_n 0, 1) := by decide +kernel
theorem dX5_readLine_92 : decode (mC mX5_readLine) 92 = .ok (.invokevirtual 57, 3) := by decide +kernel
theorem dX5_readLine_95 : decode (mC mX5_readLine) 95 = .ok (.goto (-54), 3) := by decide +kernel
theorem dX5_readLine_98 : decode (mC mX5_readLine) 98 = .ok (.iload 4, 2) := by decide +kernel
theorem dX5_readLine_100 : decode (mC mX5_readLine) 100 = .ok (.iload_n 3, 1) := by decide +kernel
theorem dX5_readLine_101 : decode (mC mX5_readLine) 101 = .ok (.if_icmp .lt 11, 3) := by decide +kernel
theorem dX5_readLine_104 : decode (mC mX5_readLine) 104 = .ok (.aload_n 0, 1) := by decide +kernel
theorem dX5_readLine_105 : decode (mC mX5_readLine) 105 = .ok (.getfield 60, 3) := by decide +kernel
theorem dX5_readLine_108 : decode (mC mX5_readLine) 108 = .ok (.iconst 3, 1) := by decide +kernel
theorem dX5_readLine_109 : decode (mC mX5_readLine) 109 = .ok (.if_icmp .eq 5, 3) := by decide +kernel
theorem dX5_readLine_112 : decode (mC mX5_readLine) 112 = .ok (.iconst 0, 1) := by decide +kernel
theorem dX5_readLine_113 : decode (mC mX5_readLine) 113 = .ok (.ireturn, 1) := by decide +kernel
theorem dX5_readLine_114 : decode (mC mX5_readLine) 114 = .ok (.aload_n 0, 1) := by decide +kernel
theorem dX5_readLine_115 : decode (mC mX5_readLine) 115 = .ok (.getfield 39, 3) := by decide +kernel
theorem dX5_readLine_118 : decode (mC mX5_readLine) 118 = .ok (.ifCond .ne 10, 3) := by decide +kernel
theorem dX5_readLine_121 : decode (mC mX5_readLine) 121 = .ok (.aload_n 0, 1) := by decide +kernel
theorem dX5_readLine_122 : decode (mC mX5_readLine) 122 = .ok (.iload_n 2, 1) := by decide +kernel
theorem dX5_readLine_123 : decode (mC mX5_readLine) 123 = .ok (.iload 4, 2) := by decide +kernel
theorem dX5_readLine_125 : decode (mC mX5_readLine) 125 = .ok (.invokevirtual 111, 3) := by decide +kernel
theorem dX5_readLine_128 : decode (mC mX5_readLine) 128 = .ok (.aload_n 0, 1) := by decide +kernel
theorem dX5_readLine_129 : decode (mC mX5_readLine) 129 = .ok (.invokevirtual 57, 3) := by decide +kernel
theorem dX5_readLine_132 : decode (mC mX5_readLine) 132 = .ok (.iconst 1, 1) := by decide +kernel
theorem dX5_readLine_133 : decode (mC mX5_readLine) 133 = .ok (.ireturn, 1) := by decide +kernel
theorem dX5_lineTold_0 : decode (mC mX5_lineTold) 0 = .ok (.iload_n 1, 1) := by decide +kernel
theorem dX5_lineTold_1 : decode (mC mX5_lineTold) 1 = .ok (.ifCond .ne 7, 3) := by decide +kernel
theorem dX5_lineTold_4 : decode (mC mX5_lineTold) 4 = .ok (.iconst 0, 1) := by decide +kernel
theorem dX5_lineTold_5 : decode (mC mX5_lineTold) 5 = .ok (.goto 5, 3) := by decide +kernel
theorem dX5_lineTold_8 : decode (mC mX5_lineTold) 8 = .ok (.bipush 10, 2) := by decide +kernel
theorem dX5_lineTold_10 : decode (mC mX5_lineTold) 10 = .ok (.istore_n 2, 1) := by decide +kernel
theorem dX5_lineTold_11 : decode (mC mX5_lineTold) 11 = .ok (.iload_n 1, 1) := by decide +kernel
theorem dX5_lineTold_12 : decode (mC mX5_lineTold) 12 = .ok (.ifCond .ne 8, 3) := by decide +kernel
theorem dX5_lineTold_15 : decode (mC mX5_lineTold) 15 = .ok (.bipush 9, 2) := by decide +kernel
theorem dX5_lineTold_17 : decode (mC mX5_lineTold) 17 = .ok (.goto 5, 3) := by decide +kernel
