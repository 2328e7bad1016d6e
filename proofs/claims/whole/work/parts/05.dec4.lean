theorem dX11_solves_0 : decode (mC mX11_solves) 0 = .ok (.iconst 0, 1) := by decide +kernel
theorem dX11_solves_1 : decode (mC mX11_solves) 1 = .ok (.istore_n 1, 1) := by decide +kernel
theorem dX11_solves_2 : decode (mC mX11_solves) 2 = .ok (.iload_n 1, 1) := by decide +kernel
theorem dX11_solves_3 : decode (mC mX11_solves) 3 = .ok (.bipush 40, 2) := by decide +kernel
theorem dX11_solves_5 : decode (mC mX11_solves) 5 = .ok (.if_icmp .gt 111, 3) := by decide +kernel
theorem dX11_solves_8 : decode (mC mX11_solves) 8 = .ok (.iconst 0, 1) := by decide +kernel
theorem dX11_solves_9 : decode (mC mX11_solves) 9 = .ok (.istore_n 2, 1) := by decide +kernel
theorem dX11_solves_10 : decode (mC mX11_solves) 10 = .ok (.iload_n 2, 1) := by decide +kernel
theorem dX11_solves_11 : decode (mC mX11_solves) 11 = .ok (.iconst 2, 1) := by decide +kernel
theorem dX11_solves_12 : decode (mC mX11_solves) 12 = .ok (.aload_n 0, 1) := by decide +kernel
theorem dX11_solves_13 : decode (mC mX11_solves) 13 = .ok (.invokevirtual 294, 3) := by decide +kernel
theorem dX11_solves_16 : decode (mC mX11_solves) 16 = .ok (.imul, 1) := by decide +kernel
theorem dX11_solves_17 : decode (mC mX11_solves) 17 = .ok (.if_icmp .ge 93, 3) := by decide +kernel
theorem dX11_solves_20 : decode (mC mX11_solves) 20 = .ok (.iload_n 1, 1) := by decide +kernel
theorem dX11_solves_21 : decode (mC mX11_solves) 21 = .ok (.ifCond .ne 17, 3) := by decide +kernel
theorem dX11_solves_24 : decode (mC mX11_solves) 24 = .ok (.iload_n 2, 1) := by decide +kernel
theorem dX11_solves_25 : decode (mC mX11_solves) 25 = .ok (.iconst 2, 1) := by decide +kernel
theorem dX11_solves_26 : decode (mC mX11_solves) 26 = .ok (.idiv, 1) := by decide +kernel
theorem dX11_solves_27 : decode (mC mX11_solves) 27 = .ok (.aload_n 0, 1) := by decide +kernel
theorem dX11_solves_28 : decode (mC mX11_solves) 28 = .ok (.getfield 334, 3) := by decide +kernel
theorem dX11_solves_31 : decode (mC mX11_solves) 31 = .ok (.if_icmp .ne 7, 3) := by decide +kernel
theorem dX11_solves_34 : decode (mC mX11_solves) 34 = .ok (.iconst 0, 1) := by decide +kernel
theorem dX11_solves_35 : decode (mC mX11_solves) 35 = .ok (.goto 6, 3) := by decide +kernel
theorem dX11_solves_38 : decode (mC mX11_solves) 38 = .ok (.ldc_w 330, 3) := by decide +kernel
theorem dX11_solves_41 : decode (mC mX11_solves) 41 = .ok (.istore_n 3, 1) := by decide +kernel
theorem dX11_solves_42 : decode (mC mX11_solves) 42 = .ok (.iconst 0, 1) := by decide +kernel
theorem dX11_solves_43 : decode (mC mX11_solves) 43 = .ok (.istore 4, 2) := by decide +kernel
theorem dX11_solves_45 : decode (mC mX11_solves) 45 = .ok (.iload 4, 2) := by decide +kernel
theorem dX11_solves_47 : decode (mC mX11_solves) 47 = .ok (.iconst 4, 1) := by decide +kernel
theorem dX11_solves_48 : decode (mC mX11_solves) 48 = .ok (.if_icmp .ge 43, 3) := by decide +kernel
theorem dX11_solves_51 : decode (mC mX11_solves) 51 = .ok (.iload_n 1, 1) := by decide +kernel
theorem dX11_solves_52 : decode (mC mX11_solves) 52 = .ok (.ifCond .le 39, 3) := by decide +kernel
theorem dX11_solves_55 : decode (mC mX11_solves) 55 = .ok (.aload_n 0, 1) := by decide +kernel
theorem dX11_solves_56 : decode (mC mX11_solves) 56 = .ok (.iload_n 1, 1) := by decide +kernel
theorem dX11_solves_57 : decode (mC mX11_solves) 57 = .ok (.iconst 1, 1) := by decide +kernel
theorem dX11_solves_58 : decode (mC mX11_solves) 58 = .ok (.isub, 1) := by decide +kernel
theorem dX11_solves_59 : decode (mC mX11_solves) 59 = .ok (.iload_n 2, 1) := by decide +kernel
theorem dX11_solves_60 : decode (mC mX11_solves) 60 = .ok (.iconst 2, 1) := by decide +kernel
theorem dX11_solves_61 : decode (mC mX11_solves) 61 = .ok (.idiv, 1) := by decide +kernel
theorem dX11_solves_62 : decode (mC mX11_solves) 62 = .ok (.iload_n 2, 1) := by decide +kernel
theorem dX11_solves_63 : decode (mC mX11_solves) 63 = .ok (.iconst 2, 1) := by decide +kernel
theorem dX11_solves_64 : decode (mC mX11_solves) 64 = .ok (.irem, 1) := by decide +kernel
theorem dX11_solves_65 : decode (mC mX11_solves) 65 = .ok (.iload 4, 2) := by decide +kernel
theorem dX11_solves_67 : decode (mC mX11_solves) 67 = .ok (.invokevirtual 337, 3) := by decide +kernel
theorem dX11_solves_70 : decode (mC mX11_solves) 70 = .ok (.istore 5, 2) := by decide +kernel
theorem dX11_solves_72 : decode (mC mX11_solves) 72 = .ok (.iload 5, 2) := by decide +kernel
theorem dX11_solves_74 : decode (mC mX11_solves) 74 = .ok (.iload_n 3, 1) := by decide +kernel
theorem dX11_solves_75 : decode (mC mX11_solves) 75 = .ok (.if_icmp .ge 8, 3) := by decide +kernel
theorem dX11_solves_78 : decode (mC mX11_solves) 78 = .ok (.iload 5, 2) := by decide +kernel
theorem dX11_solves_80 : decode (mC mX11_solves) 80 = .ok (.goto 4, 3) := by decide +kernel
theorem dX11_solves_83 : decode (mC mX11_solves) 83 = .ok (.iload_n 3, 1) := by decide +kernel
theorem dX11_solves_84 : decode (mC mX11_solves) 84 = .ok (.istore_n 3, 1) := by decide +kernel
theorem dX11_solves_85 : decode (mC mX11_solves) 85 = .ok (.iinc 4 1, 3) := by decide +kernel
theorem dX11_solves_88 : decode (mC mX11_solves) 88 = .ok (.goto (-43), 3) := by decide +kernel
theorem dX11_solves_91 : decode (mC mX11_solves) 91 = .ok (.aload_n 0, 1) := by decide +kernel
theorem dX11_solves_92 : decode (mC mX11_solves) 92 = .ok (.getfield 62, 3) := by decide +kernel
theorem dX11_solves_95 : decode (mC mX11_solves) 95 = .ok (.sipush 128, 3) := by decide +kernel
theorem dX11_solves_98 : decode (mC mX11_solves) 98 = .ok (.iload_n 1, 1) := by decide +kernel
theorem dX11_solves_99 : decode (mC mX11_solves) 99 = .ok (.imul, 1) := by decide +kernel
theorem dX11_solves_100 : decode (mC mX11_solves) 100 = .ok (.iload_n 2, 1) := by decide +kernel
theorem dX11_solves_101 : decode (mC mX11_solves) 101 = .ok (.iadd, 1) := by decide +kernel
theorem dX11_solves_102 : decode (mC mX11_solves) 102 = .ok (.iload_n 3, 1) := by decide +kernel
theorem dX11_solves_103 : decode (mC mX11_solves) 103 = .ok (.iastore, 1) := by decide +kernel
theorem dX11_solves_104 : decode (mC mX11_solves) 104 = .ok (.iinc 2 1, 3) := by decide +kernel
theorem dX11_solves_107 : decode (mC mX11_solves) 107 = .ok (.goto (-97), 3) := by decide +kernel
theorem dX11_solves_110 : decode (mC mX11_solves) 110 = .ok (.iinc 1 1, 3) := by decide +kernel
theorem dX11_solves_113 : decode (mC mX11_solves) 113 = .ok (.goto (-111), 3) := by decide +kernel
theorem dX11_solves_116 : decode (mC mX11_solves) 116 = .ok (.return_, 1) := by decide +kernel
theorem dX11_first_0 : decode (mC mX11_first) 0 = .ok (.aload_n 0, 1) := by decide +kernel
theorem dX11_first_1 : decode (mC mX11_first) 1 = .ok (.iload_n 2, 1) := by decide +kernel
theorem dX11_first_2 : decode (mC mX11_first) 2 = .ok (.iconst 0, 1) := by decide +kernel
theorem dX11_first_3 : decode (mC mX11_first) 3 = .ok (.iload_n 3, 1) := by decide +kernel
theorem dX11_first_4 : decode (mC mX11_first) 4 = .ok (.invokevirtual 331, 3) := by decide +kernel
theorem dX11_first_7 : decode (mC mX11_first) 7 = .ok (.aload_n 0, 1) := by decide +kernel
theorem dX11_first_8 : decode (mC mX11_first) 8 = .ok (.iload_n 1, 1) := by decide +kernel
theorem dX11_first_9 : decode (mC mX11_first) 9 = .ok (.iload_n 2, 1) := by decide +kernel
theorem dX11_first_10 : decode (mC mX11_first) 10 = .ok (.iconst 0, 1) := by decide +kernel
theorem dX11_first_11 : decode (mC mX11_first) 11 = .ok (.iload_n 3, 1) := by decide +kernel
theorem dX11_first_12 : decode (mC mX11_first) 12 = .ok (.invokevirtual 337, 3) := by decide +kernel
theorem dX11_first_15 : decode (mC mX11_first) 15 = .ok (.iadd, 1) := by decide +kernel
theorem dX11_first_16 : decode (mC mX11_first) 16 = .ok (.ireturn, 1) := by decide +kernel
theorem dX11_isWay_0 : decode (mC mX11_isWay) 0 = .ok (.aload_n 0, 1) := by decide +kernel
theorem dX11_isWay_1 : decode (mC mX11_isWay) 1 = .ok (.iload_n 1, 1) := by decide +kernel
theorem dX11_isWay_2 : decode (mC mX11_isWay) 2 = .ok (.putfield 327, 3) := by decide +kernel
theorem dX11_isWay_5 : decode (mC mX11_isWay) 5 = .ok (.aload_n 0, 1) := by decide +kernel
theorem dX11_isWay_6 : decode (mC mX11_isWay) 6 = .ok (.iload_n 3, 1) := by decide +kernel
theorem dX11_isWay_7 : decode (mC mX11_isWay) 7 = .ok (.putfield 334, 3) := by decide +kernel
theorem dX11_isWay_10 : decode (mC mX11_isWay) 10 = .ok (.aload_n 0, 1) := by decide +kernel
theorem dX11_isWay_11 : decode (mC mX11_isWay) 11 = .ok (.iconst 0, 1) := by decide +kernel
theorem dX11_isWay_12 : decode (mC mX11_isWay) 12 = .ok (.putfield 341, 3) := by decide +kernel
theorem dX11_isWay_15 : decode (mC mX11_isWay) 15 = .ok (.aload_n 0, 1) := by decide +kernel
theorem dX11_isWay_16 : decode (mC mX11_isWay) 16 = .ok (.iconst 0, 1) := by decide +kernel
theorem dX11_isWay_17 : decode (mC mX11_isWay) 17 = .ok (.putfield 344, 3) := by decide +kernel
theorem dX11_isWay_20 : decode (mC mX11_isWay) 20 = .ok (.iload_n 2, 1) := by decide +kernel
theorem dX11_isWay_21 : decode (mC mX11_isWay) 21 = .ok (.iload_n 3, 1) := by decide +kernel
theorem dX11_isWay_22 : decode (mC mX11_isWay) 22 = .ok (.if_icmp .ne 5, 3) := by decide +kernel
theorem dX11_isWay_25 : decode (mC mX11_isWay) 25 = .ok (.iconst 1, 1) := by decide +kernel
theorem dX11_isWay_26 : decode (mC mX11_isWay) 26 = .ok (.ireturn, 1) := by decide +kernel
theorem dX11_isWay_27 : decode (mC mX11_isWay) 27 = .ok (.aload_n 0, 1) := by decide +kernel
theorem dX11_isWay_28 : decode (mC mX11_isWay) 28 = .ok (.invokevirtual 347, 3) := by decide +kernel
theorem dX11_isWay_31 : decode (mC mX11_isWay) 31 = .ok (.aload_n 0, 1) := by decide +kernel
theorem dX11_isWay_32 : decode (mC mX11_isWay) 32 = .ok (.ldc_w 330, 3) := by decide +kernel
theorem dX11_isWay_35 : decode (mC mX11_isWay) 35 = .ok (.putfield 341, 3) := by decide +kernel
theorem dX11_isWay_38 : decode (mC mX11_isWay) 38 = .ok (.iconst 1, 1) := by decide +kernel
theorem dX11_isWay_39 : decode (mC mX11_isWay) 39 = .ok (.istore 4, 2) := by decide +kernel
theorem dX11_isWay_41 : decode (mC mX11_isWay) 41 = .ok (.iload 4, 2) := by decide +kernel
theorem dX11_isWay_43 : decode (mC mX11_isWay) 43 = .ok (.bipush 40, 2) := by decide +kernel
theorem dX11_isWay_45 : decode (mC mX11_isWay) 45 = .ok (.if_icmp .gt 61, 3) := by decide +kernel
theorem dX11_isWay_48 : decode (mC mX11_isWay) 48 = .ok (.iconst 0, 1) := by decide +kernel
theorem dX11_isWay_49 : decode (mC mX11_isWay) 49 = .ok (.istore 5, 2) := by decide +kernel
theorem dX11_isWay_51 : decode (mC mX11_isWay) 51 = .ok (.iload 5, 2) := by decide +kernel
theorem dX11_isWay_53 : decode (mC mX11_isWay) 53 = .ok (.iconst 4, 1) := by decide +kernel
theorem dX11_isWay_54 : decode (mC mX11_isWay) 54 = .ok (.if_icmp .ge 46, 3) := by decide +kernel
theorem dX11_isWay_57 : decode (mC mX11_isWay) 57 = .ok (.aload_n 0, 1) := by decide +kernel
theorem dX11_isWay_58 : decode (mC mX11_isWay) 58 = .ok (.iload 4, 2) := by decide +kernel
theorem dX11_isWay_60 : decode (mC mX11_isWay) 60 = .ok (.iconst 1, 1) := by decide +kernel
theorem dX11_isWay_61 : decode (mC mX11_isWay) 61 = .ok (.isub, 1) := by decide +kernel
theorem dX11_isWay_62 : decode (mC mX11_isWay) 62 = .ok (.iload_n 2, 1) := by decide +kernel
theorem dX11_isWay_63 : decode (mC mX11_isWay) 63 = .ok (.iload 5, 2) := by decide +kernel
theorem dX11_isWay_65 : decode (mC mX11_isWay) 65 = .ok (.invokevirtual 350, 3) := by decide +kernel
theorem dX11_isWay_68 : decode (mC mX11_isWay) 68 = .ok (.istore 6, 2) := by decide +kernel
theorem dX11_isWay_70 : decode (mC mX11_isWay) 70 = .ok (.iload 6, 2) := by decide +kernel
theorem dX11_isWay_72 : decode (mC mX11_isWay) 72 = .ok (.aload_n 0, 1) := by decide +kernel
theorem dX11_isWay_73 : decode (mC mX11_isWay) 73 = .ok (.getfield 341, 3) := by decide +kernel
theorem dX11_isWay_76 : decode (mC mX11_isWay) 76 = .ok (.if_icmp .lt 6, 3) := by decide +kernel
theorem dX11_isWay_79 : decode (mC mX11_isWay) 79 = .ok (.goto 15, 3) := by decide +kernel
theorem dX11_isWay_82 : decode (mC mX11_isWay) 82 = .ok (.aload_n 0, 1) := by decide +kernel
theorem dX11_isWay_83 : decode (mC mX11_isWay) 83 = .ok (.iload 6, 2) := by decide +kernel
theorem dX11_isWay_85 : decode (mC mX11_isWay) 85 = .ok (.putfield 341, 3) := by decide +kernel
theorem dX11_isWay_88 : decode (mC mX11_isWay) 88 = .ok (.aload_n 0, 1) := by decide +kernel
theorem dX11_isWay_89 : decode (mC mX11_isWay) 89 = .ok (.iload 4, 2) := by decide +kernel
theorem dX11_isWay_91 : decode (mC mX11_isWay) 91 = .ok (.putfield 344, 3) := by decide +kernel
theorem dX11_isWay_94 : decode (mC mX11_isWay) 94 = .ok (.iinc 5 1, 3) := by decide +kernel
theorem dX11_isWay_97 : decode (mC mX11_isWay) 97 = .ok (.goto (-46), 3) := by decide +kernel
theorem dX11_isWay_100 : decode (mC mX11_isWay) 100 = .ok (.iinc 4 1, 3) := by decide +kernel
theorem dX11_isWay_103 : decode (mC mX11_isWay) 103 = .ok (.goto (-62), 3) := by decide +kernel
theorem dX11_isWay_106 : decode (mC mX11_isWay) 106 = .ok (.aload_n 0, 1) := by decide +kernel
theorem dX11_isWay_107 : decode (mC mX11_isWay) 107 = .ok (.getfield 341, 3) := by decide +kernel
theorem dX11_isWay_110 : decode (mC mX11_isWay) 110 = .ok (.ldc_w 330, 3) := by decide +kernel
theorem dX11_isWay_113 : decode (mC mX11_isWay) 113 = .ok (.if_icmp .lt 5, 3) := by decide +kernel
theorem dX11_isWay_116 : decode (mC mX11_isWay) 116 = .ok (.iconst 0, 1) := by decide +kernel
theorem dX11_isWay_117 : decode (mC mX11_isWay) 117 = .ok (.ireturn, 1) := by decide +kernel
theorem dX11_isWay_118 : decode (mC mX11_isWay) 118 = .ok (.iload_n 2, 1) := by decide +kernel
theorem dX11_isWay_119 : decode (mC mX11_isWay) 119 = .ok (.istore 4, 2) := by decide +kernel
theorem dX11_isWay_121 : decode (mC mX11_isWay) 121 = .ok (.aload_n 0, 1) := by decide +kernel
theorem dX11_isWay_122 : decode (mC mX11_isWay) 122 = .ok (.getfield 341, 3) := by decide +kernel
theorem dX11_isWay_125 : decode (mC mX11_isWay) 125 = .ok (.istore 5, 2) := by decide +kernel
theorem dX11_isWay_127 : decode (mC mX11_isWay) 127 = .ok (.iconst 0, 1) := by decide +kernel
theorem dX11_isWay_128 : decode (mC mX11_isWay) 128 = .ok (.istore 6, 2) := by decide +kernel
theorem dX11_isWay_130 : decode (mC mX11_isWay) 130 = .ok (.iload 6, 2) := by decide +kernel
theorem dX11_isWay_132 : decode (mC mX11_isWay) 132 = .ok (.aload_n 0, 1) := by decide +kernel
theorem dX11_isWay_133 : decode (mC mX11_isWay) 133 = .ok (.getfield 344, 3) := by decide +kernel
theorem dX11_isWay_136 : decode (mC mX11_isWay) 136 = .ok (.if_icmp .ge 131, 3) := by decide +kernel
theorem dX11_isWay_139 : decode (mC mX11_isWay) 139 = .ok (.iconst 0, 1) := by decide +kernel
theorem dX11_isWay_140 : decode (mC mX11_isWay) 140 = .ok (.istore 7, 2) := by decide +kernel
theorem dX11_isWay_142 : decode (mC mX11_isWay) 142 = .ok (.iload 6, 2) := by decide +kernel
theorem dX11_isWay_144 : decode (mC mX11_isWay) 144 = .ok (.ifCond .ne 19, 3) := by decide +kernel
theorem dX11_isWay_147 : decode (mC mX11_isWay) 147 = .ok (.aload_n 0, 1) := by decide +kernel
theorem dX11_isWay_148 : decode (mC mX11_isWay) 148 = .ok (.aload_n 0, 1) := by decide +kernel
theorem dX11_isWay_149 : decode (mC mX11_isWay) 149 = .ok (.getfield 344, 3) := by decide +kernel
theorem dX11_isWay_152 : decode (mC mX11_isWay) 152 = .ok (.iconst 1, 1) := by decide +kernel
theorem dX11_isWay_153 : decode (mC mX11_isWay) 153 = .ok (.isub, 1) := by decide +kernel
theorem dX11_isWay_154 : decode (mC mX11_isWay) 154 = .ok (.iload_n 2, 1) := by decide +kernel
theorem dX11_isWay_155 : decode (mC mX11_isWay) 155 = .ok (.iload 7, 2) := by decide +kernel
theorem dX11_isWay_157 : decode (mC mX11_isWay) 157 = .ok (.invokevirtual 350, 3) := by decide +kernel
theorem dX11_isWay_160 : decode (mC mX11_isWay) 160 = .ok (.goto 24, 3) := by decide +kernel
theorem dX11_isWay_163 : decode (mC mX11_isWay) 163 = .ok (.aload_n 0, 1) := by decide +kernel
theorem dX11_isWay_164 : decode (mC mX11_isWay) 164 = .ok (.aload_n 0, 1) := by decide +kernel
theorem dX11_isWay_165 : decode (mC mX11_isWay) 165 = .ok (.getfield 344, 3) := by decide +kernel
theorem dX11_isWay_168 : decode (mC mX11_isWay) 168 = .ok (.iconst 1, 1) := by decide +kernel
theorem dX11_isWay_169 : decode (mC mX11_isWay) 169 = .ok (.isub, 1) := by decide +kernel
theorem dX11_isWay_170 : decode (mC mX11_isWay) 170 = .ok (.iload 6, 2) := by decide +kernel
theorem dX11_isWay_172 : decode (mC mX11_isWay) 172 = .ok (.isub, 1) := by decide +kernel
theorem dX11_isWay_173 : decode (mC mX11_isWay) 173 = .ok (.iload 4, 2) := by decide +kernel
theorem dX11_isWay_175 : decode (mC mX11_isWay) 175 = .ok (.iload 6, 2) := by decide +kernel
theorem dX11_isWay_177 : decode (mC mX11_isWay) 177 = .ok (.iconst 2, 1) := by decide +kernel
theorem dX11_isWay_178 : decode (mC mX11_isWay) 178 = .ok (.irem, 1) := by decide +kernel
theorem dX11_isWay_179 : decode (mC mX11_isWay) 179 = .ok (.iload 7, 2) := by decide +kernel
theorem dX11_isWay_181 : decode (mC mX11_isWay) 181 = .ok (.invokevirtual 337, 3) := by decide +kernel
theorem dX11_isWay_184 : decode (mC mX11_isWay) 184 = .ok (.iload 5, 2) := by decide +kernel
theorem dX11_isWay_186 : decode (mC mX11_isWay) 186 = .ok (.if_icmp .eq 9, 3) := by decide +kernel
theorem dX11_isWay_189 : decode (mC mX11_isWay) 189 = .ok (.iinc 7 1, 3) := by decide +kernel
theorem dX11_isWay_192 : decode (mC mX11_isWay) 192 = .ok (.goto (-50), 3) := by decide +kernel
theorem dX11_isWay_195 : decode (mC mX11_isWay) 195 = .ok (.aload_n 0, 1) := by decide +kernel
theorem dX11_isWay_196 : decode (mC mX11_isWay) 196 = .ok (.getfield 65, 3) := by decide +kernel
theorem dX11_isWay_199 : decode (mC mX11_isWay) 199 = .ok (.iload 6, 2) := by decide +kernel
theorem dX11_isWay_201 : decode (mC mX11_isWay) 201 = .ok (.iload 7, 2) := by decide +kernel
theorem dX11_isWay_203 : decode (mC mX11_isWay) 203 = .ok (.iastore, 1) := by decide +kernel
theorem dX11_isWay_204 : decode (mC mX11_isWay) 204 = .ok (.iload 5, 2) := by decide +kernel
theorem dX11_isWay_206 : decode (mC mX11_isWay) 206 = .ok (.iload 6, 2) := by decide +kernel
theorem dX11_isWay_208 : decode (mC mX11_isWay) 208 = .ok (.ifCond .ne 14, 3) := by decide +kernel
theorem dX11_isWay_211 : decode (mC mX11_isWay) 211 = .ok (.aload_n 0, 1) := by decide +kernel
theorem dX11_isWay_212 : decode (mC mX11_isWay) 212 = .ok (.iload_n 2, 1) := by decide +kernel
theorem dX11_isWay_213 : decode (mC mX11_isWay) 213 = .ok (.iconst 0, 1) := by decide +kernel
theorem dX11_isWay_214 : decode (mC mX11_isWay) 214 = .ok (.iload 7, 2) := by decide +kernel
theorem dX11_isWay_216 : decode (mC mX11_isWay) 216 = .ok (.invokevirtual 331, 3) := by decide +kernel
theorem dX11_isWay_219 : decode (mC mX11_isWay) 219 = .ok (.goto 4, 3) := by decide +kernel
theorem dX11_isWay_222 : decode (mC mX11_isWay) 222 = .ok (.iconst 0, 1) := by decide +kernel
theorem dX11_isWay_223 : decode (mC mX11_isWay) 223 = .ok (.isub, 1) := by decide +kernel
theorem dX11_isWay_224 : decode (mC mX11_isWay) 224 = .ok (.istore 5, 2) := by decide +kernel
theorem dX11_isWay_226 : decode (mC mX11_isWay) 226 = .ok (.aload_n 0, 1) := by decide +kernel
theorem dX11_isWay_227 : decode (mC mX11_isWay) 227 = .ok (.iload 4, 2) := by decide +kernel
theorem dX11_isWay_229 : decode (mC mX11_isWay) 229 = .ok (.iload 7, 2) := by decide +kernel
theorem dX11_isWay_231 : decode (mC mX11_isWay) 231 = .ok (.aload_n 0, 1) := by decide +kernel
theorem dX11_isWay_232 : decode (mC mX11_isWay) 232 = .ok (.iload_n 1, 1) := by decide +kernel
theorem dX11_isWay_233 : decode (mC mX11_isWay) 233 = .ok (.iconst 1, 1) := by decide +kernel
theorem dX11_isWay_234 : decode (mC mX11_isWay) 234 = .ok (.invokevirtual 236, 3) := by decide +kernel
theorem dX11_isWay_237 : decode (mC mX11_isWay) 237 = .ok (.invokevirtual 251, 3) := by decide +kernel
theorem dX11_isWay_240 : decode (mC mX11_isWay) 240 = .ok (.istore 4, 2) := by decide +kernel
theorem dX11_isWay_242 : decode (mC mX11_isWay) 242 = .ok (.iload 5, 2) := by decide +kernel
theorem dX11_isWay_244 : decode (mC mX11_isWay) 244 = .ok (.aload_n 0, 1) := by decide +kernel
theorem dX11_isWay_245 : decode (mC mX11_isWay) 245 = .ok (.iload 4, 2) := by decide +kernel
theorem dX11_isWay_247 : decode (mC mX11_isWay) 247 = .ok (.iload 6, 2) := by decide +kernel
theorem dX11_isWay_249 : decode (mC mX11_isWay) 249 = .ok (.iconst 1, 1) := by decide +kernel
theorem dX11_isWay_250 : decode (mC mX11_isWay) 250 = .ok (.iadd, 1) := by decide +kernel
theorem dX11_isWay_251 : decode (mC mX11_isWay) 251 = .ok (.iconst 2, 1) := by decide +kernel
theorem dX11_isWay_252 : decode (mC mX11_isWay) 252 = .ok (.irem, 1) := by decide +kernel
theorem dX11_isWay_253 : decode (mC mX11_isWay) 253 = .ok (.iload 7, 2) := by decide +kernel
theorem dX11_isWay_255 : decode (mC mX11_isWay) 255 = .ok (.invokevirtual 331, 3) := by decide +kernel
theorem dX11_isWay_258 : decode (mC mX11_isWay) 258 = .ok (.isub, 1) := by decide +kernel
theorem dX11_isWay_259 : decode (mC mX11_isWay) 259 = .ok (.istore 5, 2) := by decide +kernel
theorem dX11_isWay_261 : decode (mC mX11_isWay) 261 = .ok (.iinc 6 1, 3) := by decide +kernel
theorem dX11_isWay_264 : decode (mC mX11_isWay) 264 = .ok (.goto (-134), 3) := by decide +kernel
theorem dX11_isWay_267 : decode (mC mX11_isWay) 267 = .ok (.iconst 1, 1) := by decide +kernel
theorem dX11_isWay_268 : decode (mC mX11_isWay) 268 = .ok (.ireturn, 1) := by decide +kernel
theorem dX11_way_0 : decode (mC mX11_way) 0 = .ok (.aload_n 0, 1) := by decide +kernel
theorem dX11_way_1 : decode (mC mX11_way) 1 = .ok (.iload_n 1, 1) := by decide +kernel
theorem dX11_way_2 : decode (mC mX11_way) 2 = .ok (.invokevirtual 215, 3) := by decide +kernel
theorem dX11_way_5 : decode (mC mX11_way) 5 = .ok (.ifCond .eq 28, 3) := by decide +kernel
theorem dX11_way_8 : decode (mC mX11_way) 8 = .ok (.aload_n 0, 1) := by decide +kernel
theorem dX11_way_9 : decode (mC mX11_way) 9 = .ok (.iload_n 2, 1) := by decide +kernel
theorem dX11_way_10 : decode (mC mX11_way) 10 = .ok (.invokevirtual 282, 3) := by decide +kernel
theorem dX11_way_13 : decode (mC mX11_way) 13 = .ok (.ifCond .eq 20, 3) := by decide +kernel
theorem dX11_way_16 : decode (mC mX11_way) 16 = .ok (.aload_n 0, 1) := by decide +kernel
theorem dX11_way_17 : decode (mC mX11_way) 17 = .ok (.iload_n 3, 1) := by decide +kernel
theorem dX11_way_18 : decode (mC mX11_way) 18 = .ok (.invokevirtual 297, 3) := by decide +kernel
theorem dX11_way_21 : decode (mC mX11_way) 21 = .ok (.ifCond .eq 12, 3) := by decide +kernel
theorem dX11_way_24 : decode (mC mX11_way) 24 = .ok (.aload_n 0, 1) := by decide +kernel
theorem dX11_way_25 : decode (mC mX11_way) 25 = .ok (.iload 4, 2) := by decide +kernel
theorem dX11_way_27 : decode (mC mX11_way) 27 = .ok (.invokevirtual 297, 3) := by decide +kernel
theorem dX11_way_30 : decode (mC mX11_way) 30 = .ok (.ifCond .ne 5, 3) := by decide +kernel
theorem dX11_way_33 : decode (mC mX11_way) 33 = .ok (.iconst (-1), 1) := by decide +kernel
theorem dX11_way_34 : decode (mC mX11_way) 34 = .ok (.ireturn, 1) := by decide +kernel
theorem dX11_way_35 : decode (mC mX11_way) 35 = .ok (.aload_n 0, 1) := by decide +kernel
theorem dX11_way_36 : decode (mC mX11_way) 36 = .ok (.bipush 99, 2) := by decide +kernel
theorem dX11_way_38 : decode (mC mX11_way) 38 = .ok (.invokevirtual 288, 3) := by decide +kernel
theorem dX11_way_41 : decode (mC mX11_way) 41 = .ok (.aload_n 0, 1) := by decide +kernel
theorem dX11_way_42 : decode (mC mX11_way) 42 = .ok (.invokevirtual 353, 3) := by decide +kernel
theorem dX11_way_45 : decode (mC mX11_way) 45 = .ok (.aload_n 0, 1) := by decide +kernel
theorem dX11_way_46 : decode (mC mX11_way) 46 = .ok (.iload_n 2, 1) := by decide +kernel
theorem dX11_way_47 : decode (mC mX11_way) 47 = .ok (.iload_n 3, 1) := by decide +kernel
theorem dX11_way_48 : decode (mC mX11_way) 48 = .ok (.iload 4, 2) := by decide +kernel
theorem dX11_way_50 : decode (mC mX11_way) 50 = .ok (.invokevirtual 356, 3) := by decide +kernel
theorem dX11_way_53 : decode (mC mX11_way) 53 = .ok (.ifCond .ne 5, 3) := by decide +kernel
theorem dX11_way_56 : decode (mC mX11_way) 56 = .ok (.iconst (-1), 1) := by decide +kernel
theorem dX11_way_57 : decode (mC mX11_way) 57 = .ok (.ireturn, 1) := by decide +kernel
theorem dX11_way_58 : decode (mC mX11_way) 58 = .ok (.iload 5, 2) := by decide +kernel
theorem dX11_way_60 : decode (mC mX11_way) 60 = .ok (.ifCond .ne 10, 3) := by decide +kernel
theorem dX11_way_63 : decode (mC mX11_way) 63 = .ok (.aload_n 0, 1) := by decide +kernel
theorem dX11_way_64 : decode (mC mX11_way) 64 = .ok (.getfield 341, 3) := by decide +kernel
theorem dX11_way_67 : decode (mC mX11_way) 67 = .ok (.goto 47, 3) := by decide +kernel
theorem dX11_way_70 : decode (mC mX11_way) 70 = .ok (.iload 5, 2) := by decide +kernel
theorem dX11_way_72 : decode (mC mX11_way) 72 = .ok (.iconst 1, 1) := by decide +kernel
theorem dX11_way_73 : decode (mC mX11_way) 73 = .ok (.if_icmp .ne 10, 3) := by decide +kernel
theorem dX11_way_76 : decode (mC mX11_way) 76 = .ok (.aload_n 0, 1) := by decide +kernel
theorem dX11_way_77 : decode (mC mX11_way) 77 = .ok (.getfield 344, 3) := by decide +kernel
theorem dX11_way_80 : decode (mC mX11_way) 80 = .ok (.goto 34, 3) := by decide +kernel
theorem dX11_way_83 : decode (mC mX11_way) 83 = .ok (.iload 5, 2) := by decide +kernel
theorem dX11_way_85 : decode (mC mX11_way) 85 = .ok (.bipush 10, 2) := by decide +kernel
theorem dX11_way_87 : decode (mC mX11_way) 87 = .ok (.bipush 9, 2) := by decide +kernel
theorem dX11_way_89 : decode (mC mX11_way) 89 = .ok (.aload_n 0, 1) := by decide +kernel
theorem dX11_way_90 : decode (mC mX11_way) 90 = .ok (.getfield 344, 3) := by decide +kernel
theorem dX11_way_93 : decode (mC mX11_way) 93 = .ok (.iadd, 1) := by decide +kernel
theorem dX11_way_94 : decode (mC mX11_way) 94 = .ok (.invokestatic 140, 3) := by decide +kernel
theorem dX11_way_97 : decode (mC mX11_way) 97 = .ok (.ifCond .eq 16, 3) := by decide +kernel
theorem dX11_way_100 : decode (mC mX11_way) 100 = .ok (.aload_n 0, 1) := by decide +kernel
theorem dX11_way_101 : decode (mC mX11_way) 101 = .ok (.getfield 65, 3) := by decide +kernel
theorem dX11_way_104 : decode (mC mX11_way) 104 = .ok (.iload 5, 2) := by decide +kernel
theorem dX11_way_106 : decode (mC mX11_way) 106 = .ok (.bipush 10, 2) := by decide +kernel
theorem dX11_way_108 : decode (mC mX11_way) 108 = .ok (.isub, 1) := by decide +kernel
theorem dX11_way_109 : decode (mC mX11_way) 109 = .ok (.iaload, 1) := by decide +kernel
theorem dX11_way_110 : decode (mC mX11_way) 110 = .ok (.goto 4, 3) := by decide +kernel
theorem dX11_way_113 : decode (mC mX11_way) 113 = .ok (.iconst (-1), 1) := by decide +kernel
theorem dX11_way_114 : decode (mC mX11_way) 114 = .ok (.ireturn, 1) := by decide +kernel
theorem dX11_errandOf_0 : decode (mC mX11_errandOf) 0 = .ok (.aload_n 0, 1) := by decide +kernel
theorem dX11_errandOf_1 : decode (mC mX11_errandOf) 1 = .ok (.bipush 105, 2) := by decide +kernel
theorem dX11_errandOf_3 : decode (mC mX11_errandOf) 3 = .ok (.iconst 3, 1) := by decide +kernel
theorem dX11_errandOf_4 : decode (mC mX11_errandOf) 4 = .ok (.iload_n 1, 1) := by decide +kernel
theorem dX11_errandOf_5 : decode (mC mX11_errandOf) 5 = .ok (.imul, 1) := by decide +kernel
theorem dX11_errandOf_6 : decode (mC mX11_errandOf) 6 = .ok (.iadd, 1) := by decide +kernel
theorem dX11_errandOf_7 : decode (mC mX11_errandOf) 7 = .ok (.iload_n 2, 1) := by decide +kernel
theorem dX11_errandOf_8 : decode (mC mX11_errandOf) 8 = .ok (.iadd, 1) := by decide +kernel
theorem dX11_errandOf_9 : decode (mC mX11_errandOf) 9 = .ok (.invokevirtual 209, 3) := by decide +kernel
theorem dX11_errandOf_12 : decode (mC mX11_errandOf) 12 = .ok (.ireturn, 1) := by decide +kernel
theorem dX11_lays_0 : decode (mC mX11_lays) 0 = .ok (.aload_n 0, 1) := by decide +kernel
theorem dX11_lays_1 : decode (mC mX11_lays) 1 = .ok (.getfield 344, 3) := by decide +kernel
theorem dX11_lays_4 : decode (mC mX11_lays) 4 = .ok (.ifCond .ne 4, 3) := by decide +kernel
theorem dX11_lays_7 : decode (mC mX11_lays) 7 = .ok (.return_, 1) := by decide +kernel
theorem dX11_lays_8 : decode (mC mX11_lays) 8 = .ok (.iload_n 1, 1) := by decide +kernel
theorem dX11_lays_9 : decode (mC mX11_lays) 9 = .ok (.istore_n 2, 1) := by decide +kernel
theorem dX11_lays_10 : decode (mC mX11_lays) 10 = .ok (.iconst 0, 1) := by decide +kernel
theorem dX11_lays_11 : decode (mC mX11_lays) 11 = .ok (.istore_n 3, 1) := by decide +kernel
theorem dX11_lays_12 : decode (mC mX11_lays) 12 = .ok (.iload_n 3, 1) := by decide +kernel
theorem dX11_lays_13 : decode (mC mX11_lays) 13 = .ok (.aload_n 0, 1) := by decide +kernel
theorem dX11_lays_14 : decode (mC mX11_lays) 14 = .ok (.getfield 344, 3) := by decide +kernel
theorem dX11_lays_17 : decode (mC mX11_lays) 17 = .ok (.if_icmp .gt 75, 3) := by decide +kernel
theorem dX11_lays_20 : decode (mC mX11_lays) 20 = .ok (.iload_n 3, 1) := by decide +kernel
theorem dX11_lays_21 : decode (mC mX11_lays) 21 = .ok (.ifCond .le 26, 3) := by decide +kernel
theorem dX11_lays_24 : decode (mC mX11_lays) 24 = .ok (.aload_n 0, 1) := by decide +kernel
theorem dX11_lays_25 : decode (mC mX11_lays) 25 = .ok (.iload_n 2, 1) := by decide +kernel
theorem dX11_lays_26 : decode (mC mX11_lays) 26 = .ok (.aload_n 0, 1) := by decide +kernel
theorem dX11_lays_27 : decode (mC mX11_lays) 27 = .ok (.getfield 65, 3) := by decide +kernel
theorem dX11_lays_30 : decode (mC mX11_lays) 30 = .ok (.iload_n 3, 1) := by decide +kernel
theorem dX11_lays_31 : decode (mC mX11_lays) 31 = .ok (.iconst 1, 1) := by decide +kernel
theorem dX11_lays_32 : decode (mC mX11_lays) 32 = .ok (.isub, 1) := by decide +kernel
theorem dX11_lays_33 : decode (mC mX11_lays) 33 = .ok (.iaload, 1) := by decide +kernel
theorem dX11_lays_34 : decode (mC mX11_lays) 34 = .ok (.aload_n 0, 1) := by decide +kernel
theorem dX11_lays_35 : decode (mC mX11_lays) 35 = .ok (.aload_n 0, 1) := by decide +kernel
theorem dX11_lays_36 : decode (mC mX11_lays) 36 = .ok (.getfield 327, 3) := by decide +kernel
theorem dX11_lays_39 : decode (mC mX11_lays) 39 = .ok (.iconst 1, 1) := by decide +kernel
theorem dX11_lays_40 : decode (mC mX11_lays) 40 = .ok (.invokevirtual 236, 3) := by decide +kernel
theorem dX11_lays_43 : decode (mC mX11_lays) 43 = .ok (.invokevirtual 251, 3) := by decide +kernel
theorem dX11_lays_46 : decode (mC mX11_lays) 46 = .ok (.istore_n 2, 1) := by decide +kernel
theorem dX11_lays_47 : decode (mC mX11_lays) 47 = .ok (.aload_n 0, 1) := by decide +kernel
theorem dX11_lays_48 : decode (mC mX11_lays) 48 = .ok (.getfield 68, 3) := by decide +kernel
theorem dX11_lays_51 : decode (mC mX11_lays) 51 = .ok (.iload_n 3, 1) := by decide +kernel
theorem dX11_lays_52 : decode (mC mX11_lays) 52 = .ok (.aload_n 0, 1) := by decide +kernel
theorem dX11_lays_53 : decode (mC mX11_lays) 53 = .ok (.iload_n 2, 1) := by decide +kernel
theorem dX11_lays_54 : decode (mC mX11_lays) 54 = .ok (.iload_n 3, 1) := by decide +kernel
theorem dX11_lays_55 : decode (mC mX11_lays) 55 = .ok (.iconst 2, 1) := by decide +kernel
theorem dX11_lays_56 : decode (mC mX11_lays) 56 = .ok (.irem, 1) := by decide +kernel
theorem dX11_lays_57 : decode (mC mX11_lays) 57 = .ok (.aload_n 0, 1) := by decide +kernel
theorem dX11_lays_58 : decode (mC mX11_lays) 58 = .ok (.getfield 65, 3) := by decide +kernel
theorem dX11_lays_61 : decode (mC mX11_lays) 61 = .ok (.iload_n 3, 1) := by decide +kernel
theorem dX11_lays_62 : decode (mC mX11_lays) 62 = .ok (.ifCond .ne 7, 3) := by decide +kernel
theorem dX11_lays_65 : decode (mC mX11_lays) 65 = .ok (.iconst 0, 1) := by decide +kernel
theorem dX11_lays_66 : decode (mC mX11_lays) 66 = .ok (.goto 6, 3) := by decide +kernel
theorem dX11_lays_69 : decode (mC mX11_lays) 69 = .ok (.iload_n 3, 1) := by decide +kernel
theorem dX11_lays_70 : decode (mC mX11_lays) 70 = .ok (.iconst 1, 1) := by decide +kernel
theorem dX11_lays_71 : decode (mC mX11_lays) 71 = .ok (.isub, 1) := by decide +kernel
theorem dX11_lays_72 : decode (mC mX11_lays) 72 = .ok (.iaload, 1) := by decide +kernel
theorem dX11_lays_73 : decode (mC mX11_lays) 73 = .ok (.invokevirtual 331, 3) := by decide +kernel
theorem dX11_lays_76 : decode (mC mX11_lays) 76 = .ok (.iconst 1, 1) := by decide +kernel
theorem dX11_lays_77 : decode (mC mX11_lays) 77 = .ok (.if_icmp .ne 7, 3) := by decide +kernel
theorem dX11_lays_80 : decode (mC mX11_lays) 80 = .ok (.iconst 1, 1) := by decide +kernel
theorem dX11_lays_81 : decode (mC mX11_lays) 81 = .ok (.goto 4, 3) := by decide +kernel
theorem dX11_lays_84 : decode (mC mX11_lays) 84 = .ok (.iconst 0, 1) := by decide +kernel
theorem dX11_lays_85 : decode (mC mX11_lays) 85 = .ok (.bastore, 1) := by decide +kernel
theorem dX11_lays_86 : decode (mC mX11_lays) 86 = .ok (.iinc 3 1, 3) := by decide +kernel
theorem dX11_lays_89 : decode (mC mX11_lays) 89 = .ok (.goto (-77), 3) := by decide +kernel
theorem dX11_lays_92 : decode (mC mX11_lays) 92 = .ok (.iload_n 1, 1) := by decide +kernel
theorem dX11_lays_93 : decode (mC mX11_lays) 93 = .ok (.istore_n 2, 1) := by decide +kernel
theorem dX11_lays_94 : decode (mC mX11_lays) 94 = .ok (.iconst 0, 1) := by decide +kernel
theorem dX11_lays_95 : decode (mC mX11_lays) 95 = .ok (.istore_n 3, 1) := by decide +kernel
theorem dX11_lays_96 : decode (mC mX11_lays) 96 = .ok (.iload_n 3, 1) := by decide +kernel
theorem dX11_lays_97 : decode (mC mX11_lays) 97 = .ok (.aload_n 0, 1) := by decide +kernel
theorem dX11_lays_98 : decode (mC mX11_lays) 98 = .ok (.getfield 344, 3) := by decide +kernel
theorem dX11_lays_101 : decode (mC mX11_lays) 101 = .ok (.if_icmp .gt 86, 3) := by decide +kernel
theorem dX11_lays_104 : decode (mC mX11_lays) 104 = .ok (.iload_n 3, 1) := by decide +kernel
theorem dX11_lays_105 : decode (mC mX11_lays) 105 = .ok (.ifCond .le 26, 3) := by decide +kernel
theorem dX11_lays_108 : decode (mC mX11_lays) 108 = .ok (.aload_n 0, 1) := by decide +kernel
theorem dX11_lays_109 : decode (mC mX11_lays) 109 = .ok (.iload_n 2, 1) := by decide +kernel
theorem dX11_lays_110 : decode (mC mX11_lays) 110 = .ok (.aload_n 0, 1) := by decide +kernel
theorem dX11_lays_111 : decode (mC mX11_lays) 111 = .ok (.getfield 65, 3) := by decide +kernel
theorem dX11_lays_114 : decode (mC mX11_lays) 114 = .ok (.iload_n 3, 1) := by decide +kernel
theorem dX11_lays_115 : decode (mC mX11_lays) 115 = .ok (.iconst 1, 1) := by decide +kernel
theorem dX11_lays_116 : decode (mC mX11_lays) 116 = .ok (.isub, 1) := by decide +kernel
theorem dX11_lays_117 : decode (mC mX11_lays) 117 = .ok (.iaload, 1) := by decide +kernel
theorem dX11_lays_118 : decode (mC mX11_lays) 118 = .ok (.aload_n 0, 1) := by decide +kernel
theorem dX11_lays_119 : decode (mC mX11_lays) 119 = .ok (.aload_n 0, 1) := by decide +kernel
theorem dX11_lays_120 : decode (mC mX11_lays) 120 = .ok (.getfield 327, 3) := by decide +kernel
theorem dX11_lays_123 : decode (mC mX11_lays) 123 = .ok (.iconst 1, 1) := by decide +kernel
theorem dX11_lays_124 : decode (mC mX11_lays) 124 = .ok (.invokevirtual 236, 3) := by decide +kernel
theorem dX11_lays_127 : decode (mC mX11_lays) 127 = .ok (.invokevirtual 251, 3) := by decide +kernel
theorem dX11_lays_130 : decode (mC mX11_lays) 130 = .ok (.istore_n 2, 1) := by decide +kernel
theorem dX11_lays_131 : decode (mC mX11_lays) 131 = .ok (.aload_n 0, 1) := by decide +kernel
theorem dX11_lays_132 : decode (mC mX11_lays) 132 = .ok (.getfield 68, 3) := by decide +kernel
theorem dX11_lays_135 : decode (mC mX11_lays) 135 = .ok (.iload_n 3, 1) := by decide +kernel
theorem dX11_lays_136 : decode (mC mX11_lays) 136 = .ok (.baload, 1) := by decide +kernel
theorem dX11_lays_137 : decode (mC mX11_lays) 137 = .ok (.ifCond .eq 44, 3) := by decide +kernel
theorem dX11_lays_140 : decode (mC mX11_lays) 140 = .ok (.aload_n 0, 1) := by decide +kernel
theorem dX11_lays_141 : decode (mC mX11_lays) 141 = .ok (.getfield 59, 3) := by decide +kernel
theorem dX11_lays_144 : decode (mC mX11_lays) 144 = .ok (.iload_n 2, 1) := by decide +kernel
theorem dX11_lays_145 : decode (mC mX11_lays) 145 = .ok (.bipush 8, 2) := by decide +kernel
theorem dX11_lays_147 : decode (mC mX11_lays) 147 = .ok (.aload_n 0, 1) := by decide +kernel
theorem dX11_lays_148 : decode (mC mX11_lays) 148 = .ok (.aload_n 0, 1) := by decide +kernel
theorem dX11_lays_149 : decode (mC mX11_lays) 149 = .ok (.getfield 327, 3) := by decide +kernel
theorem dX11_lays_152 : decode (mC mX11_lays) 152 = .ok (.iconst 0, 1) := by decide +kernel
theorem dX11_lays_153 : decode (mC mX11_lays) 153 = .ok (.invokevirtual 236, 3) := by decide +kernel
theorem dX11_lays_156 : decode (mC mX11_lays) 156 = .ok (.imul, 1) := by decide +kernel
theorem dX11_lays_157 : decode (mC mX11_lays) 157 = .ok (.iconst 4, 1) := by decide +kernel
theorem dX11_lays_158 : decode (mC mX11_lays) 158 = .ok (.iload_n 3, 1) := by decide +kernel
theorem dX11_lays_159 : decode (mC mX11_lays) 159 = .ok (.iconst 2, 1) := by decide +kernel
theorem dX11_lays_160 : decode (mC mX11_lays) 160 = .ok (.irem, 1) := by decide +kernel
theorem dX11_lays_161 : decode (mC mX11_lays) 161 = .ok (.imul, 1) := by decide +kernel
theorem dX11_lays_162 : decode (mC mX11_lays) 162 = .ok (.iadd, 1) := by decide +kernel
theorem dX11_lays_163 : decode (mC mX11_lays) 163 = .ok (.aload_n 0, 1) := by decide +kernel
theorem dX11_lays_164 : decode (mC mX11_lays) 164 = .ok (.getfield 65, 3) := by decide +kernel
theorem dX11_lays_167 : decode (mC mX11_lays) 167 = .ok (.iload_n 3, 1) := by decide +kernel
theorem dX11_lays_168 : decode (mC mX11_lays) 168 = .ok (.ifCond .ne 7, 3) := by decide +kernel
theorem dX11_lays_171 : decode (mC mX11_lays) 171 = .ok (.iconst 0, 1) := by decide +kernel
theorem dX11_lays_172 : decode (mC mX11_lays) 172 = .ok (.goto 6, 3) := by decide +kernel
theorem dX11_lays_175 : decode (mC mX11_lays) 175 = .ok (.iload_n 3, 1) := by decide +kernel
theorem dX11_lays_176 : decode (mC mX11_lays) 176 = .ok (.iconst 1, 1) := by decide +kernel
theorem dX11_lays_177 : decode (mC mX11_lays) 177 = .ok (.isub, 1) := by decide +kernel
theorem dX11_lays_178 : decode (mC mX11_lays) 178 = .ok (.iaload, 1) := by decide +kernel
theorem dX11_lays_179 : decode (mC mX11_lays) 179 = .ok (.iadd, 1) := by decide +kernel
theorem dX11_lays_180 : decode (mC mX11_lays) 180 = .ok (.iastore, 1) := by decide +kernel
theorem dX11_lays_181 : decode (mC mX11_lays) 181 = .ok (.iinc 3 1, 3) := by decide +kernel
theorem dX11_lays_184 : decode (mC mX11_lays) 184 = .ok (.goto (-88), 3) := by decide +kernel
theorem dX11_lays_187 : decode (mC mX11_lays) 187 = .ok (.return_, 1) := by decide +kernel
theorem dX11_toured_0 : decode (mC mX11_toured) 0 = .ok (.aload_n 0, 1) := by decide +kernel
theorem dX11_toured_1 : decode (mC mX11_toured) 1 = .ok (.iconst 4, 1) := by decide +kernel
theorem dX11_toured_2 : decode (mC mX11_toured) 2 = .ok (.invokevirtual 209, 3) := by decide +kernel
theorem dX11_toured_5 : decode (mC mX11_toured) 5 = .ok (.istore_n 2, 1) := by decide +kernel
theorem dX11_toured_6 : decode (mC mX11_toured) 6 = .ok (.iconst 1, 1) := by decide +kernel
theorem dX11_toured_7 : decode (mC mX11_toured) 7 = .ok (.istore_n 3, 1) := by decide +kernel
theorem dX11_toured_8 : decode (mC mX11_toured) 8 = .ok (.iconst 1, 1) := by decide +kernel
theorem dX11_toured_9 : decode (mC mX11_toured) 9 = .ok (.istore 4, 2) := by decide +kernel
theorem dX11_toured_11 : decode (mC mX11_toured) 11 = .ok (.iload 4, 2) := by decide +kernel
theorem dX11_toured_13 : decode (mC mX11_toured) 13 = .ok (.iload_n 2, 1) := by decide +kernel
theorem dX11_toured_14 : decode (mC mX11_toured) 14 = .ok (.if_icmp .ge 13, 3) := by decide +kernel
theorem dX11_toured_17 : decode (mC mX11_toured) 17 = .ok (.iload_n 3, 1) := by decide +kernel
theorem dX11_toured_18 : decode (mC mX11_toured) 18 = .ok (.iconst 5, 1) := by decide +kernel
theorem dX11_toured_19 : decode (mC mX11_toured) 19 = .ok (.imul, 1) := by decide +kernel
theorem dX11_toured_20 : decode (mC mX11_toured) 20 = .ok (.istore_n 3, 1) := by decide +kernel
theorem dX11_toured_21 : decode (mC mX11_toured) 21 = .ok (.iinc 4 1, 3) := by decide +kernel
theorem dX11_toured_24 : decode (mC mX11_toured) 24 = .ok (.goto (-13), 3) := by decide +kernel
theorem dX11_toured_27 : decode (mC mX11_toured) 27 = .ok (.iconst 0, 1) := by decide +kernel
theorem dX11_toured_28 : decode (mC mX11_toured) 28 = .ok (.istore 4, 2) := by decide +kernel
theorem dX11_toured_30 : decode (mC mX11_toured) 30 = .ok (.iload_n 3, 1) := by decide +kernel
theorem dX11_toured_31 : decode (mC mX11_toured) 31 = .ok (.istore 5, 2) := by decide +kernel
theorem dX11_toured_33 : decode (mC mX11_toured) 33 = .ok (.iload 5, 2) := by decide +kernel
theorem dX11_toured_35 : decode (mC mX11_toured) 35 = .ok (.ifCond .le 50, 3) := by decide +kernel
theorem dX11_toured_38 : decode (mC mX11_toured) 38 = .ok (.iload_n 1, 1) := by decide +kernel
theorem dX11_toured_39 : decode (mC mX11_toured) 39 = .ok (.iload 5, 2) := by decide +kernel
theorem dX11_toured_41 : decode (mC mX11_toured) 41 = .ok (.idiv, 1) := by decide +kernel
theorem dX11_toured_42 : decode (mC mX11_toured) 42 = .ok (.iconst 5, 1) := by decide +kernel
theorem dX11_toured_43 : decode (mC mX11_toured) 43 = .ok (.irem, 1) := by decide +kernel
theorem dX11_toured_44 : decode (mC mX11_toured) 44 = .ok (.istore 6, 2) := by decide +kernel
theorem dX11_toured_46 : decode (mC mX11_toured) 46 = .ok (.iload 6, 2) := by decide +kernel
theorem dX11_toured_48 : decode (mC mX11_toured) 48 = .ok (.iload_n 2, 1) := by decide +kernel
theorem dX11_toured_49 : decode (mC mX11_toured) 49 = .ok (.if_icmp .ge 14, 3) := by decide +kernel
theorem dX11_toured_52 : decode (mC mX11_toured) 52 = .ok (.iload 4, 2) := by decide +kernel
theorem dX11_toured_54 : decode (mC mX11_toured) 54 = .ok (.iload 6, 2) := by decide +kernel
theorem dX11_toured_56 : decode (mC mX11_toured) 56 = .ok (.ishr, 1) := by decide +kernel
theorem dX11_toured_57 : decode (mC mX11_toured) 57 = .ok (.iconst 1, 1) := by decide +kernel
theorem dX11_toured_58 : decode (mC mX11_toured) 58 = .ok (.iand, 1) := by decide +kernel
theorem dX11_toured_59 : decode (mC mX11_toured) 59 = .ok (.iconst 1, 1) := by decide +kernel
theorem dX11_toured_60 : decode (mC mX11_toured) 60 = .ok (.if_icmp .ne 7, 3) := by decide +kernel
theorem dX11_toured_63 : decode (mC mX11_toured) 63 = .ok (.ldc_w 330, 3) := by decide +kernel
theorem dX11_toured_66 : decode (mC mX11_toured) 66 = .ok (.ireturn, 1) := by decide +kernel
theorem dX11_toured_67 : decode (mC mX11_toured) 67 = .ok (.iload 4, 2) := by decide +kernel
theorem dX11_toured_69 : decode (mC mX11_toured) 69 = .ok (.iconst 1, 1) := by decide +kernel
theorem dX11_toured_70 : decode (mC mX11_toured) 70 = .ok (.iload 6, 2) := by decide +kernel
theorem dX11_toured_72 : decode (mC mX11_toured) 72 = .ok (.ishl, 1) := by decide +kernel
theorem dX11_toured_73 : decode (mC mX11_toured) 73 = .ok (.ior, 1) := by decide +kernel
theorem dX11_toured_74 : decode (mC mX11_toured) 74 = .ok (.istore 4, 2) := by decide +kernel
theorem dX11_toured_76 : decode (mC mX11_toured) 76 = .ok (.iload 5, 2) := by decide +kernel
theorem dX11_toured_78 : decode (mC mX11_toured) 78 = .ok (.iconst 5, 1) := by decide +kernel
theorem dX11_toured_79 : decode (mC mX11_toured) 79 = .ok (.idiv, 1) := by decide +kernel
theorem dX11_toured_80 : decode (mC mX11_toured) 80 = .ok (.istore 5, 2) := by decide +kernel
theorem dX11_toured_82 : decode (mC mX11_toured) 82 = .ok (.goto (-49), 3) := by decide +kernel
theorem dX11_toured_85 : decode (mC mX11_toured) 85 = .ok (.aload_n 0, 1) := by decide +kernel
theorem dX11_toured_86 : decode (mC mX11_toured) 86 = .ok (.invokevirtual 353, 3) := by decide +kernel
theorem dX11_toured_89 : decode (mC mX11_toured) 89 = .ok (.iconst 0, 1) := by decide +kernel
theorem dX11_toured_90 : decode (mC mX11_toured) 90 = .ok (.istore 5, 2) := by decide +kernel
theorem dX11_toured_92 : decode (mC mX11_toured) 92 = .ok (.aload_n 0, 1) := by decide +kernel
theorem dX11_toured_93 : decode (mC mX11_toured) 93 = .ok (.iconst 0, 1) := by decide +kernel
theorem dX11_toured_94 : decode (mC mX11_toured) 94 = .ok (.putfield 359, 3) := by decide +kernel
theorem dX11_toured_97 : decode (mC mX11_toured) 97 = .ok (.iload_n 3, 1) := by decide +kernel
theorem dX11_toured_98 : decode (mC mX11_toured) 98 = .ok (.istore 6, 2) := by decide +kernel
theorem dX11_toured_100 : decode (mC mX11_toured) 100 = .ok (.iload 6, 2) := by decide +kernel
theorem dX11_toured_102 : decode (mC mX11_toured) 102 = .ok (.ifCond .le 85, 3) := by decide +kernel
theorem dX11_toured_105 : decode (mC mX11_toured) 105 = .ok (.iload_n 1, 1) := by decide +kernel
theorem dX11_toured_106 : decode (mC mX11_toured) 106 = .ok (.iload 6, 2) := by decide +kernel
theorem dX11_toured_108 : decode (mC mX11_toured) 108 = .ok (.idiv, 1) := by decide +kernel
theorem dX11_toured_109 : decode (mC mX11_toured) 109 = .ok (.iconst 5, 1) := by decide +kernel
theorem dX11_toured_110 : decode (mC mX11_toured) 110 = .ok (.irem, 1) := by decide +kernel
theorem dX11_toured_111 : decode (mC mX11_toured) 111 = .ok (.istore 7, 2) := by decide +kernel
theorem dX11_toured_113 : decode (mC mX11_toured) 113 = .ok (.aload_n 0, 1) := by decide +kernel
theorem dX11_toured_114 : decode (mC mX11_toured) 114 = .ok (.aload_n 0, 1) := by decide +kernel
theorem dX11_toured_115 : decode (mC mX11_toured) 115 = .ok (.iload 7, 2) := by decide +kernel
theorem dX11_toured_117 : decode (mC mX11_toured) 117 = .ok (.iconst 0, 1) := by decide +kernel
theorem dX11_toured_118 : decode (mC mX11_toured) 118 = .ok (.invokevirtual 362, 3) := by decide +kernel
theorem dX11_toured_121 : decode (mC mX11_toured) 121 = .ok (.aload_n 0, 1) := by decide +kernel
theorem dX11_toured_122 : decode (mC mX11_toured) 122 = .ok (.iload 7, 2) := by decide +kernel
theorem dX11_toured_124 : decode (mC mX11_toured) 124 = .ok (.iconst 1, 1) := by decide +kernel
theorem dX11_toured_125 : decode (mC mX11_toured) 125 = .ok (.invokevirtual 362, 3) := by decide +kernel
theorem dX11_toured_128 : decode (mC mX11_toured) 128 = .ok (.aload_n 0, 1) := by decide +kernel
theorem dX11_toured_129 : decode (mC mX11_toured) 129 = .ok (.iload 7, 2) := by decide +kernel
theorem dX11_toured_131 : decode (mC mX11_toured) 131 = .ok (.iconst 2, 1) := by decide +kernel
theorem dX11_toured_132 : decode (mC mX11_toured) 132 = .ok (.invokevirtual 362, 3) := by decide +kernel
theorem dX11_toured_135 : decode (mC mX11_toured) 135 = .ok (.invokevirtual 356, 3) := by decide +kernel
theorem dX11_toured_138 : decode (mC mX11_toured) 138 = .ok (.ifCond .ne 7, 3) := by decide +kernel
theorem dX11_toured_141 : decode (mC mX11_toured) 141 = .ok (.ldc_w 330, 3) := by decide +kernel
theorem dX11_toured_144 : decode (mC mX11_toured) 144 = .ok (.ireturn, 1) := by decide +kernel
theorem dX11_toured_145 : decode (mC mX11_toured) 145 = .ok (.aload_n 0, 1) := by decide +kernel
theorem dX11_toured_146 : decode (mC mX11_toured) 146 = .ok (.aload_n 0, 1) := by decide +kernel
theorem dX11_toured_147 : decode (mC mX11_toured) 147 = .ok (.iload 7, 2) := by decide +kernel
theorem dX11_toured_149 : decode (mC mX11_toured) 149 = .ok (.iconst 1, 1) := by decide +kernel
theorem dX11_toured_150 : decode (mC mX11_toured) 150 = .ok (.invokevirtual 362, 3) := by decide +kernel
theorem dX11_toured_153 : decode (mC mX11_toured) 153 = .ok (.invokevirtual 365, 3) := by decide +kernel
theorem dX11_toured_156 : decode (mC mX11_toured) 156 = .ok (.iload 5, 2) := by decide +kernel
theorem dX11_toured_158 : decode (mC mX11_toured) 158 = .ok (.aload_n 0, 1) := by decide +kernel
theorem dX11_toured_159 : decode (mC mX11_toured) 159 = .ok (.getfield 341, 3) := by decide +kernel
theorem dX11_toured_162 : decode (mC mX11_toured) 162 = .ok (.iadd, 1) := by decide +kernel
theorem dX11_toured_163 : decode (mC mX11_toured) 163 = .ok (.istore 5, 2) := by decide +kernel
theorem dX11_toured_165 : decode (mC mX11_toured) 165 = .ok (.aload_n 0, 1) := by decide +kernel
theorem dX11_toured_166 : decode (mC mX11_toured) 166 = .ok (.dup, 1) := by decide +kernel
theorem dX11_toured_167 : decode (mC mX11_toured) 167 = .ok (.getfield 359, 3) := by decide +kernel
theorem dX11_toured_170 : decode (mC mX11_toured) 170 = .ok (.aload_n 0, 1) := by decide +kernel
theorem dX11_toured_171 : decode (mC mX11_toured) 171 = .ok (.getfield 344, 3) := by decide +kernel
theorem dX11_toured_174 : decode (mC mX11_toured) 174 = .ok (.iadd, 1) := by decide +kernel
theorem dX11_toured_175 : decode (mC mX11_toured) 175 = .ok (.putfield 359, 3) := by decide +kernel
theorem dX11_toured_178 : decode (mC mX11_toured) 178 = .ok (.iload 6, 2) := by decide +kernel
theorem dX11_toured_180 : decode (mC mX11_toured) 180 = .ok (.iconst 5, 1) := by decide +kernel
theorem dX11_toured_181 : decode (mC mX11_toured) 181 = .ok (.idiv, 1) := by decide +kernel
theorem dX11_toured_182 : decode (mC mX11_toured) 182 = .ok (.istore 6, 2) := by decide +kernel
theorem dX11_toured_184 : decode (mC mX11_toured) 184 = .ok (.goto (-84), 3) := by decide +kernel
theorem dX11_toured_187 : decode (mC mX11_toured) 187 = .ok (.iload 5, 2) := by decide +kernel
theorem dX11_toured_189 : decode (mC mX11_toured) 189 = .ok (.ireturn, 1) := by decide +kernel
theorem dX11_tour_0 : decode (mC mX11_tour) 0 = .ok (.aload_n 0, 1) := by decide +kernel
theorem dX11_tour_1 : decode (mC mX11_tour) 1 = .ok (.iload_n 1, 1) := by decide +kernel
theorem dX11_tour_2 : decode (mC mX11_tour) 2 = .ok (.invokevirtual 215, 3) := by decide +kernel
theorem dX11_tour_5 : decode (mC mX11_tour) 5 = .ok (.ifCond .ne 5, 3) := by decide +kernel
theorem dX11_tour_8 : decode (mC mX11_tour) 8 = .ok (.iconst (-1), 1) := by decide +kernel
theorem dX11_tour_9 : decode (mC mX11_tour) 9 = .ok (.ireturn, 1) := by decide +kernel
theorem dX11_tour_10 : decode (mC mX11_tour) 10 = .ok (.aload_n 0, 1) := by decide +kernel
theorem dX11_tour_11 : decode (mC mX11_tour) 11 = .ok (.iconst 4, 1) := by decide +kernel
theorem dX11_tour_12 : decode (mC mX11_tour) 12 = .ok (.invokevirtual 209, 3) := by decide +kernel
theorem dX11_tour_15 : decode (mC mX11_tour) 15 = .ok (.istore_n 3, 1) := by decide +kernel
theorem dX11_tour_16 : decode (mC mX11_tour) 16 = .ok (.iload_n 3, 1) := by decide +kernel
theorem dX11_tour_17 : decode (mC mX11_tour) 17 = .ok (.ifCond .ne 18, 3) := by decide +kernel
theorem dX11_tour_20 : decode (mC mX11_tour) 20 = .ok (.iload_n 2, 1) := by decide +kernel
theorem dX11_tour_21 : decode (mC mX11_tour) 21 = .ok (.ifCond .eq 8, 3) := by decide +kernel
theorem dX11_tour_24 : decode (mC mX11_tour) 24 = .ok (.iload_n 2, 1) := by decide +kernel
theorem dX11_tour_25 : decode (mC mX11_tour) 25 = .ok (.iconst 1, 1) := by decide +kernel
theorem dX11_tour_26 : decode (mC mX11_tour) 26 = .ok (.if_icmp .ne 7, 3) := by decide +kernel
theorem dX11_tour_29 : decode (mC mX11_tour) 29 = .ok (.iconst 0, 1) := by decide +kernel
theorem dX11_tour_30 : decode (mC mX11_tour) 30 = .ok (.goto 4, 3) := by decide +kernel
theorem dX11_tour_33 : decode (mC mX11_tour) 33 = .ok (.iconst (-1), 1) := by decide +kernel
theorem dX11_tour_34 : decode (mC mX11_tour) 34 = .ok (.ireturn, 1) := by decide +kernel
theorem dX11_tour_35 : decode (mC mX11_tour) 35 = .ok (.aload_n 0, 1) := by decide +kernel
theorem dX11_tour_36 : decode (mC mX11_tour) 36 = .ok (.bipush 99, 2) := by decide +kernel
theorem dX11_tour_38 : decode (mC mX11_tour) 38 = .ok (.invokevirtual 288, 3) := by decide +kernel
theorem dX11_tour_41 : decode (mC mX11_tour) 41 = .ok (.iconst 1, 1) := by decide +kernel
theorem dX11_tour_42 : decode (mC mX11_tour) 42 = .ok (.istore 4, 2) := by decide +kernel
theorem dX11_tour_44 : decode (mC mX11_tour) 44 = .ok (.iconst 0, 1) := by decide +kernel
theorem dX11_tour_45 : decode (mC mX11_tour) 45 = .ok (.istore 5, 2) := by decide +kernel
theorem dX11_tour_47 : decode (mC mX11_tour) 47 = .ok (.iload 5, 2) := by decide +kernel
theorem dX11_tour_49 : decode (mC mX11_tour) 49 = .ok (.iload_n 3, 1) := by decide +kernel
theorem dX11_tour_50 : decode (mC mX11_tour) 50 = .ok (.if_icmp .ge 15, 3) := by decide +kernel
theorem dX11_tour_53 : decode (mC mX11_tour) 53 = .ok (.iload 4, 2) := by decide +kernel
theorem dX11_tour_55 : decode (mC mX11_tour) 55 = .ok (.iconst 5, 1) := by decide +kernel
theorem dX11_tour_56 : decode (mC mX11_tour) 56 = .ok (.imul, 1) := by decide +kernel
theorem dX11_tour_57 : decode (mC mX11_tour) 57 = .ok (.istore 4, 2) := by decide +kernel
theorem dX11_tour_59 : decode (mC mX11_tour) 59 = .ok (.iinc 5 1, 3) := by decide +kernel
theorem dX11_tour_62 : decode (mC mX11_tour) 62 = .ok (.goto (-15), 3) := by decide +kernel
theorem dX11_tour_65 : decode (mC mX11_tour) 65 = .ok (.iconst (-1), 1) := by decide +kernel
theorem dX11_tour_66 : decode (mC mX11_tour) 66 = .ok (.istore 5, 2) := by decide +kernel
theorem dX11_tour_68 : decode (mC mX11_tour) 68 = .ok (.ldc_w 330, 3) := by decide +kernel
theorem dX11_tour_71 : decode (mC mX11_tour) 71 = .ok (.istore 6, 2) := by decide +kernel
theorem dX11_tour_73 : decode (mC mX11_tour) 73 = .ok (.iconst 0, 1) := by decide +kernel
theorem dX11_tour_74 : decode (mC mX11_tour) 74 = .ok (.istore 7, 2) := by decide +kernel
theorem dX11_tour_76 : decode (mC mX11_tour) 76 = .ok (.iconst 0, 1) := by decide +kernel
theorem dX11_tour_77 : decode (mC mX11_tour) 77 = .ok (.istore 8, 2) := by decide +kernel
theorem dX11_tour_79 : decode (mC mX11_tour) 79 = .ok (.iload 8, 2) := by decide +kernel
theorem dX11_tour_81 : decode (mC mX11_tour) 81 = .ok (.iload 4, 2) := by decide +kernel
theorem dX11_tour_83 : decode (mC mX11_tour) 83 = .ok (.if_icmp .ge 41, 3) := by decide +kernel
theorem dX11_tour_86 : decode (mC mX11_tour) 86 = .ok (.aload_n 0, 1) := by decide +kernel
theorem dX11_tour_87 : decode (mC mX11_tour) 87 = .ok (.iload 8, 2) := by decide +kernel
theorem dX11_tour_89 : decode (mC mX11_tour) 89 = .ok (.invokevirtual 368, 3) := by decide +kernel
theorem dX11_tour_92 : decode (mC mX11_tour) 92 = .ok (.istore 9, 2) := by decide +kernel
theorem dX11_tour_94 : decode (mC mX11_tour) 94 = .ok (.iload 9, 2) := by decide +kernel
theorem dX11_tour_96 : decode (mC mX11_tour) 96 = .ok (.iload 6, 2) := by decide +kernel
theorem dX11_tour_98 : decode (mC mX11_tour) 98 = .ok (.if_icmp .lt 6, 3) := by decide +kernel
theorem dX11_tour_101 : decode (mC mX11_tour) 101 = .ok (.goto 17, 3) := by decide +kernel
theorem dX11_tour_104 : decode (mC mX11_tour) 104 = .ok (.iload 8, 2) := by decide +kernel
theorem dX11_tour_106 : decode (mC mX11_tour) 106 = .ok (.istore 5, 2) := by decide +kernel
theorem dX11_tour_108 : decode (mC mX11_tour) 108 = .ok (.iload 9, 2) := by decide +kernel
theorem dX11_tour_110 : decode (mC mX11_tour) 110 = .ok (.istore 6, 2) := by decide +kernel
theorem dX11_tour_112 : decode (mC mX11_tour) 112 = .ok (.aload_n 0, 1) := by decide +kernel
theorem dX11_tour_113 : decode (mC mX11_tour) 113 = .ok (.getfield 359, 3) := by decide +kernel
theorem dX11_tour_116 : decode (mC mX11_tour) 116 = .ok (.istore 7, 2) := by decide +kernel
theorem dX11_tour_118 : decode (mC mX11_tour) 118 = .ok (.iinc 8 1, 3) := by decide +kernel
theorem dX11_tour_121 : decode (mC mX11_tour) 121 = .ok (.goto (-42), 3) := by decide +kernel
theorem dX11_tour_124 : decode (mC mX11_tour) 124 = .ok (.iload 5, 2) := by decide +kernel
theorem dX11_tour_126 : decode (mC mX11_tour) 126 = .ok (.ifCond .ge 5, 3) := by decide +kernel
theorem dX11_tour_129 : decode (mC mX11_tour) 129 = .ok (.iconst (-1), 1) := by decide +kernel
theorem dX11_tour_130 : decode (mC mX11_tour) 130 = .ok (.ireturn, 1) := by decide +kernel
theorem dX11_tour_131 : decode (mC mX11_tour) 131 = .ok (.iload_n 2, 1) := by decide +kernel
theorem dX11_tour_132 : decode (mC mX11_tour) 132 = .ok (.bipush 10, 2) := by decide +kernel
theorem dX11_tour_134 : decode (mC mX11_tour) 134 = .ok (.bipush 9, 2) := by decide +kernel
theorem dX11_tour_136 : decode (mC mX11_tour) 136 = .ok (.iload_n 3, 1) := by decide +kernel
theorem dX11_tour_137 : decode (mC mX11_tour) 137 = .ok (.iadd, 1) := by decide +kernel
theorem dX11_tour_138 : decode (mC mX11_tour) 138 = .ok (.invokestatic 140, 3) := by decide +kernel
theorem dX11_tour_141 : decode (mC mX11_tour) 141 = .ok (.ifCond .ne 24, 3) := by decide +kernel
theorem dX11_tour_144 : decode (mC mX11_tour) 144 = .ok (.iload_n 2, 1) := by decide +kernel
theorem dX11_tour_145 : decode (mC mX11_tour) 145 = .ok (.ifCond .ne 8, 3) := by decide +kernel
theorem dX11_tour_148 : decode (mC mX11_tour) 148 = .ok (.iload 6, 2) := by decide +kernel
theorem dX11_tour_150 : decode (mC mX11_tour) 150 = .ok (.goto 14, 3) := by decide +kernel
theorem dX11_tour_153 : decode (mC mX11_tour) 153 = .ok (.iload_n 2, 1) := by decide +kernel
theorem dX11_tour_154 : decode (mC mX11_tour) 154 = .ok (.iconst 1, 1) := by decide +kernel
theorem dX11_tour_155 : decode (mC mX11_tour) 155 = .ok (.if_icmp .ne 8, 3) := by decide +kernel
theorem dX11_tour_158 : decode (mC mX11_tour) 158 = .ok (.iload 7, 2) := by decide +kernel
theorem dX11_tour_160 : decode (mC mX11_tour) 160 = .ok (.goto 4, 3) := by decide +kernel
theorem dX11_tour_163 : decode (mC mX11_tour) 163 = .ok (.iconst (-1), 1) := by decide +kernel
theorem dX11_tour_164 : decode (mC mX11_tour) 164 = .ok (.ireturn, 1) := by decide +kernel
theorem dX11_tour_165 : decode (mC mX11_tour) 165 = .ok (.iload_n 3, 1) := by decide +kernel
theorem dX11_tour_166 : decode (mC mX11_tour) 166 = .ok (.iconst 1, 1) := by decide +kernel
theorem dX11_tour_167 : decode (mC mX11_tour) 167 = .ok (.isub, 1) := by decide +kernel
theorem dX11_tour_168 : decode (mC mX11_tour) 168 = .ok (.istore 8, 2) := by decide +kernel
theorem dX11_tour_170 : decode (mC mX11_tour) 170 = .ok (.iload 8, 2) := by decide +kernel
theorem dX11_tour_172 : decode (mC mX11_tour) 172 = .ok (.iload_n 2, 1) := by decide +kernel
theorem dX11_tour_173 : decode (mC mX11_tour) 173 = .ok (.bipush 10, 2) := by decide +kernel
theorem dX11_tour_175 : decode (mC mX11_tour) 175 = .ok (.isub, 1) := by decide +kernel
theorem dX11_tour_176 : decode (mC mX11_tour) 176 = .ok (.if_icmp .le 15, 3) := by decide +kernel
theorem dX11_tour_179 : decode (mC mX11_tour) 179 = .ok (.iload 5, 2) := by decide +kernel
theorem dX11_tour_181 : decode (mC mX11_tour) 181 = .ok (.iconst 5, 1) := by decide +kernel
theorem dX11_tour_182 : decode (mC mX11_tour) 182 = .ok (.idiv, 1) := by decide +kernel
theorem dX11_tour_183 : decode (mC mX11_tour) 183 = .ok (.istore 5, 2) := by decide +kernel
theorem dX11_tour_185 : decode (mC mX11_tour) 185 = .ok (.iinc 8 (-1), 3) := by decide +kernel
theorem dX11_tour_188 : decode (mC mX11_tour) 188 = .ok (.goto (-18), 3) := by decide +kernel
theorem dX11_tour_191 : decode (mC mX11_tour) 191 = .ok (.iload 5, 2) := by decide +kernel
theorem dX11_tour_193 : decode (mC mX11_tour) 193 = .ok (.iconst 5, 1) := by decide +kernel
theorem dX11_tour_194 : decode (mC mX11_tour) 194 = .ok (.irem, 1) := by decide +kernel
theorem dX11_tour_195 : decode (mC mX11_tour) 195 = .ok (.ireturn, 1) := by decide +kernel
theorem dX11_signs_0 : decode (mC mX11_signs) 0 = .ok (.aload_n 0, 1) := by decide +kernel
theorem dX11_signs_1 : decode (mC mX11_signs) 1 = .ok (.getfield 7, 3) := by decide +kernel
theorem dX11_signs_4 : decode (mC mX11_signs) 4 = .ok (.aload_n 0, 1) := by decide +kernel
theorem dX11_signs_5 : decode (mC mX11_signs) 5 = .ok (.getfield 371, 3) := by decide +kernel
theorem dX11_signs_8 : decode (mC mX11_signs) 8 = .ok (.iaload, 1) := by decide +kernel
theorem dX11_signs_9 : decode (mC mX11_signs) 9 = .ok (.ireturn, 1) := by decide +kernel
theorem dX11_signOf_0 : decode (mC mX11_signOf) 0 = .ok (.aload_n 0, 1) := by decide +kernel
theorem dX11_signOf_1 : decode (mC mX11_signOf) 1 = .ok (.getfield 7, 3) := by decide +kernel
theorem dX11_signOf_4 : decode (mC mX11_signOf) 4 = .ok (.aload_n 0, 1) := by decide +kernel
theorem dX11_signOf_5 : decode (mC mX11_signOf) 5 = .ok (.getfield 371, 3) := by decide +kernel
theorem dX11_signOf_8 : decode (mC mX11_signOf) 8 = .ok (.iconst 1, 1) := by decide +kernel
theorem dX11_signOf_9 : decode (mC mX11_signOf) 9 = .ok (.iadd, 1) := by decide +kernel
theorem dX11_signOf_10 : decode (mC mX11_signOf) 10 = .ok (.iconst 5, 1) := by decide +kernel
theorem dX11_signOf_11 : decode (mC mX11_signOf) 11 = .ok (.iload_n 1, 1) := by decide +kernel
theorem dX11_signOf_12 : decode (mC mX11_signOf) 12 = .ok (.imul, 1) := by decide +kernel
theorem dX11_signOf_13 : decode (mC mX11_signOf) 13 = .ok (.iadd, 1) := by decide +kernel
theorem dX11_signOf_14 : decode (mC mX11_signOf) 14 = .ok (.iload_n 2, 1) := by decide +kernel
theorem dX11_signOf_15 : decode (mC mX11_signOf) 15 = .ok (.iadd, 1) := by decide +kernel
theorem dX11_signOf_16 : decode (mC mX11_signOf) 16 = .ok (.iaload, 1) := by decide +kernel
theorem dX11_signOf_17 : decode (mC mX11_signOf) 17 = .ok (.ireturn, 1) := by decide +kernel
theorem dX11_sign_0 : decode (mC mX11_sign) 0 = .ok (.aload_n 0, 1) := by decide +kernel
theorem dX11_sign_1 : decode (mC mX11_sign) 1 = .ok (.iconst 1, 1) := by decide +kernel
theorem dX11_sign_2 : decode (mC mX11_sign) 2 = .ok (.iload_n 1, 1) := by decide +kernel
theorem dX11_sign_3 : decode (mC mX11_sign) 3 = .ok (.invokevirtual 187, 3) := by decide +kernel
theorem dX11_sign_6 : decode (mC mX11_sign) 6 = .ok (.ifCond .ne 6, 3) := by decide +kernel
theorem dX11_sign_9 : decode (mC mX11_sign) 9 = .ok (.bipush (-2), 2) := by decide +kernel
theorem dX11_sign_11 : decode (mC mX11_sign) 11 = .ok (.ireturn, 1) := by decide +kernel
theorem dX11_sign_12 : decode (mC mX11_sign) 12 = .ok (.aload_n 0, 1) := by decide +kernel
theorem dX11_sign_13 : decode (mC mX11_sign) 13 = .ok (.iconst 1, 1) := by decide +kernel
theorem dX11_sign_14 : decode (mC mX11_sign) 14 = .ok (.iload_n 1, 1) := by decide +kernel
theorem dX11_sign_15 : decode (mC mX11_sign) 15 = .ok (.invokestatic 200, 3) := by decide +kernel
theorem dX11_sign_18 : decode (mC mX11_sign) 18 = .ok (.putfield 371, 3) := by decide +kernel
theorem dX11_sign_21 : decode (mC mX11_sign) 21 = .ok (.iload_n 2, 1) := by decide +kernel
theorem dX11_sign_22 : decode (mC mX11_sign) 22 = .ok (.iconst (-1), 1) := by decide +kernel
theorem dX11_sign_23 : decode (mC mX11_sign) 23 = .ok (.if_icmp .ne 17, 3) := by decide +kernel
theorem dX11_sign_26 : decode (mC mX11_sign) 26 = .ok (.iload_n 3, 1) := by decide +kernel
theorem dX11_sign_27 : decode (mC mX11_sign) 27 = .ok (.ifCond .ne 10, 3) := by decide +kernel
theorem dX11_sign_30 : decode (mC mX11_sign) 30 = .ok (.aload_n 0, 1) := by decide +kernel
theorem dX11_sign_31 : decode (mC mX11_sign) 31 = .ok (.invokevirtual 374, 3) := by decide +kernel
theorem dX11_sign_34 : decode (mC mX11_sign) 34 = .ok (.goto 5, 3) := by decide +kernel
theorem dX11_sign_37 : decode (mC mX11_sign) 37 = .ok (.bipush (-2), 2) := by decide +kernel
theorem dX11_sign_39 : decode (mC mX11_sign) 39 = .ok (.ireturn, 1) := by decide +kernel
theorem dX11_sign_40 : decode (mC mX11_sign) 40 = .ok (.iload_n 2, 1) := by decide +kernel
theorem dX11_sign_41 : decode (mC mX11_sign) 41 = .ok (.iconst 0, 1) := by decide +kernel
theorem dX11_sign_42 : decode (mC mX11_sign) 42 = .ok (.aload_n 0, 1) := by decide +kernel
theorem dX11_sign_43 : decode (mC mX11_sign) 43 = .ok (.invokevirtual 374, 3) := by decide +kernel
theorem dX11_sign_46 : decode (mC mX11_sign) 46 = .ok (.iconst 1, 1) := by decide +kernel
theorem dX11_sign_47 : decode (mC mX11_sign) 47 = .ok (.isub, 1) := by decide +kernel
theorem dX11_sign_48 : decode (mC mX11_sign) 48 = .ok (.invokestatic 140, 3) := by decide +kernel
theorem dX11_sign_51 : decode (mC mX11_sign) 51 = .ok (.ifCond .eq 21, 3) := by decide +kernel
theorem dX11_sign_54 : decode (mC mX11_sign) 54 = .ok (.iload_n 3, 1) := by decide +kernel
theorem dX11_sign_55 : decode (mC mX11_sign) 55 = .ok (.iconst 0, 1) := by decide +kernel
theorem dX11_sign_56 : decode (mC mX11_sign) 56 = .ok (.iconst 4, 1) := by decide +kernel
theorem dX11_sign_57 : decode (mC mX11_sign) 57 = .ok (.invokestatic 140, 3) := by decide +kernel
theorem dX11_sign_60 : decode (mC mX11_sign) 60 = .ok (.ifCond .eq 12, 3) := by decide +kernel
theorem dX11_sign_63 : decode (mC mX11_sign) 63 = .ok (.aload_n 0, 1) := by decide +kernel
theorem dX11_sign_64 : decode (mC mX11_sign) 64 = .ok (.iload_n 2, 1) := by decide +kernel
theorem dX11_sign_65 : decode (mC mX11_sign) 65 = .ok (.iload_n 3, 1) := by decide +kernel
theorem dX11_sign_66 : decode (mC mX11_sign) 66 = .ok (.invokevirtual 377, 3) := by decide +kernel
theorem dX11_sign_69 : decode (mC mX11_sign) 69 = .ok (.goto 5, 3) := by decide +kernel
theorem dX11_sign_72 : decode (mC mX11_sign) 72 = .ok (.bipush (-2), 2) := by decide +kernel
theorem dX11_sign_74 : decode (mC mX11_sign) 74 = .ok (.ireturn, 1) := by decide +kernel
theorem dX11_areRead_0 : decode (mC mX11_areRead) 0 = .ok (.aload_n 0, 1) := by decide +kernel
theorem dX11_areRead_1 : decode (mC mX11_areRead) 1 = .ok (.iload_n 1, 1) := by decide +kernel
theorem dX11_areRead_2 : decode (mC mX11_areRead) 2 = .ok (.invokevirtual 215, 3) := by decide +kernel
theorem dX11_areRead_5 : decode (mC mX11_areRead) 5 = .ok (.ifCond .eq 12, 3) := by decide +kernel
theorem dX11_areRead_8 : decode (mC mX11_areRead) 8 = .ok (.aload_n 0, 1) := by decide +kernel
theorem dX11_areRead_9 : decode (mC mX11_areRead) 9 = .ok (.iconst 1, 1) := by decide +kernel
theorem dX11_areRead_10 : decode (mC mX11_areRead) 10 = .ok (.iload_n 2, 1) := by decide +kernel
theorem dX11_areRead_11 : decode (mC mX11_areRead) 11 = .ok (.invokevirtual 187, 3) := by decide +kernel
theorem dX11_areRead_14 : decode (mC mX11_areRead) 14 = .ok (.ifCond .ne 5, 3) := by decide +kernel
theorem dX11_areRead_17 : decode (mC mX11_areRead) 17 = .ok (.iconst 0, 1) := by decide +kernel
theorem dX11_areRead_18 : decode (mC mX11_areRead) 18 = .ok (.ireturn, 1) := by decide +kernel
theorem dX11_areRead_19 : decode (mC mX11_areRead) 19 = .ok (.aload_n 0, 1) := by decide +kernel
theorem dX11_areRead_20 : decode (mC mX11_areRead) 20 = .ok (.iconst 1, 1) := by decide +kernel
theorem dX11_areRead_21 : decode (mC mX11_areRead) 21 = .ok (.iload_n 2, 1) := by decide +kernel
theorem dX11_areRead_22 : decode (mC mX11_areRead) 22 = .ok (.invokestatic 200, 3) := by decide +kernel
theorem dX11_areRead_25 : decode (mC mX11_areRead) 25 = .ok (.putfield 371, 3) := by decide +kernel
theorem dX11_areRead_28 : decode (mC mX11_areRead) 28 = .ok (.iconst 1, 1) := by decide +kernel
theorem dX11_areRead_29 : decode (mC mX11_areRead) 29 = .ok (.ireturn, 1) := by decide +kernel
theorem dX11_isDepth_0 : decode (mC mX11_isDepth) 0 = .ok (.iconst 0, 1) := by decide +kernel
theorem dX11_isDepth_1 : decode (mC mX11_isDepth) 1 = .ok (.istore 4, 2) := by decide +kernel
theorem dX11_isDepth_3 : decode (mC mX11_isDepth) 3 = .ok (.iconst 0, 1) := by decide +kernel
theorem dX11_isDepth_4 : decode (mC mX11_isDepth) 4 = .ok (.istore 5, 2) := by decide +kernel
theorem dX11_isDepth_6 : decode (mC mX11_isDepth) 6 = .ok (.iload 5, 2) := by decide +kernel
theorem dX11_isDepth_8 : decode (mC mX11_isDepth) 8 = .ok (.aload_n 0, 1) := by decide +kernel
theorem dX11_isDepth_9 : decode (mC mX11_isDepth) 9 = .ok (.invokevirtual 212, 3) := by decide +kernel
theorem dX11_isDepth_12 : decode (mC mX11_isDepth) 12 = .ok (.if_icmp .ge 80, 3) := by decide +kernel
theorem dX11_isDepth_15 : decode (mC mX11_isDepth) 15 = .ok (.aload_n 0, 1) := by decide +kernel
theorem dX11_isDepth_16 : decode (mC mX11_isDepth) 16 = .ok (.iload_n 1, 1) := by decide +kernel
theorem dX11_isDepth_17 : decode (mC mX11_isDepth) 17 = .ok (.iconst 2, 1) := by decide +kernel
theorem dX11_isDepth_18 : decode (mC mX11_isDepth) 18 = .ok (.invokevirtual 236, 3) := by decide +kernel
theorem dX11_isDepth_21 : decode (mC mX11_isDepth) 21 = .ok (.aload_n 0, 1) := by decide +kernel
theorem dX11_isDepth_22 : decode (mC mX11_isDepth) 22 = .ok (.iconst 2, 1) := by decide +kernel
theorem dX11_isDepth_23 : decode (mC mX11_isDepth) 23 = .ok (.invokevirtual 209, 3) := by decide +kernel
theorem dX11_isDepth_26 : decode (mC mX11_isDepth) 26 = .ok (.iadd, 1) := by decide +kernel
theorem dX11_isDepth_27 : decode (mC mX11_isDepth) 27 = .ok (.iload 5, 2) := by decide +kernel
theorem dX11_isDepth_29 : decode (mC mX11_isDepth) 29 = .ok (.iload_n 1, 1) := by decide +kernel
theorem dX11_isDepth_30 : decode (mC mX11_isDepth) 30 = .ok (.if_icmp .ne 7, 3) := by decide +kernel
theorem dX11_isDepth_33 : decode (mC mX11_isDepth) 33 = .ok (.iconst 0, 1) := by decide +kernel
theorem dX11_isDepth_34 : decode (mC mX11_isDepth) 34 = .ok (.goto 10, 3) := by decide +kernel
theorem dX11_isDepth_37 : decode (mC mX11_isDepth) 37 = .ok (.aload_n 0, 1) := by decide +kernel
theorem dX11_isDepth_38 : decode (mC mX11_isDepth) 38 = .ok (.iload 5, 2) := by decide +kernel
theorem dX11_isDepth_40 : decode (mC mX11_isDepth) 40 = .ok (.iconst 2, 1) := by decide +kernel
theorem dX11_isDepth_41 : decode (mC mX11_isDepth) 41 = .ok (.invokevirtual 236, 3) := by decide +kernel
theorem dX11_isDepth_44 : decode (mC mX11_isDepth) 44 = .ok (.iadd, 1) := by decide +kernel
theorem dX11_isDepth_45 : decode (mC mX11_isDepth) 45 = .ok (.istore 6, 2) := by decide +kernel
theorem dX11_isDepth_47 : decode (mC mX11_isDepth) 47 = .ok (.iload 4, 2) := by decide +kernel
theorem dX11_isDepth_49 : decode (mC mX11_isDepth) 49 = .ok (.ifCond .ne 30, 3) := by decide +kernel
theorem dX11_isDepth_52 : decode (mC mX11_isDepth) 52 = .ok (.aload_n 0, 1) := by decide +kernel
theorem dX11_isDepth_53 : decode (mC mX11_isDepth) 53 = .ok (.iload_n 1, 1) := by decide +kernel
theorem dX11_isDepth_54 : decode (mC mX11_isDepth) 54 = .ok (.iconst 3, 1) := by decide +kernel
theorem dX11_isDepth_55 : decode (mC mX11_isDepth) 55 = .ok (.invokevirtual 236, 3) := by decide +kernel
theorem dX11_isDepth_58 : decode (mC mX11_isDepth) 58 = .ok (.iload_n 2, 1) := by decide +kernel
theorem dX11_isDepth_59 : decode (mC mX11_isDepth) 59 = .ok (.iconst 1, 1) := by decide +kernel
theorem dX11_isDepth_60 : decode (mC mX11_isDepth) 60 = .ok (.iadd, 1) := by decide +kernel
theorem dX11_isDepth_61 : decode (mC mX11_isDepth) 61 = .ok (.if_icmp .ne 12, 3) := by decide +kernel
theorem dX11_isDepth_64 : decode (mC mX11_isDepth) 64 = .ok (.aload_n 0, 1) := by decide +kernel
theorem dX11_isDepth_65 : decode (mC mX11_isDepth) 65 = .ok (.iload 6, 2) := by decide +kernel
theorem dX11_isDepth_67 : decode (mC mX11_isDepth) 67 = .ok (.invokevirtual 261, 3) := by decide +kernel
theorem dX11_isDepth_70 : decode (mC mX11_isDepth) 70 = .ok (.goto 5, 3) := by decide +kernel
theorem dX11_isDepth_73 : decode (mC mX11_isDepth) 73 = .ok (.iload 6, 2) := by decide +kernel
theorem dX11_isDepth_75 : decode (mC mX11_isDepth) 75 = .ok (.iload_n 3, 1) := by decide +kernel
theorem dX11_isDepth_76 : decode (mC mX11_isDepth) 76 = .ok (.if_icmp .ne 7, 3) := by decide +kernel
theorem dX11_isDepth_79 : decode (mC mX11_isDepth) 79 = .ok (.iconst 1, 1) := by decide +kernel
theorem dX11_isDepth_80 : decode (mC mX11_isDepth) 80 = .ok (.goto 4, 3) := by decide +kernel
theorem dX11_isDepth_83 : decode (mC mX11_isDepth) 83 = .ok (.iconst 0, 1) := by decide +kernel
theorem dX11_isDepth_84 : decode (mC mX11_isDepth) 84 = .ok (.istore 4, 2) := by decide +kernel
theorem dX11_isDepth_86 : decode (mC mX11_isDepth) 86 = .ok (.iinc 5 1, 3) := by decide +kernel
theorem dX11_isDepth_89 : decode (mC mX11_isDepth) 89 = .ok (.goto (-83), 3) := by decide +kernel
theorem dX11_isDepth_92 : decode (mC mX11_isDepth) 92 = .ok (.iload 4, 2) := by decide +kernel
theorem dX11_isDepth_94 : decode (mC mX11_isDepth) 94 = .ok (.ireturn, 1) := by decide +kernel
theorem dX11_makersOf_0 : decode (mC mX11_makersOf) 0 = .ok (.iconst 0, 1) := by decide +kernel
theorem dX11_makersOf_1 : decode (mC mX11_makersOf) 1 = .ok (.istore_n 2, 1) := by decide +kernel
theorem dX11_makersOf_2 : decode (mC mX11_makersOf) 2 = .ok (.iconst 0, 1) := by decide +kernel
theorem dX11_makersOf_3 : decode (mC mX11_makersOf) 3 = .ok (.istore_n 3, 1) := by decide +kernel
theorem dX11_makersOf_4 : decode (mC mX11_makersOf) 4 = .ok (.iload_n 3, 1) := by decide +kernel
theorem dX11_makersOf_5 : decode (mC mX11_makersOf) 5 = .ok (.aload_n 0, 1) := by decide +kernel
theorem dX11_makersOf_6 : decode (mC mX11_makersOf) 6 = .ok (.invokevirtual 212, 3) := by decide +kernel
theorem dX11_makersOf_9 : decode (mC mX11_makersOf) 9 = .ok (.if_icmp .ge 77, 3) := by decide +kernel
theorem dX11_makersOf_12 : decode (mC mX11_makersOf) 12 = .ok (.aload_n 0, 1) := by decide +kernel
theorem dX11_makersOf_13 : decode (mC mX11_makersOf) 13 = .ok (.iload_n 1, 1) := by decide +kernel
theorem dX11_makersOf_14 : decode (mC mX11_makersOf) 14 = .ok (.iconst 1, 1) := by decide +kernel
theorem dX11_makersOf_15 : decode (mC mX11_makersOf) 15 = .ok (.invokevirtual 377, 3) := by decide +kernel
theorem dX11_makersOf_18 : decode (mC mX11_makersOf) 18 = .ok (.bipush 6, 2) := by decide +kernel
theorem dX11_makersOf_20 : decode (mC mX11_makersOf) 20 = .ok (.if_icmp .eq 18, 3) := by decide +kernel
theorem dX11_makersOf_23 : decode (mC mX11_makersOf) 23 = .ok (.aload_n 0, 1) := by decide +kernel
theorem dX11_makersOf_24 : decode (mC mX11_makersOf) 24 = .ok (.iload_n 1, 1) := by decide +kernel
theorem dX11_makersOf_25 : decode (mC mX11_makersOf) 25 = .ok (.iconst 1, 1) := by decide +kernel
theorem dX11_makersOf_26 : decode (mC mX11_makersOf) 26 = .ok (.invokevirtual 377, 3) := by decide +kernel
theorem dX11_makersOf_29 : decode (mC mX11_makersOf) 29 = .ok (.aload_n 0, 1) := by decide +kernel
theorem dX11_makersOf_30 : decode (mC mX11_makersOf) 30 = .ok (.iload_n 3, 1) := by decide +kernel
theorem dX11_makersOf_31 : decode (mC mX11_makersOf) 31 = .ok (.iconst 0, 1) := by decide +kernel
theorem dX11_makersOf_32 : decode (mC mX11_makersOf) 32 = .ok (.invokevirtual 236, 3) := by decide +kernel
theorem dX11_makersOf_35 : decode (mC mX11_makersOf) 35 = .ok (.if_icmp .ne 27, 3) := by decide +kernel
theorem dX11_makersOf_38 : decode (mC mX11_makersOf) 38 = .ok (.aload_n 0, 1) := by decide +kernel
theorem dX11_makersOf_39 : decode (mC mX11_makersOf) 39 = .ok (.iload_n 3, 1) := by decide +kernel
theorem dX11_makersOf_40 : decode (mC mX11_makersOf) 40 = .ok (.aload_n 0, 1) := by decide +kernel
theorem dX11_makersOf_41 : decode (mC mX11_makersOf) 41 = .ok (.iload_n 1, 1) := by decide +kernel
theorem dX11_makersOf_42 : decode (mC mX11_makersOf) 42 = .ok (.iconst 2, 1) := by decide +kernel
theorem dX11_makersOf_43 : decode (mC mX11_makersOf) 43 = .ok (.invokevirtual 377, 3) := by decide +kernel
theorem dX11_makersOf_46 : decode (mC mX11_makersOf) 46 = .ok (.aload_n 0, 1) := by decide +kernel
theorem dX11_makersOf_47 : decode (mC mX11_makersOf) 47 = .ok (.iload_n 1, 1) := by decide +kernel
theorem dX11_makersOf_48 : decode (mC mX11_makersOf) 48 = .ok (.iconst 4, 1) := by decide +kernel
theorem dX11_makersOf_49 : decode (mC mX11_makersOf) 49 = .ok (.invokevirtual 377, 3) := by decide +kernel
theorem dX11_makersOf_52 : decode (mC mX11_makersOf) 52 = .ok (.invokevirtual 380, 3) := by decide +kernel
theorem dX11_makersOf_55 : decode (mC mX11_makersOf) 55 = .ok (.ifCond .eq 7, 3) := by decide +kernel
theorem dX11_makersOf_58 : decode (mC mX11_makersOf) 58 = .ok (.iconst 1, 1) := by decide +kernel
theorem dX11_makersOf_59 : decode (mC mX11_makersOf) 59 = .ok (.goto 4, 3) := by decide +kernel
theorem dX11_makersOf_62 : decode (mC mX11_makersOf) 62 = .ok (.iconst 0, 1) := by decide +kernel
theorem dX11_makersOf_63 : decode (mC mX11_makersOf) 63 = .ok (.istore 4, 2) := by decide +kernel
theorem dX11_makersOf_65 : decode (mC mX11_makersOf) 65 = .ok (.iload_n 2, 1) := by decide +kernel
theorem dX11_makersOf_66 : decode (mC mX11_makersOf) 66 = .ok (.iload 4, 2) := by decide +kernel
theorem dX11_makersOf_68 : decode (mC mX11_makersOf) 68 = .ok (.ifCond .eq 9, 3) := by decide +kernel
theorem dX11_makersOf_71 : decode (mC mX11_makersOf) 71 = .ok (.iconst 1, 1) := by decide +kernel
theorem dX11_makersOf_72 : decode (mC mX11_makersOf) 72 = .ok (.iload_n 3, 1) := by decide +kernel
theorem dX11_makersOf_73 : decode (mC mX11_makersOf) 73 = .ok (.ishl, 1) := by decide +kernel
theorem dX11_makersOf_74 : decode (mC mX11_makersOf) 74 = .ok (.goto 4, 3) := by decide +kernel
theorem dX11_makersOf_77 : decode (mC mX11_makersOf) 77 = .ok (.iconst 0, 1) := by decide +kernel
theorem dX11_makersOf_78 : decode (mC mX11_makersOf) 78 = .ok (.ior, 1) := by decide +kernel
theorem dX11_makersOf_79 : decode (mC mX11_makersOf) 79 = .ok (.istore_n 2, 1) := by decide +kernel
theorem dX11_makersOf_80 : decode (mC mX11_makersOf) 80 = .ok (.iinc 3 1, 3) := by decide +kernel
theorem dX11_makersOf_83 : decode (mC mX11_makersOf) 83 = .ok (.goto (-79), 3) := by decide +kernel
theorem dX11_makersOf_86 : decode (mC mX11_makersOf) 86 = .ok (.iload_n 2, 1) := by decide +kernel
theorem dX11_makersOf_87 : decode (mC mX11_makersOf) 87 = .ok (.ireturn, 1) := by decide +kernel
theorem dX11_makers_0 : decode (mC mX11_makers) 0 = .ok (.aload_n 0, 1) := by decide +kernel
theorem dX11_makers_1 : decode (mC mX11_makers) 1 = .ok (.iload_n 1, 1) := by decide +kernel
theorem dX11_makers_2 : decode (mC mX11_makers) 2 = .ok (.iload_n 2, 1) := by decide +kernel
theorem dX11_makers_3 : decode (mC mX11_makers) 3 = .ok (.invokevirtual 383, 3) := by decide +kernel
theorem dX11_makers_6 : decode (mC mX11_makers) 6 = .ok (.ifCond .eq 17, 3) := by decide +kernel
theorem dX11_makers_9 : decode (mC mX11_makers) 9 = .ok (.iload_n 3, 1) := by decide +kernel
theorem dX11_makers_10 : decode (mC mX11_makers) 10 = .ok (.iconst (-1), 1) := by decide +kernel
theorem dX11_makers_11 : decode (mC mX11_makers) 11 = .ok (.aload_n 0, 1) := by decide +kernel
theorem dX11_makers_12 : decode (mC mX11_makers) 12 = .ok (.invokevirtual 374, 3) := by decide +kernel
theorem dX11_makers_15 : decode (mC mX11_makers) 15 = .ok (.iconst 1, 1) := by decide +kernel
theorem dX11_makers_16 : decode (mC mX11_makers) 16 = .ok (.isub, 1) := by decide +kernel
theorem dX11_makers_17 : decode (mC mX11_makers) 17 = .ok (.invokestatic 140, 3) := by decide +kernel
theorem dX11_makers_20 : decode (mC mX11_makers) 20 = .ok (.ifCond .ne 6, 3) := by decide +kernel
theorem dX11_makers_23 : decode (mC mX11_makers) 23 = .ok (.bipush (-2), 2) := by decide +kernel
theorem dX11_makers_25 : decode (mC mX11_makers) 25 = .ok (.ireturn, 1) := by decide +kernel
theorem dX11_makers_26 : decode (mC mX11_makers) 26 = .ok (.iload_n 3, 1) := by decide +kernel
theorem dX11_makers_27 : decode (mC mX11_makers) 27 = .ok (.iconst (-1), 1) := by decide +kernel
theorem dX11_makers_28 : decode (mC mX11_makers) 28 = .ok (.if_icmp .eq 9, 3) := by decide +kernel
theorem dX11_makers_31 : decode (mC mX11_makers) 31 = .ok (.aload_n 0, 1) := by decide +kernel
theorem dX11_makers_32 : decode (mC mX11_makers) 32 = .ok (.iload_n 3, 1) := by decide +kernel
theorem dX11_makers_33 : decode (mC mX11_makers) 33 = .ok (.invokevirtual 386, 3) := by decide +kernel
theorem dX11_makers_36 : decode (mC mX11_makers) 36 = .ok (.ireturn, 1) := by decide +kernel
theorem dX11_makers_37 : decode (mC mX11_makers) 37 = .ok (.iconst 0, 1) := by decide +kernel
theorem dX11_makers_38 : decode (mC mX11_makers) 38 = .ok (.istore 4, 2) := by decide +kernel
theorem dX11_makers_40 : decode (mC mX11_makers) 40 = .ok (.iconst 0, 1) := by decide +kernel
theorem dX11_makers_41 : decode (mC mX11_makers) 41 = .ok (.istore 5, 2) := by decide +kernel
theorem dX11_makers_43 : decode (mC mX11_makers) 43 = .ok (.iload 5, 2) := by decide +kernel
theorem dX11_makers_45 : decode (mC mX11_makers) 45 = .ok (.aload_n 0, 1) := by decide +kernel
theorem dX11_makers_46 : decode (mC mX11_makers) 46 = .ok (.invokevirtual 374, 3) := by decide +kernel
theorem dX11_makers_49 : decode (mC mX11_makers) 49 = .ok (.if_icmp .ge 31, 3) := by decide +kernel
theorem dX11_makers_52 : decode (mC mX11_makers) 52 = .ok (.iload 4, 2) := by decide +kernel
theorem dX11_makers_54 : decode (mC mX11_makers) 54 = .ok (.aload_n 0, 1) := by decide +kernel
theorem dX11_makers_55 : decode (mC mX11_makers) 55 = .ok (.iload 5, 2) := by decide +kernel
theorem dX11_makers_57 : decode (mC mX11_makers) 57 = .ok (.invokevirtual 386, 3) := by decide +kernel
theorem dX11_makers_60 : decode (mC mX11_makers) 60 = .ok (.ifCond .ne 10, 3) := by decide +kernel
theorem dX11_makers_63 : decode (mC mX11_makers) 63 = .ok (.iconst 1, 1) := by decide +kernel
theorem dX11_makers_64 : decode (mC mX11_makers) 64 = .ok (.iload 5, 2) := by decide +kernel
theorem dX11_makers_66 : decode (mC mX11_makers) 66 = .ok (.ishl, 1) := by decide +kernel
theorem dX11_makers_67 : decode (mC mX11_makers) 67 = .ok (.goto 4, 3) := by decide +kernel
theorem dX11_makers_70 : decode (mC mX11_makers) 70 = .ok (.iconst 0, 1) := by decide +kernel
theorem dX11_makers_71 : decode (mC mX11_makers) 71 = .ok (.ior, 1) := by decide +kernel
theorem dX11_makers_72 : decode (mC mX11_makers) 72 = .ok (.istore 4, 2) := by decide +kernel
theorem dX11_makers_74 : decode (mC mX11_makers) 74 = .ok (.iinc 5 1, 3) := by decide +kernel
theorem dX11_makers_77 : decode (mC mX11_makers) 77 = .ok (.goto (-34), 3) := by decide +kernel
theorem dX11_makers_80 : decode (mC mX11_makers) 80 = .ok (.iload 4, 2) := by decide +kernel
theorem dX11_makers_82 : decode (mC mX11_makers) 82 = .ok (.ireturn, 1) := by decide +kernel
theorem dX11_isFollowed_0 : decode (mC mX11_isFollowed) 0 = .ok (.aload_n 0, 1) := by decide +kernel
theorem dX11_isFollowed_1 : decode (mC mX11_isFollowed) 1 = .ok (.iload_n 1, 1) := by decide +kernel
theorem dX11_isFollowed_2 : decode (mC mX11_isFollowed) 2 = .ok (.iconst 1, 1) := by decide +kernel
theorem dX11_isFollowed_3 : decode (mC mX11_isFollowed) 3 = .ok (.invokevirtual 377, 3) := by decide +kernel
theorem dX11_isFollowed_6 : decode (mC mX11_isFollowed) 6 = .ok (.aload_n 0, 1) := by decide +kernel
theorem dX11_isFollowed_7 : decode (mC mX11_isFollowed) 7 = .ok (.iload_n 2, 1) := by decide +kernel
theorem dX11_isFollowed_8 : decode (mC mX11_isFollowed) 8 = .ok (.iconst 1, 1) := by decide +kernel
theorem dX11_isFollowed_9 : decode (mC mX11_isFollowed) 9 = .ok (.invokevirtual 377, 3) := by decide +kernel
theorem dX11_isFollowed_12 : decode (mC mX11_isFollowed) 12 = .ok (.if_icmp .ne 44, 3) := by decide +kernel
theorem dX11_isFollowed_15 : decode (mC mX11_isFollowed) 15 = .ok (.aload_n 0, 1) := by decide +kernel
theorem dX11_isFollowed_16 : decode (mC mX11_isFollowed) 16 = .ok (.iload_n 1, 1) := by decide +kernel
theorem dX11_isFollowed_17 : decode (mC mX11_isFollowed) 17 = .ok (.iconst 2, 1) := by decide +kernel
theorem dX11_isFollowed_18 : decode (mC mX11_isFollowed) 18 = .ok (.invokevirtual 377, 3) := by decide +kernel
theorem dX11_isFollowed_21 : decode (mC mX11_isFollowed) 21 = .ok (.aload_n 0, 1) := by decide +kernel
theorem dX11_isFollowed_22 : decode (mC mX11_isFollowed) 22 = .ok (.iload_n 2, 1) := by decide +kernel
theorem dX11_isFollowed_23 : decode (mC mX11_isFollowed) 23 = .ok (.iconst 2, 1) := by decide +kernel
theorem dX11_isFollowed_24 : decode (mC mX11_isFollowed) 24 = .ok (.invokevirtual 377, 3) := by decide +kernel
theorem dX11_isFollowed_27 : decode (mC mX11_isFollowed) 27 = .ok (.if_icmp .eq 29, 3) := by decide +kernel
theorem dX11_isFollowed_30 : decode (mC mX11_isFollowed) 30 = .ok (.aload_n 0, 1) := by decide +kernel
theorem dX11_isFollowed_31 : decode (mC mX11_isFollowed) 31 = .ok (.aload_n 0, 1) := by decide +kernel
theorem dX11_isFollowed_32 : decode (mC mX11_isFollowed) 32 = .ok (.iload_n 1, 1) := by decide +kernel
theorem dX11_isFollowed_33 : decode (mC mX11_isFollowed) 33 = .ok (.iconst 0, 1) := by decide +kernel
theorem dX11_isFollowed_34 : decode (mC mX11_isFollowed) 34 = .ok (.invokevirtual 377, 3) := by decide +kernel
theorem dX11_isFollowed_37 : decode (mC mX11_isFollowed) 37 = .ok (.invokevirtual 297, 3) := by decide +kernel
theorem dX11_isFollowed_40 : decode (mC mX11_isFollowed) 40 = .ok (.ifCond .eq 16, 3) := by decide +kernel
theorem dX11_isFollowed_43 : decode (mC mX11_isFollowed) 43 = .ok (.aload_n 0, 1) := by decide +kernel
theorem dX11_isFollowed_44 : decode (mC mX11_isFollowed) 44 = .ok (.aload_n 0, 1) := by decide +kernel
theorem dX11_isFollowed_45 : decode (mC mX11_isFollowed) 45 = .ok (.iload_n 2, 1) := by decide +kernel
theorem dX11_isFollowed_46 : decode (mC mX11_isFollowed) 46 = .ok (.iconst 0, 1) := by decide +kernel
theorem dX11_isFollowed_47 : decode (mC mX11_isFollowed) 47 = .ok (.invokevirtual 377, 3) := by decide +kernel
theorem dX11_isFollowed_50 : decode (mC mX11_isFollowed) 50 = .ok (.invokevirtual 297, 3) := by decide +kernel
theorem dX11_isFollowed_53 : decode (mC mX11_isFollowed) 53 = .ok (.ifCond .ne 5, 3) := by decide +kernel
theorem dX11_isFollowed_56 : decode (mC mX11_isFollowed) 56 = .ok (.iconst 0, 1) := by decide +kernel
theorem dX11_isFollowed_57 : decode (mC mX11_isFollowed) 57 = .ok (.ireturn, 1) := by decide +kernel
theorem dX11_isFollowed_58 : decode (mC mX11_isFollowed) 58 = .ok (.aload_n 0, 1) := by decide +kernel
theorem dX11_isFollowed_59 : decode (mC mX11_isFollowed) 59 = .ok (.iload_n 1, 1) := by decide +kernel
theorem dX11_isFollowed_60 : decode (mC mX11_isFollowed) 60 = .ok (.invokevirtual 386, 3) := by decide +kernel
theorem dX11_isFollowed_63 : decode (mC mX11_isFollowed) 63 = .ok (.aload_n 0, 1) := by decide +kernel
theorem dX11_isFollowed_64 : decode (mC mX11_isFollowed) 64 = .ok (.iload_n 2, 1) := by decide +kernel
theorem dX11_isFollowed_65 : decode (mC mX11_isFollowed) 65 = .ok (.invokevirtual 386, 3) := by decide +kernel
theorem dX11_isFollowed_68 : decode (mC mX11_isFollowed) 68 = .ok (.iand, 1) := by decide +kernel
theorem dX11_isFollowed_69 : decode (mC mX11_isFollowed) 69 = .ok (.istore_n 3, 1) := by decide +kernel
theorem dX11_isFollowed_70 : decode (mC mX11_isFollowed) 70 = .ok (.iconst 0, 1) := by decide +kernel
theorem dX11_isFollowed_71 : decode (mC mX11_isFollowed) 71 = .ok (.istore 4, 2) := by decide +kernel
theorem dX11_isFollowed_73 : decode (mC mX11_isFollowed) 73 = .ok (.iconst 0, 1) := by decide +kernel
theorem dX11_isFollowed_74 : decode (mC mX11_isFollowed) 74 = .ok (.istore 5, 2) := by decide +kernel
theorem dX11_isFollowed_76 : decode (mC mX11_isFollowed) 76 = .ok (.iload 5, 2) := by decide +kernel
theorem dX11_isFollowed_78 : decode (mC mX11_isFollowed) 78 = .ok (.aload_n 0, 1) := by decide +kernel
theorem dX11_isFollowed_79 : decode (mC mX11_isFollowed) 79 = .ok (.invokevirtual 212, 3) := by decide +kernel
theorem dX11_isFollowed_82 : decode (mC mX11_isFollowed) 82 = .ok (.if_icmp .ge 63, 3) := by decide +kernel
theorem dX11_isFollowed_85 : decode (mC mX11_isFollowed) 85 = .ok (.iload 4, 2) := by decide +kernel
theorem dX11_isFollowed_87 : decode (mC mX11_isFollowed) 87 = .ok (.ifCond .ne 45, 3) := by decide +kernel
theorem dX11_isFollowed_90 : decode (mC mX11_isFollowed) 90 = .ok (.iload_n 3, 1) := by decide +kernel
theorem dX11_isFollowed_91 : decode (mC mX11_isFollowed) 91 = .ok (.iload 5, 2) := by decide +kernel
theorem dX11_isFollowed_93 : decode (mC mX11_isFollowed) 93 = .ok (.ishr, 1) := by decide +kernel
theorem dX11_isFollowed_94 : decode (mC mX11_isFollowed) 94 = .ok (.iconst 1, 1) := by decide +kernel
theorem dX11_isFollowed_95 : decode (mC mX11_isFollowed) 95 = .ok (.iand, 1) := by decide +kernel
theorem dX11_isFollowed_96 : decode (mC mX11_isFollowed) 96 = .ok (.iconst 1, 1) := by decide +kernel
theorem dX11_isFollowed_97 : decode (mC mX11_isFollowed) 97 = .ok (.if_icmp .ne 39, 3) := by decide +kernel
theorem dX11_isFollowed_100 : decode (mC mX11_isFollowed) 100 = .ok (.aload_n 0, 1) := by decide +kernel
theorem dX11_isFollowed_101 : decode (mC mX11_isFollowed) 101 = .ok (.aload_n 0, 1) := by decide +kernel
theorem dX11_isFollowed_102 : decode (mC mX11_isFollowed) 102 = .ok (.iload_n 1, 1) := by decide +kernel
theorem dX11_isFollowed_103 : decode (mC mX11_isFollowed) 103 = .ok (.iconst 0, 1) := by decide +kernel
theorem dX11_isFollowed_104 : decode (mC mX11_isFollowed) 104 = .ok (.invokevirtual 377, 3) := by decide +kernel
theorem dX11_isFollowed_107 : decode (mC mX11_isFollowed) 107 = .ok (.aload_n 0, 1) := by decide +kernel
theorem dX11_isFollowed_108 : decode (mC mX11_isFollowed) 108 = .ok (.iload_n 2, 1) := by decide +kernel
theorem dX11_isFollowed_109 : decode (mC mX11_isFollowed) 109 = .ok (.iconst 3, 1) := by decide +kernel
theorem dX11_isFollowed_110 : decode (mC mX11_isFollowed) 110 = .ok (.invokevirtual 377, 3) := by decide +kernel
theorem dX11_isFollowed_113 : decode (mC mX11_isFollowed) 113 = .ok (.aload_n 0, 1) := by decide +kernel
theorem dX11_isFollowed_114 : decode (mC mX11_isFollowed) 114 = .ok (.iload 5, 2) := by decide +kernel
theorem dX11_isFollowed_116 : decode (mC mX11_isFollowed) 116 = .ok (.iconst 1, 1) := by decide +kernel
theorem dX11_isFollowed_117 : decode (mC mX11_isFollowed) 117 = .ok (.invokevirtual 236, 3) := by decide +kernel
theorem dX11_isFollowed_120 : decode (mC mX11_isFollowed) 120 = .ok (.invokevirtual 251, 3) := by decide +kernel
theorem dX11_isFollowed_123 : decode (mC mX11_isFollowed) 123 = .ok (.aload_n 0, 1) := by decide +kernel
theorem dX11_isFollowed_124 : decode (mC mX11_isFollowed) 124 = .ok (.iload_n 2, 1) := by decide +kernel
theorem dX11_isFollowed_125 : decode (mC mX11_isFollowed) 125 = .ok (.iconst 0, 1) := by decide +kernel
theorem dX11_isFollowed_126 : decode (mC mX11_isFollowed) 126 = .ok (.invokevirtual 377, 3) := by decide +kernel
theorem dX11_isFollowed_129 : decode (mC mX11_isFollowed) 129 = .ok (.if_icmp .ne 7, 3) := by decide +kernel
theorem dX11_isFollowed_132 : decode (mC mX11_isFollowed) 132 = .ok (.iconst 1, 1) := by decide +kernel
theorem dX11_isFollowed_133 : decode (mC mX11_isFollowed) 133 = .ok (.goto 4, 3) := by decide +kernel
theorem dX11_isFollowed_136 : decode (mC mX11_isFollowed) 136 = .ok (.iconst 0, 1) := by decide +kernel
theorem dX11_isFollowed_137 : decode (mC mX11_isFollowed) 137 = .ok (.istore 4, 2) := by decide +kernel
theorem dX11_isFollowed_139 : decode (mC mX11_isFollowed) 139 = .ok (.iinc 5 1, 3) := by decide +kernel
theorem dX11_isFollowed_142 : decode (mC mX11_isFollowed) 142 = .ok (.goto (-66), 3) := by decide +kernel
theorem dX11_isFollowed_145 : decode (mC mX11_isFollowed) 145 = .ok (.iload 4, 2) := by decide +kernel
theorem dX11_isFollowed_147 : decode (mC mX11_isFollowed) 147 = .ok (.ireturn, 1) := by decide +kernel
theorem dX11_followersOf_0 : decode (mC mX11_followersOf) 0 = .ok (.iconst 0, 1) := by decide +kernel
theorem dX11_followersOf_1 : decode (mC mX11_followersOf) 1 = .ok (.istore_n 2, 1) := by decide +kernel
theorem dX11_followersOf_2 : decode (mC mX11_followersOf) 2 = .ok (.iconst 0, 1) := by decide +kernel
theorem dX11_followersOf_3 : decode (mC mX11_followersOf) 3 = .ok (.istore_n 3, 1) := by decide +kernel
theorem dX11_followersOf_4 : decode (mC mX11_followersOf) 4 = .ok (.iload_n 3, 1) := by decide +kernel
theorem dX11_followersOf_5 : decode (mC mX11_followersOf) 5 = .ok (.aload_n 0, 1) := by decide +kernel
theorem dX11_followersOf_6 : decode (mC mX11_followersOf) 6 = .ok (.invokevirtual 374, 3) := by decide +kernel
theorem dX11_followersOf_9 : decode (mC mX11_followersOf) 9 = .ok (.if_icmp .ge 28, 3) := by decide +kernel
theorem dX11_followersOf_12 : decode (mC mX11_followersOf) 12 = .ok (.iload_n 2, 1) := by decide +kernel
theorem dX11_followersOf_13 : decode (mC mX11_followersOf) 13 = .ok (.aload_n 0, 1) := by decide +kernel
theorem dX11_followersOf_14 : decode (mC mX11_followersOf) 14 = .ok (.iload_n 1, 1) := by decide +kernel
theorem dX11_followersOf_15 : decode (mC mX11_followersOf) 15 = .ok (.iload_n 3, 1) := by decide +kernel
theorem dX11_followersOf_16 : decode (mC mX11_followersOf) 16 = .ok (.invokevirtual 389, 3) := by decide +kernel
theorem dX11_followersOf_19 : decode (mC mX11_followersOf) 19 = .ok (.ifCond .eq 9, 3) := by decide +kernel
theorem dX11_followersOf_22 : decode (mC mX11_followersOf) 22 = .ok (.iconst 1, 1) := by decide +kernel
theorem dX11_followersOf_23 : decode (mC mX11_followersOf) 23 = .ok (.iload_n 3, 1) := by decide +kernel
theorem dX11_followersOf_24 : decode (mC mX11_followersOf) 24 = .ok (.ishl, 1) := by decide +kernel
theorem dX11_followersOf_25 : decode (mC mX11_followersOf) 25 = .ok (.goto 4, 3) := by decide +kernel
theorem dX11_followersOf_28 : decode (mC mX11_followersOf) 28 = .ok (.iconst 0, 1) := by decide +kernel
theorem dX11_followersOf_29 : decode (mC mX11_followersOf) 29 = .ok (.ior, 1) := by decide +kernel
theorem dX11_followersOf_30 : decode (mC mX11_followersOf) 30 = .ok (.istore_n 2, 1) := by decide +kernel
theorem dX11_followersOf_31 : decode (mC mX11_followersOf) 31 = .ok (.iinc 3 1, 3) := by decide +kernel
theorem dX11_followersOf_34 : decode (mC mX11_followersOf) 34 = .ok (.goto (-30), 3) := by decide +kernel
theorem dX11_followersOf_37 : decode (mC mX11_followersOf) 37 = .ok (.iload_n 2, 1) := by decide +kernel
theorem dX11_followersOf_38 : decode (mC mX11_followersOf) 38 = .ok (.ireturn, 1) := by decide +kernel
theorem dX11_follows_0 : decode (mC mX11_follows) 0 = .ok (.aload_n 0, 1) := by decide +kernel
theorem dX11_follows_1 : decode (mC mX11_follows) 1 = .ok (.iload_n 1, 1) := by decide +kernel
theorem dX11_follows_2 : decode (mC mX11_follows) 2 = .ok (.iload_n 2, 1) := by decide +kernel
theorem dX11_follows_3 : decode (mC mX11_follows) 3 = .ok (.invokevirtual 383, 3) := by decide +kernel
theorem dX11_follows_6 : decode (mC mX11_follows) 6 = .ok (.ifCond .eq 17, 3) := by decide +kernel
theorem dX11_follows_9 : decode (mC mX11_follows) 9 = .ok (.iload_n 3, 1) := by decide +kernel
theorem dX11_follows_10 : decode (mC mX11_follows) 10 = .ok (.iconst (-1), 1) := by decide +kernel
theorem dX11_follows_11 : decode (mC mX11_follows) 11 = .ok (.aload_n 0, 1) := by decide +kernel
theorem dX11_follows_12 : decode (mC mX11_follows) 12 = .ok (.invokevirtual 374, 3) := by decide +kernel
theorem dX11_follows_15 : decode (mC mX11_follows) 15 = .ok (.iconst 1, 1) := by decide +kernel
theorem dX11_follows_16 : decode (mC mX11_follows) 16 = .ok (.isub, 1) := by decide +kernel
theorem dX11_follows_17 : decode (mC mX11_follows) 17 = .ok (.invokestatic 140, 3) := by decide +kernel
theorem dX11_follows_20 : decode (mC mX11_follows) 20 = .ok (.ifCond .ne 6, 3) := by decide +kernel
theorem dX11_follows_23 : decode (mC mX11_follows) 23 = .ok (.bipush (-2), 2) := by decide +kernel
theorem dX11_follows_25 : decode (mC mX11_follows) 25 = .ok (.ireturn, 1) := by decide +kernel
theorem dX11_follows_26 : decode (mC mX11_follows) 26 = .ok (.iload_n 3, 1) := by decide +kernel
theorem dX11_follows_27 : decode (mC mX11_follows) 27 = .ok (.iconst (-1), 1) := by decide +kernel
theorem dX11_follows_28 : decode (mC mX11_follows) 28 = .ok (.if_icmp .eq 9, 3) := by decide +kernel
theorem dX11_follows_31 : decode (mC mX11_follows) 31 = .ok (.aload_n 0, 1) := by decide +kernel
theorem dX11_follows_32 : decode (mC mX11_follows) 32 = .ok (.iload_n 3, 1) := by decide +kernel
theorem dX11_follows_33 : decode (mC mX11_follows) 33 = .ok (.invokevirtual 392, 3) := by decide +kernel
theorem dX11_follows_36 : decode (mC mX11_follows) 36 = .ok (.ireturn, 1) := by decide +kernel
theorem dX11_follows_37 : decode (mC mX11_follows) 37 = .ok (.iconst 0, 1) := by decide +kernel
theorem dX11_follows_38 : decode (mC mX11_follows) 38 = .ok (.istore 4, 2) := by decide +kernel
theorem dX11_follows_40 : decode (mC mX11_follows) 40 = .ok (.iconst 0, 1) := by decide +kernel
theorem dX11_follows_41 : decode (mC mX11_follows) 41 = .ok (.istore 5, 2) := by decide +kernel
theorem dX11_follows_43 : decode (mC mX11_follows) 43 = .ok (.iload 5, 2) := by decide +kernel
theorem dX11_follows_45 : decode (mC mX11_follows) 45 = .ok (.aload_n 0, 1) := by decide +kernel
theorem dX11_follows_46 : decode (mC mX11_follows) 46 = .ok (.invokevirtual 374, 3) := by decide +kernel
theorem dX11_follows_49 : decode (mC mX11_follows) 49 = .ok (.if_icmp .ge 23, 3) := by decide +kernel
theorem dX11_follows_52 : decode (mC mX11_follows) 52 = .ok (.iload 4, 2) := by decide +kernel
theorem dX11_follows_54 : decode (mC mX11_follows) 54 = .ok (.aload_n 0, 1) := by decide +kernel
theorem dX11_follows_55 : decode (mC mX11_follows) 55 = .ok (.iload 5, 2) := by decide +kernel
theorem dX11_follows_57 : decode (mC mX11_follows) 57 = .ok (.invokevirtual 392, 3) := by decide +kernel
theorem dX11_follows_60 : decode (mC mX11_follows) 60 = .ok (.invokestatic 306, 3) := by decide +kernel
theorem dX11_follows_63 : decode (mC mX11_follows) 63 = .ok (.iadd, 1) := by decide +kernel
theorem dX11_follows_64 : decode (mC mX11_follows) 64 = .ok (.istore 4, 2) := by decide +kernel
theorem dX11_follows_66 : decode (mC mX11_follows) 66 = .ok (.iinc 5 1, 3) := by decide +kernel
theorem dX11_follows_69 : decode (mC mX11_follows) 69 = .ok (.goto (-26), 3) := by decide +kernel
theorem dX11_follows_72 : decode (mC mX11_follows) 72 = .ok (.iload 4, 2) := by decide +kernel
theorem dX11_follows_74 : decode (mC mX11_follows) 74 = .ok (.ireturn, 1) := by decide +kernel
theorem dX11_counts_0 : decode (mC mX11_counts) 0 = .ok (.iconst 1, 1) := by decide +kernel
theorem dX11_counts_1 : decode (mC mX11_counts) 1 = .ok (.aload_n 0, 1) := by decide +kernel
theorem dX11_counts_2 : decode (mC mX11_counts) 2 = .ok (.invokevirtual 374, 3) := by decide +kernel
theorem dX11_counts_5 : decode (mC mX11_counts) 5 = .ok (.ishl, 1) := by decide +kernel
theorem dX11_counts_6 : decode (mC mX11_counts) 6 = .ok (.istore_n 2, 1) := by decide +kernel
theorem dX11_counts_7 : decode (mC mX11_counts) 7 = .ok (.iconst 0, 1) := by decide +kernel
theorem dX11_counts_8 : decode (mC mX11_counts) 8 = .ok (.istore_n 3, 1) := by decide +kernel
theorem dX11_counts_9 : decode (mC mX11_counts) 9 = .ok (.iload_n 3, 1) := by decide +kernel
theorem dX11_counts_10 : decode (mC mX11_counts) 10 = .ok (.sipush 10240, 3) := by decide +kernel
theorem dX11_counts_13 : decode (mC mX11_counts) 13 = .ok (.if_icmp .ge 16, 3) := by decide +kernel
theorem dX11_counts_16 : decode (mC mX11_counts) 16 = .ok (.aload_n 0, 1) := by decide +kernel
theorem dX11_counts_17 : decode (mC mX11_counts) 17 = .ok (.getfield 74, 3) := by decide +kernel
theorem dX11_counts_20 : decode (mC mX11_counts) 20 = .ok (.iload_n 3, 1) := by decide +kernel
theorem dX11_counts_21 : decode (mC mX11_counts) 21 = .ok (.iconst 0, 1) := by decide +kernel
theorem dX11_counts_22 : decode (mC mX11_counts) 22 = .ok (.iastore, 1) := by decide +kernel
theorem dX11_counts_23 : decode (mC mX11_counts) 23 = .ok (.iinc 3 1, 3) := by decide +kernel
theorem dX11_counts_26 : decode (mC mX11_counts) 26 = .ok (.goto (-17), 3) := by decide +kernel
theorem dX11_counts_29 : decode (mC mX11_counts) 29 = .ok (.iconst 0, 1) := by decide +kernel
theorem dX11_counts_30 : decode (mC mX11_counts) 30 = .ok (.istore_n 3, 1) := by decide +kernel
theorem dX11_counts_31 : decode (mC mX11_counts) 31 = .ok (.iload_n 3, 1) := by decide +kernel
theorem dX11_counts_32 : decode (mC mX11_counts) 32 = .ok (.aload_n 0, 1) := by decide +kernel
theorem dX11_counts_33 : decode (mC mX11_counts) 33 = .ok (.invokevirtual 374, 3) := by decide +kernel
theorem dX11_counts_36 : decode (mC mX11_counts) 36 = .ok (.if_icmp .ge 23, 3) := by decide +kernel
theorem dX11_counts_39 : decode (mC mX11_counts) 39 = .ok (.aload_n 0, 1) := by decide +kernel
theorem dX11_counts_40 : decode (mC mX11_counts) 40 = .ok (.getfield 74, 3) := by decide +kernel
theorem dX11_counts_43 : decode (mC mX11_counts) 43 = .ok (.bipush 10, 2) := by decide +kernel
theorem dX11_counts_45 : decode (mC mX11_counts) 45 = .ok (.iconst 1, 1) := by decide +kernel
theorem dX11_counts_46 : decode (mC mX11_counts) 46 = .ok (.iload_n 3, 1) := by decide +kernel
theorem dX11_counts_47 : decode (mC mX11_counts) 47 = .ok (.ishl, 1) := by decide +kernel
theorem dX11_counts_48 : decode (mC mX11_counts) 48 = .ok (.imul, 1) := by decide +kernel
theorem dX11_counts_49 : decode (mC mX11_counts) 49 = .ok (.iload_n 3, 1) := by decide +kernel
theorem dX11_counts_50 : decode (mC mX11_counts) 50 = .ok (.iadd, 1) := by decide +kernel
theorem dX11_counts_51 : decode (mC mX11_counts) 51 = .ok (.iconst 1, 1) := by decide +kernel
theorem dX11_counts_52 : decode (mC mX11_counts) 52 = .ok (.iastore, 1) := by decide +kernel
theorem dX11_counts_53 : decode (mC mX11_counts) 53 = .ok (.iinc 3 1, 3) := by decide +kernel
theorem dX11_counts_56 : decode (mC mX11_counts) 56 = .ok (.goto (-25), 3) := by decide +kernel
theorem dX11_counts_59 : decode (mC mX11_counts) 59 = .ok (.iconst 1, 1) := by decide +kernel
theorem dX11_counts_60 : decode (mC mX11_counts) 60 = .ok (.istore_n 3, 1) := by decide +kernel
theorem dX11_counts_61 : decode (mC mX11_counts) 61 = .ok (.iload_n 3, 1) := by decide +kernel
theorem dX11_counts_62 : decode (mC mX11_counts) 62 = .ok (.iload_n 2, 1) := by decide +kernel
theorem dX11_counts_63 : decode (mC mX11_counts) 63 = .ok (.if_icmp .ge 160, 3) := by decide +kernel
theorem dX11_counts_66 : decode (mC mX11_counts) 66 = .ok (.aload_n 0, 1) := by decide +kernel
theorem dX11_counts_67 : decode (mC mX11_counts) 67 = .ok (.getfield 77, 3) := by decide +kernel
theorem dX11_counts_70 : decode (mC mX11_counts) 70 = .ok (.iload_n 3, 1) := by decide +kernel
theorem dX11_counts_71 : decode (mC mX11_counts) 71 = .ok (.iconst 0, 1) := by decide +kernel
theorem dX11_counts_72 : decode (mC mX11_counts) 72 = .ok (.iastore, 1) := by decide +kernel
theorem dX11_counts_73 : decode (mC mX11_counts) 73 = .ok (.iconst 0, 1) := by decide +kernel
theorem dX11_counts_74 : decode (mC mX11_counts) 74 = .ok (.istore 4, 2) := by decide +kernel
theorem dX11_counts_76 : decode (mC mX11_counts) 76 = .ok (.iload 4, 2) := by decide +kernel
theorem dX11_counts_78 : decode (mC mX11_counts) 78 = .ok (.aload_n 0, 1) := by decide +kernel
theorem dX11_counts_79 : decode (mC mX11_counts) 79 = .ok (.invokevirtual 374, 3) := by decide +kernel
theorem dX11_counts_82 : decode (mC mX11_counts) 82 = .ok (.if_icmp .ge 120, 3) := by decide +kernel
theorem dX11_counts_85 : decode (mC mX11_counts) 85 = .ok (.aload_n 0, 1) := by decide +kernel
theorem dX11_counts_86 : decode (mC mX11_counts) 86 = .ok (.getfield 74, 3) := by decide +kernel
theorem dX11_counts_89 : decode (mC mX11_counts) 89 = .ok (.bipush 10, 2) := by decide +kernel
theorem dX11_counts_91 : decode (mC mX11_counts) 91 = .ok (.iload_n 3, 1) := by decide +kernel
theorem dX11_counts_92 : decode (mC mX11_counts) 92 = .ok (.imul, 1) := by decide +kernel
theorem dX11_counts_93 : decode (mC mX11_counts) 93 = .ok (.iload 4, 2) := by decide +kernel
theorem dX11_counts_95 : decode (mC mX11_counts) 95 = .ok (.iadd, 1) := by decide +kernel
theorem dX11_counts_96 : decode (mC mX11_counts) 96 = .ok (.iaload, 1) := by decide +kernel
theorem dX11_counts_97 : decode (mC mX11_counts) 97 = .ok (.istore 5, 2) := by decide +kernel
theorem dX11_counts_99 : decode (mC mX11_counts) 99 = .ok (.aload_n 0, 1) := by decide +kernel
theorem dX11_counts_100 : decode (mC mX11_counts) 100 = .ok (.getfield 77, 3) := by decide +kernel
theorem dX11_counts_103 : decode (mC mX11_counts) 103 = .ok (.iload_n 3, 1) := by decide +kernel
theorem dX11_counts_104 : decode (mC mX11_counts) 104 = .ok (.dup2, 1) := by decide +kernel
theorem dX11_counts_105 : decode (mC mX11_counts) 105 = .ok (.iaload, 1) := by decide +kernel
theorem dX11_counts_106 : decode (mC mX11_counts) 106 = .ok (.aload_n 0, 1) := by decide +kernel
theorem dX11_counts_107 : decode (mC mX11_counts) 107 = .ok (.getfield 395, 3) := by decide +kernel
theorem dX11_counts_110 : decode (mC mX11_counts) 110 = .ok (.iload 4, 2) := by decide +kernel
theorem dX11_counts_112 : decode (mC mX11_counts) 112 = .ok (.ishr, 1) := by decide +kernel
theorem dX11_counts_113 : decode (mC mX11_counts) 113 = .ok (.iconst 1, 1) := by decide +kernel
theorem dX11_counts_114 : decode (mC mX11_counts) 114 = .ok (.iand, 1) := by decide +kernel
theorem dX11_counts_115 : decode (mC mX11_counts) 115 = .ok (.ifCond .ne 8, 3) := by decide +kernel
theorem dX11_counts_118 : decode (mC mX11_counts) 118 = .ok (.iload 5, 2) := by decide +kernel
theorem dX11_counts_120 : decode (mC mX11_counts) 120 = .ok (.goto 4, 3) := by decide +kernel
theorem dX11_counts_123 : decode (mC mX11_counts) 123 = .ok (.iconst 0, 1) := by decide +kernel
theorem dX11_counts_124 : decode (mC mX11_counts) 124 = .ok (.iadd, 1) := by decide +kernel
theorem dX11_counts_125 : decode (mC mX11_counts) 125 = .ok (.iastore, 1) := by decide +kernel
theorem dX11_counts_126 : decode (mC mX11_counts) 126 = .ok (.iconst 0, 1) := by decide +kernel
theorem dX11_counts_127 : decode (mC mX11_counts) 127 = .ok (.istore 6, 2) := by decide +kernel
theorem dX11_counts_129 : decode (mC mX11_counts) 129 = .ok (.iload 6, 2) := by decide +kernel
theorem dX11_counts_131 : decode (mC mX11_counts) 131 = .ok (.aload_n 0, 1) := by decide +kernel
theorem dX11_counts_132 : decode (mC mX11_counts) 132 = .ok (.invokevirtual 374, 3) := by decide +kernel
theorem dX11_counts_135 : decode (mC mX11_counts) 135 = .ok (.if_icmp .ge 61, 3) := by decide +kernel
theorem dX11_counts_138 : decode (mC mX11_counts) 138 = .ok (.iload 5, 2) := by decide +kernel
theorem dX11_counts_140 : decode (mC mX11_counts) 140 = .ok (.ifCond .le 56, 3) := by decide +kernel
theorem dX11_counts_143 : decode (mC mX11_counts) 143 = .ok (.aload_n 0, 1) := by decide +kernel
theorem dX11_counts_144 : decode (mC mX11_counts) 144 = .ok (.getfield 71, 3) := by decide +kernel
theorem dX11_counts_147 : decode (mC mX11_counts) 147 = .ok (.iload 4, 2) := by decide +kernel
theorem dX11_counts_149 : decode (mC mX11_counts) 149 = .ok (.iaload, 1) := by decide +kernel
theorem dX11_counts_150 : decode (mC mX11_counts) 150 = .ok (.iload 6, 2) := by decide +kernel
theorem dX11_counts_152 : decode (mC mX11_counts) 152 = .ok (.ishr, 1) := by decide +kernel
theorem dX11_counts_153 : decode (mC mX11_counts) 153 = .ok (.iconst 1, 1) := by decide +kernel
theorem dX11_counts_154 : decode (mC mX11_counts) 154 = .ok (.iand, 1) := by decide +kernel
theorem dX11_counts_155 : decode (mC mX11_counts) 155 = .ok (.iconst 1, 1) := by decide +kernel
theorem dX11_counts_156 : decode (mC mX11_counts) 156 = .ok (.if_icmp .ne 34, 3) := by decide +kernel
theorem dX11_counts_159 : decode (mC mX11_counts) 159 = .ok (.iload_n 3, 1) := by decide +kernel
theorem dX11_counts_160 : decode (mC mX11_counts) 160 = .ok (.iload 6, 2) := by decide +kernel
theorem dX11_counts_162 : decode (mC mX11_counts) 162 = .ok (.ishr, 1) := by decide +kernel
theorem dX11_counts_163 : decode (mC mX11_counts) 163 = .ok (.iconst 1, 1) := by decide +kernel
theorem dX11_counts_164 : decode (mC mX11_counts) 164 = .ok (.iand, 1) := by decide +kernel
theorem dX11_counts_165 : decode (mC mX11_counts) 165 = .ok (.ifCond .ne 25, 3) := by decide +kernel
theorem dX11_counts_168 : decode (mC mX11_counts) 168 = .ok (.aload_n 0, 1) := by decide +kernel
theorem dX11_counts_169 : decode (mC mX11_counts) 169 = .ok (.getfield 74, 3) := by decide +kernel
theorem dX11_counts_172 : decode (mC mX11_counts) 172 = .ok (.bipush 10, 2) := by decide +kernel
theorem dX11_counts_174 : decode (mC mX11_counts) 174 = .ok (.iload_n 3, 1) := by decide +kernel
theorem dX11_counts_175 : decode (mC mX11_counts) 175 = .ok (.iconst 1, 1) := by decide +kernel
theorem dX11_counts_176 : decode (mC mX11_counts) 176 = .ok (.iload 6, 2) := by decide +kernel
theorem dX11_counts_178 : decode (mC mX11_counts) 178 = .ok (.ishl, 1) := by decide +kernel
theorem dX11_counts_179 : decode (mC mX11_counts) 179 = .ok (.ior, 1) := by decide +kernel
theorem dX11_counts_180 : decode (mC mX11_counts) 180 = .ok (.imul, 1) := by decide +kernel
theorem dX11_counts_181 : decode (mC mX11_counts) 181 = .ok (.iload 6, 2) := by decide +kernel
theorem dX11_counts_183 : decode (mC mX11_counts) 183 = .ok (.iadd, 1) := by decide +kernel
theorem dX11_counts_184 : decode (mC mX11_counts) 184 = .ok (.dup2, 1) := by decide +kernel
theorem dX11_counts_185 : decode (mC mX11_counts) 185 = .ok (.iaload, 1) := by decide +kernel
theorem dX11_counts_186 : decode (mC mX11_counts) 186 = .ok (.iload 5, 2) := by decide +kernel
theorem dX11_counts_188 : decode (mC mX11_counts) 188 = .ok (.iadd, 1) := by decide +kernel
theorem dX11_counts_189 : decode (mC mX11_counts) 189 = .ok (.iastore, 1) := by decide +kernel
theorem dX11_counts_190 : decode (mC mX11_counts) 190 = .ok (.iinc 6 1, 3) := by decide +kernel
theorem dX11_counts_193 : decode (mC mX11_counts) 193 = .ok (.goto (-64), 3) := by decide +kernel
theorem dX11_counts_196 : decode (mC mX11_counts) 196 = .ok (.iinc 4 1, 3) := by decide +kernel
theorem dX11_counts_199 : decode (mC mX11_counts) 199 = .ok (.goto (-123), 3) := by decide +kernel
theorem dX11_counts_202 : decode (mC mX11_counts) 202 = .ok (.iload_n 3, 1) := by decide +kernel
theorem dX11_counts_203 : decode (mC mX11_counts) 203 = .ok (.invokestatic 306, 3) := by decide +kernel
theorem dX11_counts_206 : decode (mC mX11_counts) 206 = .ok (.iload_n 1, 1) := by decide +kernel
theorem dX11_counts_207 : decode (mC mX11_counts) 207 = .ok (.if_icmp .le 10, 3) := by decide +kernel
theorem dX11_counts_210 : decode (mC mX11_counts) 210 = .ok (.aload_n 0, 1) := by decide +kernel
theorem dX11_counts_211 : decode (mC mX11_counts) 211 = .ok (.getfield 77, 3) := by decide +kernel
theorem dX11_counts_214 : decode (mC mX11_counts) 214 = .ok (.iload_n 3, 1) := by decide +kernel
theorem dX11_counts_215 : decode (mC mX11_counts) 215 = .ok (.iconst 0, 1) := by decide +kernel
theorem dX11_counts_216 : decode (mC mX11_counts) 216 = .ok (.iastore, 1) := by decide +kernel
theorem dX11_counts_217 : decode (mC mX11_counts) 217 = .ok (.iinc 3 1, 3) := by decide +kernel
theorem dX11_counts_220 : decode (mC mX11_counts) 220 = .ok (.goto (-159), 3) := by decide +kernel
theorem dX11_counts_223 : decode (mC mX11_counts) 223 = .ok (.aload_n 0, 1) := by decide +kernel
theorem dX11_counts_224 : decode (mC mX11_counts) 224 = .ok (.getfield 80, 3) := by decide +kernel
theorem dX11_counts_227 : decode (mC mX11_counts) 227 = .ok (.iconst 0, 1) := by decide +kernel
theorem dX11_counts_228 : decode (mC mX11_counts) 228 = .ok (.iconst 0, 1) := by decide +kernel
theorem dX11_counts_229 : decode (mC mX11_counts) 229 = .ok (.iastore, 1) := by decide +kernel
theorem dX11_counts_230 : decode (mC mX11_counts) 230 = .ok (.aload_n 0, 1) := by decide +kernel
theorem dX11_counts_231 : decode (mC mX11_counts) 231 = .ok (.getfield 83, 3) := by decide +kernel
theorem dX11_counts_234 : decode (mC mX11_counts) 234 = .ok (.iconst 0, 1) := by decide +kernel
theorem dX11_counts_235 : decode (mC mX11_counts) 235 = .ok (.iconst 1, 1) := by decide +kernel
theorem dX11_counts_236 : decode (mC mX11_counts) 236 = .ok (.iastore, 1) := by decide +kernel
theorem dX11_counts_237 : decode (mC mX11_counts) 237 = .ok (.iconst 1, 1) := by decide +kernel
theorem dX11_counts_238 : decode (mC mX11_counts) 238 = .ok (.istore_n 3, 1) := by decide +kernel
theorem dX11_counts_239 : decode (mC mX11_counts) 239 = .ok (.iload_n 3, 1) := by decide +kernel
theorem dX11_counts_240 : decode (mC mX11_counts) 240 = .ok (.iload_n 2, 1) := by decide +kernel
theorem dX11_counts_241 : decode (mC mX11_counts) 241 = .ok (.if_icmp .ge 171, 3) := by decide +kernel
theorem dX11_counts_244 : decode (mC mX11_counts) 244 = .ok (.iload_n 3, 1) := by decide +kernel
theorem dX11_counts_245 : decode (mC mX11_counts) 245 = .ok (.iload_n 3, 1) := by decide +kernel
theorem dX11_counts_246 : decode (mC mX11_counts) 246 = .ok (.ineg, 1) := by decide +kernel
theorem dX11_counts_247 : decode (mC mX11_counts) 247 = .ok (.iand, 1) := by decide +kernel
theorem dX11_counts_248 : decode (mC mX11_counts) 248 = .ok (.istore 4, 2) := by decide +kernel
theorem dX11_counts_250 : decode (mC mX11_counts) 250 = .ok (.aload_n 0, 1) := by decide +kernel
theorem dX11_counts_251 : decode (mC mX11_counts) 251 = .ok (.getfield 80, 3) := by decide +kernel
theorem dX11_counts_254 : decode (mC mX11_counts) 254 = .ok (.iload_n 3, 1) := by decide +kernel
theorem dX11_counts_255 : decode (mC mX11_counts) 255 = .ok (.ldc_w 330, 3) := by decide +kernel
theorem dX11_counts_258 : decode (mC mX11_counts) 258 = .ok (.iastore, 1) := by decide +kernel
theorem dX11_counts_259 : decode (mC mX11_counts) 259 = .ok (.aload_n 0, 1) := by decide +kernel
theorem dX11_counts_260 : decode (mC mX11_counts) 260 = .ok (.getfield 83, 3) := by decide +kernel
theorem dX11_counts_263 : decode (mC mX11_counts) 263 = .ok (.iload_n 3, 1) := by decide +kernel
theorem dX11_counts_264 : decode (mC mX11_counts) 264 = .ok (.iconst 0, 1) := by decide +kernel
theorem dX11_counts_265 : decode (mC mX11_counts) 265 = .ok (.iastore, 1) := by decide +kernel
theorem dX11_counts_266 : decode (mC mX11_counts) 266 = .ok (.iload_n 3, 1) := by decide +kernel
theorem dX11_counts_267 : decode (mC mX11_counts) 267 = .ok (.istore 5, 2) := by decide +kernel
theorem dX11_counts_269 : decode (mC mX11_counts) 269 = .ok (.iload 5, 2) := by decide +kernel
theorem dX11_counts_271 : decode (mC mX11_counts) 271 = .ok (.ifCond .le 135, 3) := by decide +kernel
theorem dX11_counts_274 : decode (mC mX11_counts) 274 = .ok (.iload 5, 2) := by decide +kernel
theorem dX11_counts_276 : decode (mC mX11_counts) 276 = .ok (.iload 4, 2) := by decide +kernel
theorem dX11_counts_278 : decode (mC mX11_counts) 278 = .ok (.iand, 1) := by decide +kernel
theorem dX11_counts_279 : decode (mC mX11_counts) 279 = .ok (.ifCond .eq 116, 3) := by decide +kernel
theorem dX11_counts_282 : decode (mC mX11_counts) 282 = .ok (.aload_n 0, 1) := by decide +kernel
theorem dX11_counts_283 : decode (mC mX11_counts) 283 = .ok (.getfield 77, 3) := by decide +kernel
theorem dX11_counts_286 : decode (mC mX11_counts) 286 = .ok (.iload 5, 2) := by decide +kernel
theorem dX11_counts_288 : decode (mC mX11_counts) 288 = .ok (.iaload, 1) := by decide +kernel
theorem dX11_counts_289 : decode (mC mX11_counts) 289 = .ok (.ifCond .ne 6, 3) := by decide +kernel
theorem dX11_counts_292 : decode (mC mX11_counts) 292 = .ok (.goto 103, 3) := by decide +kernel
theorem dX11_counts_295 : decode (mC mX11_counts) 295 = .ok (.aload_n 0, 1) := by decide +kernel
theorem dX11_counts_296 : decode (mC mX11_counts) 296 = .ok (.getfield 80, 3) := by decide +kernel
theorem dX11_counts_299 : decode (mC mX11_counts) 299 = .ok (.iload_n 3, 1) := by decide +kernel
theorem dX11_counts_300 : decode (mC mX11_counts) 300 = .ok (.iload 5, 2) := by decide +kernel
theorem dX11_counts_302 : decode (mC mX11_counts) 302 = .ok (.isub, 1) := by decide +kernel
theorem dX11_counts_303 : decode (mC mX11_counts) 303 = .ok (.iaload, 1) := by decide +kernel
theorem dX11_counts_304 : decode (mC mX11_counts) 304 = .ok (.iconst 1, 1) := by decide +kernel
theorem dX11_counts_305 : decode (mC mX11_counts) 305 = .ok (.iadd, 1) := by decide +kernel
theorem dX11_counts_306 : decode (mC mX11_counts) 306 = .ok (.istore 6, 2) := by decide +kernel
theorem dX11_counts_308 : decode (mC mX11_counts) 308 = .ok (.iload 6, 2) := by decide +kernel
theorem dX11_counts_310 : decode (mC mX11_counts) 310 = .ok (.aload_n 0, 1) := by decide +kernel
theorem dX11_counts_311 : decode (mC mX11_counts) 311 = .ok (.getfield 80, 3) := by decide +kernel
theorem dX11_counts_314 : decode (mC mX11_counts) 314 = .ok (.iload_n 3, 1) := by decide +kernel
theorem dX11_counts_315 : decode (mC mX11_counts) 315 = .ok (.iaload, 1) := by decide +kernel
theorem dX11_counts_316 : decode (mC mX11_counts) 316 = .ok (.if_icmp .ge 10, 3) := by decide +kernel
theorem dX11_counts_319 : decode (mC mX11_counts) 319 = .ok (.aload_n 0, 1) := by decide +kernel
theorem dX11_counts_320 : decode (mC mX11_counts) 320 = .ok (.getfield 83, 3) := by decide +kernel
theorem dX11_counts_323 : decode (mC mX11_counts) 323 = .ok (.iload_n 3, 1) := by decide +kernel
theorem dX11_counts_324 : decode (mC mX11_counts) 324 = .ok (.iconst 0, 1) := by decide +kernel
theorem dX11_counts_325 : decode (mC mX11_counts) 325 = .ok (.iastore, 1) := by decide +kernel
theorem dX11_counts_326 : decode (mC mX11_counts) 326 = .ok (.aload_n 0, 1) := by decide +kernel
theorem dX11_counts_327 : decode (mC mX11_counts) 327 = .ok (.getfield 80, 3) := by decide +kernel
theorem dX11_counts_330 : decode (mC mX11_counts) 330 = .ok (.iload_n 3, 1) := by decide +kernel
theorem dX11_counts_331 : decode (mC mX11_counts) 331 = .ok (.iload 6, 2) := by decide +kernel
theorem dX11_counts_333 : decode (mC mX11_counts) 333 = .ok (.aload_n 0, 1) := by decide +kernel
theorem dX11_counts_334 : decode (mC mX11_counts) 334 = .ok (.getfield 80, 3) := by decide +kernel
theorem dX11_counts_337 : decode (mC mX11_counts) 337 = .ok (.iload_n 3, 1) := by decide +kernel
theorem dX11_counts_338 : decode (mC mX11_counts) 338 = .ok (.iaload, 1) := by decide +kernel
theorem dX11_counts_339 : decode (mC mX11_counts) 339 = .ok (.if_icmp .ge 8, 3) := by decide +kernel
theorem dX11_counts_342 : decode (mC mX11_counts) 342 = .ok (.iload 6, 2) := by decide +kernel
theorem dX11_counts_344 : decode (mC mX11_counts) 344 = .ok (.goto 9, 3) := by decide +kernel
theorem dX11_counts_347 : decode (mC mX11_counts) 347 = .ok (.aload_n 0, 1) := by decide +kernel
theorem dX11_counts_348 : decode (mC mX11_counts) 348 = .ok (.getfield 80, 3) := by decide +kernel
theorem dX11_counts_351 : decode (mC mX11_counts) 351 = .ok (.iload_n 3, 1) := by decide +kernel
theorem dX11_counts_352 : decode (mC mX11_counts) 352 = .ok (.iaload, 1) := by decide +kernel
theorem dX11_counts_353 : decode (mC mX11_counts) 353 = .ok (.iastore, 1) := by decide +kernel
theorem dX11_counts_354 : decode (mC mX11_counts) 354 = .ok (.aload_n 0, 1) := by decide +kernel
theorem dX11_counts_355 : decode (mC mX11_counts) 355 = .ok (.getfield 83, 3) := by decide +kernel
theorem dX11_counts_358 : decode (mC mX11_counts) 358 = .ok (.iload_n 3, 1) := by decide +kernel
theorem dX11_counts_359 : decode (mC mX11_counts) 359 = .ok (.dup2, 1) := by decide +kernel
theorem dX11_counts_360 : decode (mC mX11_counts) 360 = .ok (.iaload, 1) := by decide +kernel
theorem dX11_counts_361 : decode (mC mX11_counts) 361 = .ok (.iload 6, 2) := by decide +kernel
theorem dX11_counts_363 : decode (mC mX11_counts) 363 = .ok (.aload_n 0, 1) := by decide +kernel
theorem dX11_counts_364 : decode (mC mX11_counts) 364 = .ok (.getfield 80, 3) := by decide +kernel
theorem dX11_counts_367 : decode (mC mX11_counts) 367 = .ok (.iload_n 3, 1) := by decide +kernel
theorem dX11_counts_368 : decode (mC mX11_counts) 368 = .ok (.iaload, 1) := by decide +kernel
theorem dX11_counts_369 : decode (mC mX11_counts) 369 = .ok (.if_icmp .ne 23, 3) := by decide +kernel
theorem dX11_counts_372 : decode (mC mX11_counts) 372 = .ok (.aload_n 0, 1) := by decide +kernel
theorem dX11_counts_373 : decode (mC mX11_counts) 373 = .ok (.getfield 77, 3) := by decide +kernel
theorem dX11_counts_376 : decode (mC mX11_counts) 376 = .ok (.iload 5, 2) := by decide +kernel
theorem dX11_counts_378 : decode (mC mX11_counts) 378 = .ok (.iaload, 1) := by decide +kernel
theorem dX11_counts_379 : decode (mC mX11_counts) 379 = .ok (.aload_n 0, 1) := by decide +kernel
theorem dX11_counts_380 : decode (mC mX11_counts) 380 = .ok (.getfield 83, 3) := by decide +kernel
theorem dX11_counts_383 : decode (mC mX11_counts) 383 = .ok (.iload_n 3, 1) := by decide +kernel
theorem dX11_counts_384 : decode (mC mX11_counts) 384 = .ok (.iload 5, 2) := by decide +kernel
theorem dX11_counts_386 : decode (mC mX11_counts) 386 = .ok (.isub, 1) := by decide +kernel
theorem dX11_counts_387 : decode (mC mX11_counts) 387 = .ok (.iaload, 1) := by decide +kernel
theorem dX11_counts_388 : decode (mC mX11_counts) 388 = .ok (.imul, 1) := by decide +kernel
theorem dX11_counts_389 : decode (mC mX11_counts) 389 = .ok (.goto 4, 3) := by decide +kernel
theorem dX11_counts_392 : decode (mC mX11_counts) 392 = .ok (.iconst 0, 1) := by decide +kernel
theorem dX11_counts_393 : decode (mC mX11_counts) 393 = .ok (.iadd, 1) := by decide +kernel
theorem dX11_counts_394 : decode (mC mX11_counts) 394 = .ok (.iastore, 1) := by decide +kernel
theorem dX11_counts_395 : decode (mC mX11_counts) 395 = .ok (.iload 5, 2) := by decide +kernel
theorem dX11_counts_397 : decode (mC mX11_counts) 397 = .ok (.iconst 1, 1) := by decide +kernel
theorem dX11_counts_398 : decode (mC mX11_counts) 398 = .ok (.isub, 1) := by decide +kernel
theorem dX11_counts_399 : decode (mC mX11_counts) 399 = .ok (.iload_n 3, 1) := by decide +kernel
theorem dX11_counts_400 : decode (mC mX11_counts) 400 = .ok (.iand, 1) := by decide +kernel
theorem dX11_counts_401 : decode (mC mX11_counts) 401 = .ok (.istore 5, 2) := by decide +kernel
theorem dX11_counts_403 : decode (mC mX11_counts) 403 = .ok (.goto (-134), 3) := by decide +kernel
theorem dX11_counts_406 : decode (mC mX11_counts) 406 = .ok (.iinc 3 1, 3) := by decide +kernel
theorem dX11_counts_409 : decode (mC mX11_counts) 409 = .ok (.goto (-170), 3) := by decide +kernel
theorem dX11_counts_412 : decode (mC mX11_counts) 412 = .ok (.return_, 1) := by decide +kernel
theorem dX11_least_0 : decode (mC mX11_least) 0 = .ok (.aload_n 0, 1) := by decide +kernel
theorem dX11_least_1 : decode (mC mX11_least) 1 = .ok (.getfield 80, 3) := by decide +kernel
theorem dX11_least_4 : decode (mC mX11_least) 4 = .ok (.iconst 1, 1) := by decide +kernel
theorem dX11_least_5 : decode (mC mX11_least) 5 = .ok (.aload_n 0, 1) := by decide +kernel
theorem dX11_least_6 : decode (mC mX11_least) 6 = .ok (.invokevirtual 374, 3) := by decide +kernel
theorem dX11_least_9 : decode (mC mX11_least) 9 = .ok (.ishl, 1) := by decide +kernel
theorem dX11_least_10 : decode (mC mX11_least) 10 = .ok (.iconst 1, 1) := by decide +kernel
theorem dX11_least_11 : decode (mC mX11_least) 11 = .ok (.isub, 1) := by decide +kernel
theorem dX11_least_12 : decode (mC mX11_least) 12 = .ok (.iaload, 1) := by decide +kernel
theorem dX11_least_13 : decode (mC mX11_least) 13 = .ok (.ireturn, 1) := by decide +kernel
theorem dX11_mays_0 : decode (mC mX11_mays) 0 = .ok (.aload_n 0, 1) := by decide +kernel
theorem dX11_mays_1 : decode (mC mX11_mays) 1 = .ok (.iconst 0, 1) := by decide +kernel
theorem dX11_mays_2 : decode (mC mX11_mays) 2 = .ok (.putfield 395, 3) := by decide +kernel
theorem dX11_mays_5 : decode (mC mX11_mays) 5 = .ok (.iconst 0, 1) := by decide +kernel
theorem dX11_mays_6 : decode (mC mX11_mays) 6 = .ok (.istore_n 1, 1) := by decide +kernel
theorem dX11_mays_7 : decode (mC mX11_mays) 7 = .ok (.iload_n 1, 1) := by decide +kernel
theorem dX11_mays_8 : decode (mC mX11_mays) 8 = .ok (.aload_n 0, 1) := by decide +kernel
theorem dX11_mays_9 : decode (mC mX11_mays) 9 = .ok (.invokevirtual 374, 3) := by decide +kernel
theorem dX11_mays_12 : decode (mC mX11_mays) 12 = .ok (.if_icmp .ge 20, 3) := by decide +kernel
theorem dX11_mays_15 : decode (mC mX11_mays) 15 = .ok (.aload_n 0, 1) := by decide +kernel
theorem dX11_mays_16 : decode (mC mX11_mays) 16 = .ok (.getfield 71, 3) := by decide +kernel
theorem dX11_mays_19 : decode (mC mX11_mays) 19 = .ok (.iload_n 1, 1) := by decide +kernel
theorem dX11_mays_20 : decode (mC mX11_mays) 20 = .ok (.aload_n 0, 1) := by decide +kernel
theorem dX11_mays_21 : decode (mC mX11_mays) 21 = .ok (.iload_n 1, 1) := by decide +kernel
theorem dX11_mays_22 : decode (mC mX11_mays) 22 = .ok (.invokevirtual 392, 3) := by decide +kernel
theorem dX11_mays_25 : decode (mC mX11_mays) 25 = .ok (.iastore, 1) := by decide +kernel
theorem dX11_mays_26 : decode (mC mX11_mays) 26 = .ok (.iinc 1 1, 3) := by decide +kernel
theorem dX11_mays_29 : decode (mC mX11_mays) 29 = .ok (.goto (-22), 3) := by decide +kernel
theorem dX11_mays_32 : decode (mC mX11_mays) 32 = .ok (.return_, 1) := by decide +kernel
theorem dX11_nextOf_0 : decode (mC mX11_nextOf) 0 = .ok (.aload_n 0, 1) := by decide +kernel
theorem dX11_nextOf_1 : decode (mC mX11_nextOf) 1 = .ok (.invokevirtual 398, 3) := by decide +kernel
theorem dX11_nextOf_4 : decode (mC mX11_nextOf) 4 = .ok (.istore_n 2, 1) := by decide +kernel
theorem dX11_nextOf_5 : decode (mC mX11_nextOf) 5 = .ok (.iconst 0, 1) := by decide +kernel
theorem dX11_nextOf_6 : decode (mC mX11_nextOf) 6 = .ok (.istore_n 3, 1) := by decide +kernel
theorem dX11_nextOf_7 : decode (mC mX11_nextOf) 7 = .ok (.iload_n 3, 1) := by decide +kernel
theorem dX11_nextOf_8 : decode (mC mX11_nextOf) 8 = .ok (.iload_n 1, 1) := by decide +kernel
theorem dX11_nextOf_9 : decode (mC mX11_nextOf) 9 = .ok (.if_icmp .gt 191, 3) := by decide +kernel
theorem dX11_nextOf_12 : decode (mC mX11_nextOf) 12 = .ok (.aload_n 0, 1) := by decide +kernel
theorem dX11_nextOf_13 : decode (mC mX11_nextOf) 13 = .ok (.getfield 71, 3) := by decide +kernel
theorem dX11_nextOf_16 : decode (mC mX11_nextOf) 16 = .ok (.iload_n 3, 1) := by decide +kernel
theorem dX11_nextOf_17 : decode (mC mX11_nextOf) 17 = .ok (.iaload, 1) := by decide +kernel
theorem dX11_nextOf_18 : decode (mC mX11_nextOf) 18 = .ok (.istore 4, 2) := by decide +kernel
theorem dX11_nextOf_20 : decode (mC mX11_nextOf) 20 = .ok (.iconst 0, 1) := by decide +kernel
theorem dX11_nextOf_21 : decode (mC mX11_nextOf) 21 = .ok (.istore 5, 2) := by decide +kernel
theorem dX11_nextOf_23 : decode (mC mX11_nextOf) 23 = .ok (.iconst 0, 1) := by decide +kernel
theorem dX11_nextOf_24 : decode (mC mX11_nextOf) 24 = .ok (.istore 6, 2) := by decide +kernel
theorem dX11_nextOf_26 : decode (mC mX11_nextOf) 26 = .ok (.iload 6, 2) := by decide +kernel
theorem dX11_nextOf_28 : decode (mC mX11_nextOf) 28 = .ok (.ifCond .ne 94, 3) := by decide +kernel
theorem dX11_nextOf_31 : decode (mC mX11_nextOf) 31 = .ok (.iload 5, 2) := by decide +kernel
theorem dX11_nextOf_33 : decode (mC mX11_nextOf) 33 = .ok (.aload_n 0, 1) := by decide +kernel
theorem dX11_nextOf_34 : decode (mC mX11_nextOf) 34 = .ok (.invokevirtual 374, 3) := by decide +kernel
theorem dX11_nextOf_37 : decode (mC mX11_nextOf) 37 = .ok (.if_icmp .ge 85, 3) := by decide +kernel
theorem dX11_nextOf_40 : decode (mC mX11_nextOf) 40 = .ok (.aload_n 0, 1) := by decide +kernel
theorem dX11_nextOf_41 : decode (mC mX11_nextOf) 41 = .ok (.getfield 71, 3) := by decide +kernel
theorem dX11_nextOf_44 : decode (mC mX11_nextOf) 44 = .ok (.iload_n 3, 1) := by decide +kernel
theorem dX11_nextOf_45 : decode (mC mX11_nextOf) 45 = .ok (.iload 4, 2) := by decide +kernel
theorem dX11_nextOf_47 : decode (mC mX11_nextOf) 47 = .ok (.iconst 1, 1) := by decide +kernel
theorem dX11_nextOf_48 : decode (mC mX11_nextOf) 48 = .ok (.iload 5, 2) := by decide +kernel
theorem dX11_nextOf_50 : decode (mC mX11_nextOf) 50 = .ok (.ishl, 1) := by decide +kernel
theorem dX11_nextOf_51 : decode (mC mX11_nextOf) 51 = .ok (.iand, 1) := by decide +kernel
theorem dX11_nextOf_52 : decode (mC mX11_nextOf) 52 = .ok (.iastore, 1) := by decide +kernel
theorem dX11_nextOf_53 : decode (mC mX11_nextOf) 53 = .ok (.aload_n 0, 1) := by decide +kernel
theorem dX11_nextOf_54 : decode (mC mX11_nextOf) 54 = .ok (.dup, 1) := by decide +kernel
theorem dX11_nextOf_55 : decode (mC mX11_nextOf) 55 = .ok (.getfield 395, 3) := by decide +kernel
theorem dX11_nextOf_58 : decode (mC mX11_nextOf) 58 = .ok (.iconst 1, 1) := by decide +kernel
theorem dX11_nextOf_59 : decode (mC mX11_nextOf) 59 = .ok (.iload_n 3, 1) := by decide +kernel
theorem dX11_nextOf_60 : decode (mC mX11_nextOf) 60 = .ok (.ishl, 1) := by decide +kernel
theorem dX11_nextOf_61 : decode (mC mX11_nextOf) 61 = .ok (.ior, 1) := by decide +kernel
theorem dX11_nextOf_62 : decode (mC mX11_nextOf) 62 = .ok (.putfield 395, 3) := by decide +kernel
theorem dX11_nextOf_65 : decode (mC mX11_nextOf) 65 = .ok (.aload_n 0, 1) := by decide +kernel
theorem dX11_nextOf_66 : decode (mC mX11_nextOf) 66 = .ok (.getfield 71, 3) := by decide +kernel
theorem dX11_nextOf_69 : decode (mC mX11_nextOf) 69 = .ok (.iload_n 3, 1) := by decide +kernel
theorem dX11_nextOf_70 : decode (mC mX11_nextOf) 70 = .ok (.iaload, 1) := by decide +kernel
theorem dX11_nextOf_71 : decode (mC mX11_nextOf) 71 = .ok (.ifCond .eq 9, 3) := by decide +kernel
theorem dX11_nextOf_74 : decode (mC mX11_nextOf) 74 = .ok (.aload_n 0, 1) := by decide +kernel
theorem dX11_nextOf_75 : decode (mC mX11_nextOf) 75 = .ok (.bipush 10, 2) := by decide +kernel
theorem dX11_nextOf_77 : decode (mC mX11_nextOf) 77 = .ok (.invokevirtual 401, 3) := by decide +kernel
theorem dX11_nextOf_80 : decode (mC mX11_nextOf) 80 = .ok (.aload_n 0, 1) := by decide +kernel
theorem dX11_nextOf_81 : decode (mC mX11_nextOf) 81 = .ok (.getfield 71, 3) := by decide +kernel
theorem dX11_nextOf_84 : decode (mC mX11_nextOf) 84 = .ok (.iload_n 3, 1) := by decide +kernel
theorem dX11_nextOf_85 : decode (mC mX11_nextOf) 85 = .ok (.iaload, 1) := by decide +kernel
theorem dX11_nextOf_86 : decode (mC mX11_nextOf) 86 = .ok (.ifCond .eq 15, 3) := by decide +kernel
theorem dX11_nextOf_89 : decode (mC mX11_nextOf) 89 = .ok (.aload_n 0, 1) := by decide +kernel
theorem dX11_nextOf_90 : decode (mC mX11_nextOf) 90 = .ok (.invokevirtual 398, 3) := by decide +kernel
theorem dX11_nextOf_93 : decode (mC mX11_nextOf) 93 = .ok (.iload_n 2, 1) := by decide +kernel
theorem dX11_nextOf_94 : decode (mC mX11_nextOf) 94 = .ok (.if_icmp .ne 7, 3) := by decide +kernel
theorem dX11_nextOf_97 : decode (mC mX11_nextOf) 97 = .ok (.iconst 1, 1) := by decide +kernel
theorem dX11_nextOf_98 : decode (mC mX11_nextOf) 98 = .ok (.goto 4, 3) := by decide +kernel
theorem dX11_nextOf_101 : decode (mC mX11_nextOf) 101 = .ok (.iconst 0, 1) := by decide +kernel
theorem dX11_nextOf_102 : decode (mC mX11_nextOf) 102 = .ok (.istore 6, 2) := by decide +kernel
theorem dX11_nextOf_104 : decode (mC mX11_nextOf) 104 = .ok (.iload 5, 2) := by decide +kernel
theorem dX11_nextOf_106 : decode (mC mX11_nextOf) 106 = .ok (.iload 6, 2) := by decide +kernel
theorem dX11_nextOf_108 : decode (mC mX11_nextOf) 108 = .ok (.ifCond .eq 7, 3) := by decide +kernel
theorem dX11_nextOf_111 : decode (mC mX11_nextOf) 111 = .ok (.iconst 0, 1) := by decide +kernel
theorem dX11_nextOf_112 : decode (mC mX11_nextOf) 112 = .ok (.goto 4, 3) := by decide +kernel
theorem dX11_nextOf_115 : decode (mC mX11_nextOf) 115 = .ok (.iconst 1, 1) := by decide +kernel
theorem dX11_nextOf_116 : decode (mC mX11_nextOf) 116 = .ok (.iadd, 1) := by decide +kernel
theorem dX11_nextOf_117 : decode (mC mX11_nextOf) 117 = .ok (.istore 5, 2) := by decide +kernel
theorem dX11_nextOf_119 : decode (mC mX11_nextOf) 119 = .ok (.goto (-93), 3) := by decide +kernel
theorem dX11_nextOf_122 : decode (mC mX11_nextOf) 122 = .ok (.iload 6, 2) := by decide +kernel
theorem dX11_nextOf_124 : decode (mC mX11_nextOf) 124 = .ok (.ifCond .ne 10, 3) := by decide +kernel
theorem dX11_nextOf_127 : decode (mC mX11_nextOf) 127 = .ok (.aload_n 0, 1) := by decide +kernel
theorem dX11_nextOf_128 : decode (mC mX11_nextOf) 128 = .ok (.getfield 71, 3) := by decide +kernel
theorem dX11_nextOf_131 : decode (mC mX11_nextOf) 131 = .ok (.iload_n 3, 1) := by decide +kernel
theorem dX11_nextOf_132 : decode (mC mX11_nextOf) 132 = .ok (.iconst 0, 1) := by decide +kernel
theorem dX11_nextOf_133 : decode (mC mX11_nextOf) 133 = .ok (.iastore, 1) := by decide +kernel
theorem dX11_nextOf_134 : decode (mC mX11_nextOf) 134 = .ok (.iload 6, 2) := by decide +kernel
theorem dX11_nextOf_136 : decode (mC mX11_nextOf) 136 = .ok (.ifCond .ne 17, 3) := by decide +kernel
theorem dX11_nextOf_139 : decode (mC mX11_nextOf) 139 = .ok (.aload_n 0, 1) := by decide +kernel
theorem dX11_nextOf_140 : decode (mC mX11_nextOf) 140 = .ok (.dup, 1) := by decide +kernel
theorem dX11_nextOf_141 : decode (mC mX11_nextOf) 141 = .ok (.getfield 395, 3) := by decide +kernel
theorem dX11_nextOf_144 : decode (mC mX11_nextOf) 144 = .ok (.iconst 1, 1) := by decide +kernel
theorem dX11_nextOf_145 : decode (mC mX11_nextOf) 145 = .ok (.iload_n 3, 1) := by decide +kernel
theorem dX11_nextOf_146 : decode (mC mX11_nextOf) 146 = .ok (.ishl, 1) := by decide +kernel
theorem dX11_nextOf_147 : decode (mC mX11_nextOf) 147 = .ok (.iconst (-1), 1) := by decide +kernel
theorem dX11_nextOf_148 : decode (mC mX11_nextOf) 148 = .ok (.ixor, 1) := by decide +kernel
theorem dX11_nextOf_149 : decode (mC mX11_nextOf) 149 = .ok (.iand, 1) := by decide +kernel
theorem dX11_nextOf_150 : decode (mC mX11_nextOf) 150 = .ok (.putfield 395, 3) := by decide +kernel
theorem dX11_nextOf_153 : decode (mC mX11_nextOf) 153 = .ok (.iload_n 3, 1) := by decide +kernel
theorem dX11_nextOf_154 : decode (mC mX11_nextOf) 154 = .ok (.iconst 1, 1) := by decide +kernel
theorem dX11_nextOf_155 : decode (mC mX11_nextOf) 155 = .ok (.iadd, 1) := by decide +kernel
theorem dX11_nextOf_156 : decode (mC mX11_nextOf) 156 = .ok (.istore 7, 2) := by decide +kernel
theorem dX11_nextOf_158 : decode (mC mX11_nextOf) 158 = .ok (.iload 7, 2) := by decide +kernel
theorem dX11_nextOf_160 : decode (mC mX11_nextOf) 160 = .ok (.aload_n 0, 1) := by decide +kernel
theorem dX11_nextOf_161 : decode (mC mX11_nextOf) 161 = .ok (.invokevirtual 374, 3) := by decide +kernel
theorem dX11_nextOf_164 : decode (mC mX11_nextOf) 164 = .ok (.if_icmp .ge 30, 3) := by decide +kernel
theorem dX11_nextOf_167 : decode (mC mX11_nextOf) 167 = .ok (.iload 6, 2) := by decide +kernel
theorem dX11_nextOf_169 : decode (mC mX11_nextOf) 169 = .ok (.ifCond .eq 25, 3) := by decide +kernel
theorem dX11_nextOf_172 : decode (mC mX11_nextOf) 172 = .ok (.aload_n 0, 1) := by decide +kernel
theorem dX11_nextOf_173 : decode (mC mX11_nextOf) 173 = .ok (.getfield 71, 3) := by decide +kernel
theorem dX11_nextOf_176 : decode (mC mX11_nextOf) 176 = .ok (.iload 7, 2) := by decide +kernel
theorem dX11_nextOf_178 : decode (mC mX11_nextOf) 178 = .ok (.dup2, 1) := by decide +kernel
theorem dX11_nextOf_179 : decode (mC mX11_nextOf) 179 = .ok (.iaload, 1) := by decide +kernel
theorem dX11_nextOf_180 : decode (mC mX11_nextOf) 180 = .ok (.iconst 1, 1) := by decide +kernel
theorem dX11_nextOf_181 : decode (mC mX11_nextOf) 181 = .ok (.iload 5, 2) := by decide +kernel
theorem dX11_nextOf_183 : decode (mC mX11_nextOf) 183 = .ok (.ishl, 1) := by decide +kernel
theorem dX11_nextOf_184 : decode (mC mX11_nextOf) 184 = .ok (.iconst (-1), 1) := by decide +kernel
theorem dX11_nextOf_185 : decode (mC mX11_nextOf) 185 = .ok (.ixor, 1) := by decide +kernel
theorem dX11_nextOf_186 : decode (mC mX11_nextOf) 186 = .ok (.iand, 1) := by decide +kernel
theorem dX11_nextOf_187 : decode (mC mX11_nextOf) 187 = .ok (.iastore, 1) := by decide +kernel
theorem dX11_nextOf_188 : decode (mC mX11_nextOf) 188 = .ok (.iinc 7 1, 3) := by decide +kernel
theorem dX11_nextOf_191 : decode (mC mX11_nextOf) 191 = .ok (.goto (-33), 3) := by decide +kernel
theorem dX11_nextOf_194 : decode (mC mX11_nextOf) 194 = .ok (.iinc 3 1, 3) := by decide +kernel
theorem dX11_nextOf_197 : decode (mC mX11_nextOf) 197 = .ok (.goto (-190), 3) := by decide +kernel
theorem dX11_nextOf_200 : decode (mC mX11_nextOf) 200 = .ok (.aload_n 0, 1) := by decide +kernel
theorem dX11_nextOf_201 : decode (mC mX11_nextOf) 201 = .ok (.getfield 71, 3) := by decide +kernel
theorem dX11_nextOf_204 : decode (mC mX11_nextOf) 204 = .ok (.iload_n 1, 1) := by decide +kernel
theorem dX11_nextOf_205 : decode (mC mX11_nextOf) 205 = .ok (.iaload, 1) := by decide +kernel
theorem dX11_nextOf_206 : decode (mC mX11_nextOf) 206 = .ok (.istore_n 3, 1) := by decide +kernel
theorem dX11_nextOf_207 : decode (mC mX11_nextOf) 207 = .ok (.iconst 0, 1) := by decide +kernel
theorem dX11_nextOf_208 : decode (mC mX11_nextOf) 208 = .ok (.istore 4, 2) := by decide +kernel
theorem dX11_nextOf_210 : decode (mC mX11_nextOf) 210 = .ok (.iload 4, 2) := by decide +kernel
theorem dX11_nextOf_212 : decode (mC mX11_nextOf) 212 = .ok (.aload_n 0, 1) := by decide +kernel
theorem dX11_nextOf_213 : decode (mC mX11_nextOf) 213 = .ok (.invokevirtual 374, 3) := by decide +kernel
theorem dX11_nextOf_216 : decode (mC mX11_nextOf) 216 = .ok (.if_icmp .ge 20, 3) := by decide +kernel
theorem dX11_nextOf_219 : decode (mC mX11_nextOf) 219 = .ok (.iload_n 3, 1) := by decide +kernel
theorem dX11_nextOf_220 : decode (mC mX11_nextOf) 220 = .ok (.iconst 1, 1) := by decide +kernel
theorem dX11_nextOf_221 : decode (mC mX11_nextOf) 221 = .ok (.iload 4, 2) := by decide +kernel
theorem dX11_nextOf_223 : decode (mC mX11_nextOf) 223 = .ok (.ishl, 1) := by decide +kernel
theorem dX11_nextOf_224 : decode (mC mX11_nextOf) 224 = .ok (.if_icmp .ne 6, 3) := by decide +kernel
theorem dX11_nextOf_227 : decode (mC mX11_nextOf) 227 = .ok (.iload 4, 2) := by decide +kernel
theorem dX11_nextOf_229 : decode (mC mX11_nextOf) 229 = .ok (.ireturn, 1) := by decide +kernel
theorem dX11_nextOf_230 : decode (mC mX11_nextOf) 230 = .ok (.iinc 4 1, 3) := by decide +kernel
theorem dX11_nextOf_233 : decode (mC mX11_nextOf) 233 = .ok (.goto (-23), 3) := by decide +kernel
theorem dX11_nextOf_236 : decode (mC mX11_nextOf) 236 = .ok (.iconst (-1), 1) := by decide +kernel
theorem dX11_nextOf_237 : decode (mC mX11_nextOf) 237 = .ok (.ireturn, 1) := by decide +kernel
theorem dX11_walks_0 : decode (mC mX11_walks) 0 = .ok (.aload_n 0, 1) := by decide +kernel
theorem dX11_walks_1 : decode (mC mX11_walks) 1 = .ok (.iload_n 1, 1) := by decide +kernel
theorem dX11_walks_2 : decode (mC mX11_walks) 2 = .ok (.iload_n 2, 1) := by decide +kernel
theorem dX11_walks_3 : decode (mC mX11_walks) 3 = .ok (.invokevirtual 383, 3) := by decide +kernel
theorem dX11_walks_6 : decode (mC mX11_walks) 6 = .ok (.ifCond .eq 28, 3) := by decide +kernel
theorem dX11_walks_9 : decode (mC mX11_walks) 9 = .ok (.iload_n 3, 1) := by decide +kernel
theorem dX11_walks_10 : decode (mC mX11_walks) 10 = .ok (.ifCond .eq 27, 3) := by decide +kernel
theorem dX11_walks_13 : decode (mC mX11_walks) 13 = .ok (.iload_n 3, 1) := by decide +kernel
theorem dX11_walks_14 : decode (mC mX11_walks) 14 = .ok (.iconst 1, 1) := by decide +kernel
theorem dX11_walks_15 : decode (mC mX11_walks) 15 = .ok (.if_icmp .eq 22, 3) := by decide +kernel
theorem dX11_walks_18 : decode (mC mX11_walks) 18 = .ok (.iload_n 3, 1) := by decide +kernel
theorem dX11_walks_19 : decode (mC mX11_walks) 19 = .ok (.bipush 10, 2) := by decide +kernel
theorem dX11_walks_21 : decode (mC mX11_walks) 21 = .ok (.bipush 9, 2) := by decide +kernel
theorem dX11_walks_23 : decode (mC mX11_walks) 23 = .ok (.aload_n 0, 1) := by decide +kernel
theorem dX11_walks_24 : decode (mC mX11_walks) 24 = .ok (.invokevirtual 374, 3) := by decide +kernel
theorem dX11_walks_27 : decode (mC mX11_walks) 27 = .ok (.iadd, 1) := by decide +kernel
theorem dX11_walks_28 : decode (mC mX11_walks) 28 = .ok (.invokestatic 140, 3) := by decide +kernel
theorem dX11_walks_31 : decode (mC mX11_walks) 31 = .ok (.ifCond .ne 6, 3) := by decide +kernel
theorem dX11_walks_34 : decode (mC mX11_walks) 34 = .ok (.bipush (-2), 2) := by decide +kernel
theorem dX11_walks_36 : decode (mC mX11_walks) 36 = .ok (.ireturn, 1) := by decide +kernel
theorem dX11_walks_37 : decode (mC mX11_walks) 37 = .ok (.aload_n 0, 1) := by decide +kernel
theorem dX11_walks_38 : decode (mC mX11_walks) 38 = .ok (.invokevirtual 404, 3) := by decide +kernel
theorem dX11_walks_41 : decode (mC mX11_walks) 41 = .ok (.aload_n 0, 1) := by decide +kernel
theorem dX11_walks_42 : decode (mC mX11_walks) 42 = .ok (.bipush 10, 2) := by decide +kernel
theorem dX11_walks_44 : decode (mC mX11_walks) 44 = .ok (.invokevirtual 401, 3) := by decide +kernel
theorem dX11_walks_47 : decode (mC mX11_walks) 47 = .ok (.iload_n 3, 1) := by decide +kernel
theorem dX11_walks_48 : decode (mC mX11_walks) 48 = .ok (.iconst 2, 1) := by decide +kernel
theorem dX11_walks_49 : decode (mC mX11_walks) 49 = .ok (.if_icmp .ge 28, 3) := by decide +kernel
theorem dX11_walks_52 : decode (mC mX11_walks) 52 = .ok (.iload_n 3, 1) := by decide +kernel
theorem dX11_walks_53 : decode (mC mX11_walks) 53 = .ok (.ifCond .ne 10, 3) := by decide +kernel
theorem dX11_walks_56 : decode (mC mX11_walks) 56 = .ok (.aload_n 0, 1) := by decide +kernel
theorem dX11_walks_57 : decode (mC mX11_walks) 57 = .ok (.invokevirtual 398, 3) := by decide +kernel
theorem dX11_walks_60 : decode (mC mX11_walks) 60 = .ok (.goto 16, 3) := by decide +kernel
theorem dX11_walks_63 : decode (mC mX11_walks) 63 = .ok (.aload_n 0, 1) := by decide +kernel
theorem dX11_walks_64 : decode (mC mX11_walks) 64 = .ok (.getfield 83, 3) := by decide +kernel
theorem dX11_walks_67 : decode (mC mX11_walks) 67 = .ok (.iconst 1, 1) := by decide +kernel
theorem dX11_walks_68 : decode (mC mX11_walks) 68 = .ok (.aload_n 0, 1) := by decide +kernel
theorem dX11_walks_69 : decode (mC mX11_walks) 69 = .ok (.invokevirtual 374, 3) := by decide +kernel
theorem dX11_walks_72 : decode (mC mX11_walks) 72 = .ok (.ishl, 1) := by decide +kernel
theorem dX11_walks_73 : decode (mC mX11_walks) 73 = .ok (.iconst 1, 1) := by decide +kernel
theorem dX11_walks_74 : decode (mC mX11_walks) 74 = .ok (.isub, 1) := by decide +kernel
theorem dX11_walks_75 : decode (mC mX11_walks) 75 = .ok (.iaload, 1) := by decide +kernel
theorem dX11_walks_76 : decode (mC mX11_walks) 76 = .ok (.ireturn, 1) := by decide +kernel
theorem dX11_walks_77 : decode (mC mX11_walks) 77 = .ok (.aload_n 0, 1) := by decide +kernel
theorem dX11_walks_78 : decode (mC mX11_walks) 78 = .ok (.iload_n 3, 1) := by decide +kernel
theorem dX11_walks_79 : decode (mC mX11_walks) 79 = .ok (.bipush 10, 2) := by decide +kernel
theorem dX11_walks_81 : decode (mC mX11_walks) 81 = .ok (.isub, 1) := by decide +kernel
theorem dX11_walks_82 : decode (mC mX11_walks) 82 = .ok (.invokevirtual 407, 3) := by decide +kernel
theorem dX11_walks_85 : decode (mC mX11_walks) 85 = .ok (.ireturn, 1) := by decide +kernel
theorem dX11_row_0 : decode (mC mX11_row) 0 = .ok (.aload_n 0, 1) := by decide +kernel
theorem dX11_row_1 : decode (mC mX11_row) 1 = .ok (.iload_n 1, 1) := by decide +kernel
theorem dX11_row_2 : decode (mC mX11_row) 2 = .ok (.iload_n 2, 1) := by decide +kernel
theorem dX11_row_3 : decode (mC mX11_row) 3 = .ok (.invokevirtual 383, 3) := by decide +kernel
theorem dX11_row_6 : decode (mC mX11_row) 6 = .ok (.ifCond .eq 12, 3) := by decide +kernel
theorem dX11_row_9 : decode (mC mX11_row) 9 = .ok (.iload_n 3, 1) := by decide +kernel
theorem dX11_row_10 : decode (mC mX11_row) 10 = .ok (.iconst 1, 1) := by decide +kernel
theorem dX11_row_11 : decode (mC mX11_row) 11 = .ok (.iconst 4, 1) := by decide +kernel
theorem dX11_row_12 : decode (mC mX11_row) 12 = .ok (.invokestatic 140, 3) := by decide +kernel
theorem dX11_row_15 : decode (mC mX11_row) 15 = .ok (.ifCond .ne 6, 3) := by decide +kernel
theorem dX11_row_18 : decode (mC mX11_row) 18 = .ok (.bipush (-2), 2) := by decide +kernel
theorem dX11_row_20 : decode (mC mX11_row) 20 = .ok (.ireturn, 1) := by decide +kernel
theorem dX11_row_21 : decode (mC mX11_row) 21 = .ok (.aload_n 0, 1) := by decide +kernel
theorem dX11_row_22 : decode (mC mX11_row) 22 = .ok (.invokevirtual 404, 3) := by decide +kernel
theorem dX11_row_25 : decode (mC mX11_row) 25 = .ok (.aload_n 0, 1) := by decide +kernel
theorem dX11_row_26 : decode (mC mX11_row) 26 = .ok (.iload_n 3, 1) := by decide +kernel
theorem dX11_row_27 : decode (mC mX11_row) 27 = .ok (.invokevirtual 401, 3) := by decide +kernel
theorem dX11_row_30 : decode (mC mX11_row) 30 = .ok (.aload_n 0, 1) := by decide +kernel
theorem dX11_row_31 : decode (mC mX11_row) 31 = .ok (.invokevirtual 398, 3) := by decide +kernel
theorem dX11_row_34 : decode (mC mX11_row) 34 = .ok (.ireturn, 1) := by decide +kernel
theorem dX11_drawn_0 : decode (mC mX11_drawn) 0 = .ok (.aload_n 0, 1) := by decide +kernel
theorem dX11_drawn_1 : decode (mC mX11_drawn) 1 = .ok (.iload_n 1, 1) := by decide +kernel
theorem dX11_drawn_2 : decode (mC mX11_drawn) 2 = .ok (.invokevirtual 215, 3) := by decide +kernel
theorem dX11_drawn_5 : decode (mC mX11_drawn) 5 = .ok (.ifCond .eq 35, 3) := by decide +kernel
theorem dX11_drawn_8 : decode (mC mX11_drawn) 8 = .ok (.iload_n 3, 1) := by decide +kernel
theorem dX11_drawn_9 : decode (mC mX11_drawn) 9 = .ok (.iconst 0, 1) := by decide +kernel
theorem dX11_drawn_10 : decode (mC mX11_drawn) 10 = .ok (.bipush 100, 2) := by decide +kernel
theorem dX11_drawn_12 : decode (mC mX11_drawn) 12 = .ok (.invokestatic 140, 3) := by decide +kernel
theorem dX11_drawn_15 : decode (mC mX11_drawn) 15 = .ok (.ifCond .eq 25, 3) := by decide +kernel
theorem dX11_drawn_18 : decode (mC mX11_drawn) 18 = .ok (.iload 4, 2) := by decide +kernel
theorem dX11_drawn_20 : decode (mC mX11_drawn) 20 = .ok (.iconst 0, 1) := by decide +kernel
theorem dX11_drawn_21 : decode (mC mX11_drawn) 21 = .ok (.iconst 2, 1) := by decide +kernel
theorem dX11_drawn_22 : decode (mC mX11_drawn) 22 = .ok (.invokestatic 140, 3) := by decide +kernel
theorem dX11_drawn_25 : decode (mC mX11_drawn) 25 = .ok (.ifCond .ne 17, 3) := by decide +kernel
theorem dX11_drawn_28 : decode (mC mX11_drawn) 28 = .ok (.aload_n 0, 1) := by decide +kernel
theorem dX11_drawn_29 : decode (mC mX11_drawn) 29 = .ok (.iload 4, 2) := by decide +kernel
theorem dX11_drawn_31 : decode (mC mX11_drawn) 31 = .ok (.bipush 10, 2) := by decide +kernel
theorem dX11_drawn_33 : decode (mC mX11_drawn) 33 = .ok (.isub, 1) := by decide +kernel
theorem dX11_drawn_34 : decode (mC mX11_drawn) 34 = .ok (.invokevirtual 282, 3) := by decide +kernel
theorem dX11_drawn_37 : decode (mC mX11_drawn) 37 = .ok (.ifCond .ne 5, 3) := by decide +kernel
theorem dX11_drawn_40 : decode (mC mX11_drawn) 40 = .ok (.iconst (-1), 1) := by decide +kernel
theorem dX11_drawn_41 : decode (mC mX11_drawn) 41 = .ok (.ireturn, 1) := by decide +kernel
theorem dX11_drawn_42 : decode (mC mX11_drawn) 42 = .ok (.iload_n 2, 1) := by decide +kernel
theorem dX11_drawn_43 : decode (mC mX11_drawn) 43 = .ok (.istore 5, 2) := by decide +kernel
theorem dX11_drawn_45 : decode (mC mX11_drawn) 45 = .ok (.iconst 0, 1) := by decide +kernel
theorem dX11_drawn_46 : decode (mC mX11_drawn) 46 = .ok (.istore 6, 2) := by decide +kernel
theorem dX11_drawn_48 : decode (mC mX11_drawn) 48 = .ok (.iconst 0, 1) := by decide +kernel
theorem dX11_drawn_49 : decode (mC mX11_drawn) 49 = .ok (.istore 7, 2) := by decide +kernel
theorem dX11_drawn_51 : decode (mC mX11_drawn) 51 = .ok (.iload 7, 2) := by decide +kernel
theorem dX11_drawn_53 : decode (mC mX11_drawn) 53 = .ok (.bipush 100, 2) := by decide +kernel
theorem dX11_drawn_55 : decode (mC mX11_drawn) 55 = .ok (.if_icmp .ge 65, 3) := by decide +kernel
theorem dX11_drawn_58 : decode (mC mX11_drawn) 58 = .ok (.iload 5, 2) := by decide +kernel
theorem dX11_drawn_60 : decode (mC mX11_drawn) 60 = .ok (.ldc_w 410, 3) := by decide +kernel
theorem dX11_drawn_63 : decode (mC mX11_drawn) 63 = .ok (.imul, 1) := by decide +kernel
theorem dX11_drawn_64 : decode (mC mX11_drawn) 64 = .ok (.sipush 12345, 3) := by decide +kernel
theorem dX11_drawn_67 : decode (mC mX11_drawn) 67 = .ok (.iadd, 1) := by decide +kernel
theorem dX11_drawn_68 : decode (mC mX11_drawn) 68 = .ok (.istore 5, 2) := by decide +kernel
theorem dX11_drawn_70 : decode (mC mX11_drawn) 70 = .ok (.aload_n 0, 1) := by decide +kernel
theorem dX11_drawn_71 : decode (mC mX11_drawn) 71 = .ok (.getfield 20, 3) := by decide +kernel
theorem dX11_drawn_74 : decode (mC mX11_drawn) 74 = .ok (.iload 7, 2) := by decide +kernel
theorem dX11_drawn_76 : decode (mC mX11_drawn) 76 = .ok (.iload 5, 2) := by decide +kernel
theorem dX11_drawn_78 : decode (mC mX11_drawn) 78 = .ok (.bipush 16, 2) := by decide +kernel
theorem dX11_drawn_80 : decode (mC mX11_drawn) 80 = .ok (.iushr, 1) := by decide +kernel
theorem dX11_drawn_81 : decode (mC mX11_drawn) 81 = .ok (.bipush 100, 2) := by decide +kernel
theorem dX11_drawn_83 : decode (mC mX11_drawn) 83 = .ok (.irem, 1) := by decide +kernel
theorem dX11_drawn_84 : decode (mC mX11_drawn) 84 = .ok (.iload_n 3, 1) := by decide +kernel
theorem dX11_drawn_85 : decode (mC mX11_drawn) 85 = .ok (.if_icmp .ge 7, 3) := by decide +kernel
theorem dX11_drawn_88 : decode (mC mX11_drawn) 88 = .ok (.iconst 1, 1) := by decide +kernel
theorem dX11_drawn_89 : decode (mC mX11_drawn) 89 = .ok (.goto 4, 3) := by decide +kernel
theorem dX11_drawn_92 : decode (mC mX11_drawn) 92 = .ok (.iconst 0, 1) := by decide +kernel
theorem dX11_drawn_93 : decode (mC mX11_drawn) 93 = .ok (.bastore, 1) := by decide +kernel
theorem dX11_drawn_94 : decode (mC mX11_drawn) 94 = .ok (.iload 6, 2) := by decide +kernel
theorem dX11_drawn_96 : decode (mC mX11_drawn) 96 = .ok (.aload_n 0, 1) := by decide +kernel
theorem dX11_drawn_97 : decode (mC mX11_drawn) 97 = .ok (.getfield 20, 3) := by decide +kernel
theorem dX11_drawn_100 : decode (mC mX11_drawn) 100 = .ok (.iload 7, 2) := by decide +kernel
theorem dX11_drawn_102 : decode (mC mX11_drawn) 102 = .ok (.baload, 1) := by decide +kernel
theorem dX11_drawn_103 : decode (mC mX11_drawn) 103 = .ok (.ifCond .eq 7, 3) := by decide +kernel
theorem dX11_drawn_106 : decode (mC mX11_drawn) 106 = .ok (.iconst 1, 1) := by decide +kernel
theorem dX11_drawn_107 : decode (mC mX11_drawn) 107 = .ok (.goto 4, 3) := by decide +kernel
theorem dX11_drawn_110 : decode (mC mX11_drawn) 110 = .ok (.iconst 0, 1) := by decide +kernel
theorem dX11_drawn_111 : decode (mC mX11_drawn) 111 = .ok (.iadd, 1) := by decide +kernel
theorem dX11_drawn_112 : decode (mC mX11_drawn) 112 = .ok (.istore 6, 2) := by decide +kernel
theorem dX11_drawn_114 : decode (mC mX11_drawn) 114 = .ok (.iinc 7 1, 3) := by decide +kernel
theorem dX11_drawn_117 : decode (mC mX11_drawn) 117 = .ok (.goto (-66), 3) := by decide +kernel
theorem dX11_drawn_120 : decode (mC mX11_drawn) 120 = .ok (.aload_n 0, 1) := by decide +kernel
theorem dX11_drawn_121 : decode (mC mX11_drawn) 121 = .ok (.bipush 99, 2) := by decide +kernel
theorem dX11_drawn_123 : decode (mC mX11_drawn) 123 = .ok (.invokevirtual 288, 3) := by decide +kernel
theorem dX11_drawn_126 : decode (mC mX11_drawn) 126 = .ok (.iload 4, 2) := by decide +kernel
theorem dX11_drawn_128 : decode (mC mX11_drawn) 128 = .ok (.ifCond .ne 10, 3) := by decide +kernel
theorem dX11_drawn_131 : decode (mC mX11_drawn) 131 = .ok (.aload_n 0, 1) := by decide +kernel
theorem dX11_drawn_132 : decode (mC mX11_drawn) 132 = .ok (.getfield 264, 3) := by decide +kernel
theorem dX11_drawn_135 : decode (mC mX11_drawn) 135 = .ok (.goto 39, 3) := by decide +kernel
theorem dX11_drawn_138 : decode (mC mX11_drawn) 138 = .ok (.iload 4, 2) := by decide +kernel
theorem dX11_drawn_140 : decode (mC mX11_drawn) 140 = .ok (.iconst 1, 1) := by decide +kernel
theorem dX11_drawn_141 : decode (mC mX11_drawn) 141 = .ok (.if_icmp .ne 12, 3) := by decide +kernel
theorem dX11_drawn_144 : decode (mC mX11_drawn) 144 = .ok (.aload_n 0, 1) := by decide +kernel
theorem dX11_drawn_145 : decode (mC mX11_drawn) 145 = .ok (.iconst 2, 1) := by decide +kernel
theorem dX11_drawn_146 : decode (mC mX11_drawn) 146 = .ok (.iconst (-1), 1) := by decide +kernel
theorem dX11_drawn_147 : decode (mC mX11_drawn) 147 = .ok (.invokevirtual 303, 3) := by decide +kernel
theorem dX11_drawn_150 : decode (mC mX11_drawn) 150 = .ok (.goto 24, 3) := by decide +kernel
theorem dX11_drawn_153 : decode (mC mX11_drawn) 153 = .ok (.iload 4, 2) := by decide +kernel
theorem dX11_drawn_155 : decode (mC mX11_drawn) 155 = .ok (.iconst 2, 1) := by decide +kernel
theorem dX11_drawn_156 : decode (mC mX11_drawn) 156 = .ok (.if_icmp .ne 8, 3) := by decide +kernel
theorem dX11_drawn_159 : decode (mC mX11_drawn) 159 = .ok (.iload 6, 2) := by decide +kernel
theorem dX11_drawn_161 : decode (mC mX11_drawn) 161 = .ok (.goto 13, 3) := by decide +kernel
theorem dX11_drawn_164 : decode (mC mX11_drawn) 164 = .ok (.aload_n 0, 1) := by decide +kernel
theorem dX11_drawn_165 : decode (mC mX11_drawn) 165 = .ok (.iconst 0, 1) := by decide +kernel
theorem dX11_drawn_166 : decode (mC mX11_drawn) 166 = .ok (.iload 4, 2) := by decide +kernel
theorem dX11_drawn_168 : decode (mC mX11_drawn) 168 = .ok (.bipush 10, 2) := by decide +kernel
theorem dX11_drawn_170 : decode (mC mX11_drawn) 170 = .ok (.isub, 1) := by decide +kernel
theorem dX11_drawn_171 : decode (mC mX11_drawn) 171 = .ok (.invokevirtual 303, 3) := by decide +kernel
theorem dX11_drawn_174 : decode (mC mX11_drawn) 174 = .ok (.ireturn, 1) := by decide +kernel
theorem dX11_hidden_0 : decode (mC mX11_hidden) 0 = .ok (.iconst 0, 1) := by decide +kernel
theorem dX11_hidden_1 : decode (mC mX11_hidden) 1 = .ok (.istore_n 1, 1) := by decide +kernel
theorem dX11_hidden_2 : decode (mC mX11_hidden) 2 = .ok (.iconst 0, 1) := by decide +kernel
theorem dX11_hidden_3 : decode (mC mX11_hidden) 3 = .ok (.istore_n 2, 1) := by decide +kernel
theorem dX11_hidden_4 : decode (mC mX11_hidden) 4 = .ok (.iload_n 2, 1) := by decide +kernel
theorem dX11_hidden_5 : decode (mC mX11_hidden) 5 = .ok (.aload_n 0, 1) := by decide +kernel
theorem dX11_hidden_6 : decode (mC mX11_hidden) 6 = .ok (.getfield 264, 3) := by decide +kernel
theorem dX11_hidden_9 : decode (mC mX11_hidden) 9 = .ok (.if_icmp .ge 31, 3) := by decide +kernel
theorem dX11_hidden_12 : decode (mC mX11_hidden) 12 = .ok (.iload_n 1, 1) := by decide +kernel
theorem dX11_hidden_13 : decode (mC mX11_hidden) 13 = .ok (.aload_n 0, 1) := by decide +kernel
theorem dX11_hidden_14 : decode (mC mX11_hidden) 14 = .ok (.aload_n 0, 1) := by decide +kernel
theorem dX11_hidden_15 : decode (mC mX11_hidden) 15 = .ok (.getfield 29, 3) := by decide +kernel
theorem dX11_hidden_18 : decode (mC mX11_hidden) 18 = .ok (.iload_n 2, 1) := by decide +kernel
theorem dX11_hidden_19 : decode (mC mX11_hidden) 19 = .ok (.iaload, 1) := by decide +kernel
theorem dX11_hidden_20 : decode (mC mX11_hidden) 20 = .ok (.invokevirtual 273, 3) := by decide +kernel
theorem dX11_hidden_23 : decode (mC mX11_hidden) 23 = .ok (.iload_n 2, 1) := by decide +kernel
theorem dX11_hidden_24 : decode (mC mX11_hidden) 24 = .ok (.if_icmp .ne 7, 3) := by decide +kernel
theorem dX11_hidden_27 : decode (mC mX11_hidden) 27 = .ok (.iconst 0, 1) := by decide +kernel
theorem dX11_hidden_28 : decode (mC mX11_hidden) 28 = .ok (.goto 4, 3) := by decide +kernel
theorem dX11_hidden_31 : decode (mC mX11_hidden) 31 = .ok (.iconst 1, 1) := by decide +kernel
theorem dX11_hidden_32 : decode (mC mX11_hidden) 32 = .ok (.iadd, 1) := by decide +kernel
theorem dX11_hidden_33 : decode (mC mX11_hidden) 33 = .ok (.istore_n 1, 1) := by decide +kernel
theorem dX11_hidden_34 : decode (mC mX11_hidden) 34 = .ok (.iinc 2 1, 3) := by decide +kernel
theorem dX11_hidden_37 : decode (mC mX11_hidden) 37 = .ok (.goto (-33), 3) := by decide +kernel
theorem dX11_hidden_40 : decode (mC mX11_hidden) 40 = .ok (.iload_n 1, 1) := by decide +kernel
theorem dX11_hidden_41 : decode (mC mX11_hidden) 41 = .ok (.ireturn, 1) := by decide +kernel
theorem dX11_twins_0 : decode (mC mX11_twins) 0 = .ok (.iconst 0, 1) := by decide +kernel
theorem dX11_twins_1 : decode (mC mX11_twins) 1 = .ok (.istore_n 1, 1) := by decide +kernel
theorem dX11_twins_2 : decode (mC mX11_twins) 2 = .ok (.iconst 0, 1) := by decide +kernel
theorem dX11_twins_3 : decode (mC mX11_twins) 3 = .ok (.istore_n 2, 1) := by decide +kernel
theorem dX11_twins_4 : decode (mC mX11_twins) 4 = .ok (.iload_n 2, 1) := by decide +kernel
theorem dX11_twins_5 : decode (mC mX11_twins) 5 = .ok (.aload_n 0, 1) := by decide +kernel
theorem dX11_twins_6 : decode (mC mX11_twins) 6 = .ok (.getfield 264, 3) := by decide +kernel
theorem dX11_twins_9 : decode (mC mX11_twins) 9 = .ok (.if_icmp .ge 95, 3) := by decide +kernel
theorem dX11_twins_12 : decode (mC mX11_twins) 12 = .ok (.iload_n 2, 1) := by decide +kernel
theorem dX11_twins_13 : decode (mC mX11_twins) 13 = .ok (.iconst 1, 1) := by decide +kernel
theorem dX11_twins_14 : decode (mC mX11_twins) 14 = .ok (.iadd, 1) := by decide +kernel
theorem dX11_twins_15 : decode (mC mX11_twins) 15 = .ok (.istore_n 3, 1) := by decide +kernel
theorem dX11_twins_16 : decode (mC mX11_twins) 16 = .ok (.iload_n 3, 1) := by decide +kernel
theorem dX11_twins_17 : decode (mC mX11_twins) 17 = .ok (.aload_n 0, 1) := by decide +kernel
theorem dX11_twins_18 : decode (mC mX11_twins) 18 = .ok (.getfield 264, 3) := by decide +kernel
theorem dX11_twins_21 : decode (mC mX11_twins) 21 = .ok (.if_icmp .ge 77, 3) := by decide +kernel
theorem dX11_twins_24 : decode (mC mX11_twins) 24 = .ok (.iload_n 1, 1) := by decide +kernel
theorem dX11_twins_25 : decode (mC mX11_twins) 25 = .ok (.aload_n 0, 1) := by decide +kernel
theorem dX11_twins_26 : decode (mC mX11_twins) 26 = .ok (.getfield 29, 3) := by decide +kernel
theorem dX11_twins_29 : decode (mC mX11_twins) 29 = .ok (.iload_n 2, 1) := by decide +kernel
theorem dX11_twins_30 : decode (mC mX11_twins) 30 = .ok (.iaload, 1) := by decide +kernel
theorem dX11_twins_31 : decode (mC mX11_twins) 31 = .ok (.aload_n 0, 1) := by decide +kernel
theorem dX11_twins_32 : decode (mC mX11_twins) 32 = .ok (.getfield 29, 3) := by decide +kernel
theorem dX11_twins_35 : decode (mC mX11_twins) 35 = .ok (.iload_n 3, 1) := by decide +kernel
theorem dX11_twins_36 : decode (mC mX11_twins) 36 = .ok (.iaload, 1) := by decide +kernel
theorem dX11_twins_37 : decode (mC mX11_twins) 37 = .ok (.if_icmp .ne 52, 3) := by decide +kernel
theorem dX11_twins_40 : decode (mC mX11_twins) 40 = .ok (.aload_n 0, 1) := by decide +kernel
theorem dX11_twins_41 : decode (mC mX11_twins) 41 = .ok (.getfield 32, 3) := by decide +kernel
theorem dX11_twins_44 : decode (mC mX11_twins) 44 = .ok (.iload_n 2, 1) := by decide +kernel
theorem dX11_twins_45 : decode (mC mX11_twins) 45 = .ok (.iaload, 1) := by decide +kernel
theorem dX11_twins_46 : decode (mC mX11_twins) 46 = .ok (.aload_n 0, 1) := by decide +kernel
theorem dX11_twins_47 : decode (mC mX11_twins) 47 = .ok (.getfield 32, 3) := by decide +kernel
theorem dX11_twins_50 : decode (mC mX11_twins) 50 = .ok (.iload_n 3, 1) := by decide +kernel
theorem dX11_twins_51 : decode (mC mX11_twins) 51 = .ok (.iaload, 1) := by decide +kernel
theorem dX11_twins_52 : decode (mC mX11_twins) 52 = .ok (.if_icmp .ne 37, 3) := by decide +kernel
theorem dX11_twins_55 : decode (mC mX11_twins) 55 = .ok (.aload_n 0, 1) := by decide +kernel
theorem dX11_twins_56 : decode (mC mX11_twins) 56 = .ok (.getfield 35, 3) := by decide +kernel
theorem dX11_twins_59 : decode (mC mX11_twins) 59 = .ok (.iload_n 2, 1) := by decide +kernel
theorem dX11_twins_60 : decode (mC mX11_twins) 60 = .ok (.iaload, 1) := by decide +kernel
theorem dX11_twins_61 : decode (mC mX11_twins) 61 = .ok (.aload_n 0, 1) := by decide +kernel
theorem dX11_twins_62 : decode (mC mX11_twins) 62 = .ok (.getfield 35, 3) := by decide +kernel
theorem dX11_twins_65 : decode (mC mX11_twins) 65 = .ok (.iload_n 3, 1) := by decide +kernel
theorem dX11_twins_66 : decode (mC mX11_twins) 66 = .ok (.iaload, 1) := by decide +kernel
theorem dX11_twins_67 : decode (mC mX11_twins) 67 = .ok (.if_icmp .ne 22, 3) := by decide +kernel
theorem dX11_twins_70 : decode (mC mX11_twins) 70 = .ok (.aload_n 0, 1) := by decide +kernel
theorem dX11_twins_71 : decode (mC mX11_twins) 71 = .ok (.getfield 38, 3) := by decide +kernel
theorem dX11_twins_74 : decode (mC mX11_twins) 74 = .ok (.iload_n 2, 1) := by decide +kernel
theorem dX11_twins_75 : decode (mC mX11_twins) 75 = .ok (.iaload, 1) := by decide +kernel
theorem dX11_twins_76 : decode (mC mX11_twins) 76 = .ok (.aload_n 0, 1) := by decide +kernel
theorem dX11_twins_77 : decode (mC mX11_twins) 77 = .ok (.getfield 38, 3) := by decide +kernel
theorem dX11_twins_80 : decode (mC mX11_twins) 80 = .ok (.iload_n 3, 1) := by decide +kernel
theorem dX11_twins_81 : decode (mC mX11_twins) 81 = .ok (.iaload, 1) := by decide +kernel
theorem dX11_twins_82 : decode (mC mX11_twins) 82 = .ok (.if_icmp .ne 7, 3) := by decide +kernel
theorem dX11_twins_85 : decode (mC mX11_twins) 85 = .ok (.iconst 1, 1) := by decide +kernel
theorem dX11_twins_86 : decode (mC mX11_twins) 86 = .ok (.goto 4, 3) := by decide +kernel
theorem dX11_twins_89 : decode (mC mX11_twins) 89 = .ok (.iconst 0, 1) := by decide +kernel
theorem dX11_twins_90 : decode (mC mX11_twins) 90 = .ok (.iadd, 1) := by decide +kernel
theorem dX11_twins_91 : decode (mC mX11_twins) 91 = .ok (.istore_n 1, 1) := by decide +kernel
theorem dX11_twins_92 : decode (mC mX11_twins) 92 = .ok (.iinc 3 1, 3) := by decide +kernel
theorem dX11_twins_95 : decode (mC mX11_twins) 95 = .ok (.goto (-79), 3) := by decide +kernel
theorem dX11_twins_98 : decode (mC mX11_twins) 98 = .ok (.iinc 2 1, 3) := by decide +kernel
theorem dX11_twins_101 : decode (mC mX11_twins) 101 = .ok (.goto (-97), 3) := by decide +kernel
theorem dX11_twins_104 : decode (mC mX11_twins) 104 = .ok (.iload_n 1, 1) := by decide +kernel
theorem dX11_twins_105 : decode (mC mX11_twins) 105 = .ok (.ireturn, 1) := by decide +kernel
theorem dX11_deepest_0 : decode (mC mX11_deepest) 0 = .ok (.iconst (-1), 1) := by decide +kernel
theorem dX11_deepest_1 : decode (mC mX11_deepest) 1 = .ok (.istore_n 1, 1) := by decide +kernel
theorem dX11_deepest_2 : decode (mC mX11_deepest) 2 = .ok (.iconst 0, 1) := by decide +kernel
theorem dX11_deepest_3 : decode (mC mX11_deepest) 3 = .ok (.istore_n 2, 1) := by decide +kernel
theorem dX11_deepest_4 : decode (mC mX11_deepest) 4 = .ok (.iload_n 2, 1) := by decide +kernel
theorem dX11_deepest_5 : decode (mC mX11_deepest) 5 = .ok (.aload_n 0, 1) := by decide +kernel
theorem dX11_deepest_6 : decode (mC mX11_deepest) 6 = .ok (.getfield 264, 3) := by decide +kernel
theorem dX11_deepest_9 : decode (mC mX11_deepest) 9 = .ok (.if_icmp .ge 34, 3) := by decide +kernel
theorem dX11_deepest_12 : decode (mC mX11_deepest) 12 = .ok (.iload_n 1, 1) := by decide +kernel
theorem dX11_deepest_13 : decode (mC mX11_deepest) 13 = .ok (.ifCond .lt 18, 3) := by decide +kernel
theorem dX11_deepest_16 : decode (mC mX11_deepest) 16 = .ok (.aload_n 0, 1) := by decide +kernel
theorem dX11_deepest_17 : decode (mC mX11_deepest) 17 = .ok (.getfield 41, 3) := by decide +kernel
theorem dX11_deepest_20 : decode (mC mX11_deepest) 20 = .ok (.iload_n 2, 1) := by decide +kernel
theorem dX11_deepest_21 : decode (mC mX11_deepest) 21 = .ok (.iaload, 1) := by decide +kernel
theorem dX11_deepest_22 : decode (mC mX11_deepest) 22 = .ok (.aload_n 0, 1) := by decide +kernel
theorem dX11_deepest_23 : decode (mC mX11_deepest) 23 = .ok (.getfield 41, 3) := by decide +kernel
theorem dX11_deepest_26 : decode (mC mX11_deepest) 26 = .ok (.iload_n 1, 1) := by decide +kernel
theorem dX11_deepest_27 : decode (mC mX11_deepest) 27 = .ok (.iaload, 1) := by decide +kernel
theorem dX11_deepest_28 : decode (mC mX11_deepest) 28 = .ok (.if_icmp .le 7, 3) := by decide +kernel
theorem dX11_deepest_31 : decode (mC mX11_deepest) 31 = .ok (.iload_n 2, 1) := by decide +kernel
theorem dX11_deepest_32 : decode (mC mX11_deepest) 32 = .ok (.goto 4, 3) := by decide +kernel
theorem dX11_deepest_35 : decode (mC mX11_deepest) 35 = .ok (.iload_n 1, 1) := by decide +kernel
theorem dX11_deepest_36 : decode (mC mX11_deepest) 36 = .ok (.istore_n 1, 1) := by decide +kernel
theorem dX11_deepest_37 : decode (mC mX11_deepest) 37 = .ok (.iinc 2 1, 3) := by decide +kernel
theorem dX11_deepest_40 : decode (mC mX11_deepest) 40 = .ok (.goto (-36), 3) := by decide +kernel
theorem dX11_deepest_43 : decode (mC mX11_deepest) 43 = .ok (.iload_n 1, 1) := by decide +kernel
theorem dX11_deepest_44 : decode (mC mX11_deepest) 44 = .ok (.ireturn, 1) := by decide +kernel
theorem dX11_dawn_0 : decode (mC mX11_dawn) 0 = .ok (.aload_n 0, 1) := by decide +kernel
theorem dX11_dawn_1 : decode (mC mX11_dawn) 1 = .ok (.iload_n 1, 1) := by decide +kernel
theorem dX11_dawn_2 : decode (mC mX11_dawn) 2 = .ok (.invokevirtual 215, 3) := by decide +kernel
theorem dX11_dawn_5 : decode (mC mX11_dawn) 5 = .ok (.ifCond .eq 23, 3) := by decide +kernel
theorem dX11_dawn_8 : decode (mC mX11_dawn) 8 = .ok (.iload_n 2, 1) := by decide +kernel
theorem dX11_dawn_9 : decode (mC mX11_dawn) 9 = .ok (.iconst 0, 1) := by decide +kernel
theorem dX11_dawn_10 : decode (mC mX11_dawn) 10 = .ok (.iconst 2, 1) := by decide +kernel
theorem dX11_dawn_11 : decode (mC mX11_dawn) 11 = .ok (.invokestatic 140, 3) := by decide +kernel
theorem dX11_dawn_14 : decode (mC mX11_dawn) 14 = .ok (.ifCond .ne 17, 3) := by decide +kernel
theorem dX11_dawn_17 : decode (mC mX11_dawn) 17 = .ok (.aload_n 0, 1) := by decide +kernel
theorem dX11_dawn_18 : decode (mC mX11_dawn) 18 = .ok (.iload_n 2, 1) := by decide +kernel
theorem dX11_dawn_19 : decode (mC mX11_dawn) 19 = .ok (.bipush 10, 2) := by decide +kernel
theorem dX11_dawn_21 : decode (mC mX11_dawn) 21 = .ok (.isub, 1) := by decide +kernel
theorem dX11_dawn_22 : decode (mC mX11_dawn) 22 = .ok (.invokevirtual 282, 3) := by decide +kernel
theorem dX11_dawn_25 : decode (mC mX11_dawn) 25 = .ok (.ifCond .ne 6, 3) := by decide +kernel
theorem dX11_dawn_28 : decode (mC mX11_dawn) 28 = .ok (.bipush (-2), 2) := by decide +kernel
theorem dX11_dawn_30 : decode (mC mX11_dawn) 30 = .ok (.ireturn, 1) := by decide +kernel
theorem dX11_dawn_31 : decode (mC mX11_dawn) 31 = .ok (.aload_n 0, 1) := by decide +kernel
theorem dX11_dawn_32 : decode (mC mX11_dawn) 32 = .ok (.bipush 99, 2) := by decide +kernel
theorem dX11_dawn_34 : decode (mC mX11_dawn) 34 = .ok (.invokevirtual 288, 3) := by decide +kernel
theorem dX11_dawn_37 : decode (mC mX11_dawn) 37 = .ok (.iload_n 2, 1) := by decide +kernel
theorem dX11_dawn_38 : decode (mC mX11_dawn) 38 = .ok (.ifCond .ne 10, 3) := by decide +kernel
theorem dX11_dawn_41 : decode (mC mX11_dawn) 41 = .ok (.aload_n 0, 1) := by decide +kernel
theorem dX11_dawn_42 : decode (mC mX11_dawn) 42 = .ok (.invokevirtual 411, 3) := by decide +kernel
theorem dX11_dawn_45 : decode (mC mX11_dawn) 45 = .ok (.goto 36, 3) := by decide +kernel
theorem dX11_dawn_48 : decode (mC mX11_dawn) 48 = .ok (.iload_n 2, 1) := by decide +kernel
theorem dX11_dawn_49 : decode (mC mX11_dawn) 49 = .ok (.iconst 1, 1) := by decide +kernel
theorem dX11_dawn_50 : decode (mC mX11_dawn) 50 = .ok (.if_icmp .ne 10, 3) := by decide +kernel
theorem dX11_dawn_53 : decode (mC mX11_dawn) 53 = .ok (.aload_n 0, 1) := by decide +kernel
theorem dX11_dawn_54 : decode (mC mX11_dawn) 54 = .ok (.invokevirtual 414, 3) := by decide +kernel
theorem dX11_dawn_57 : decode (mC mX11_dawn) 57 = .ok (.goto 24, 3) := by decide +kernel
theorem dX11_dawn_60 : decode (mC mX11_dawn) 60 = .ok (.iload_n 2, 1) := by decide +kernel
theorem dX11_dawn_61 : decode (mC mX11_dawn) 61 = .ok (.iconst 2, 1) := by decide +kernel
theorem dX11_dawn_62 : decode (mC mX11_dawn) 62 = .ok (.if_icmp .ne 10, 3) := by decide +kernel
theorem dX11_dawn_65 : decode (mC mX11_dawn) 65 = .ok (.aload_n 0, 1) := by decide +kernel
theorem dX11_dawn_66 : decode (mC mX11_dawn) 66 = .ok (.invokevirtual 417, 3) := by decide +kernel
theorem dX11_dawn_69 : decode (mC mX11_dawn) 69 = .ok (.goto 12, 3) := by decide +kernel
theorem dX11_dawn_72 : decode (mC mX11_dawn) 72 = .ok (.aload_n 0, 1) := by decide +kernel
theorem dX11_dawn_73 : decode (mC mX11_dawn) 73 = .ok (.iconst 0, 1) := by decide +kernel
theorem dX11_dawn_74 : decode (mC mX11_dawn) 74 = .ok (.iload_n 2, 1) := by decide +kernel
theorem dX11_dawn_75 : decode (mC mX11_dawn) 75 = .ok (.bipush 10, 2) := by decide +kernel
theorem dX11_dawn_77 : decode (mC mX11_dawn) 77 = .ok (.isub, 1) := by decide +kernel
theorem dX11_dawn_78 : decode (mC mX11_dawn) 78 = .ok (.invokevirtual 303, 3) := by decide +kernel
theorem dX11_dawn_81 : decode (mC mX11_dawn) 81 = .ok (.ireturn, 1) := by decide +kernel
theorem dX11_carried_0 : decode (mC mX11_carried) 0 = .ok (.aload_n 0, 1) := by decide +kernel
theorem dX11_carried_1 : decode (mC mX11_carried) 1 = .ok (.iload_n 1, 1) := by decide +kernel
theorem dX11_carried_2 : decode (mC mX11_carried) 2 = .ok (.invokevirtual 215, 3) := by decide +kernel
theorem dX11_carried_5 : decode (mC mX11_carried) 5 = .ok (.ifCond .eq 24, 3) := by decide +kernel
theorem dX11_carried_8 : decode (mC mX11_carried) 8 = .ok (.aload_n 0, 1) := by decide +kernel
theorem dX11_carried_9 : decode (mC mX11_carried) 9 = .ok (.iload_n 2, 1) := by decide +kernel
theorem dX11_carried_10 : decode (mC mX11_carried) 10 = .ok (.invokevirtual 282, 3) := by decide +kernel
theorem dX11_carried_13 : decode (mC mX11_carried) 13 = .ok (.ifCond .eq 16, 3) := by decide +kernel
theorem dX11_carried_16 : decode (mC mX11_carried) 16 = .ok (.aload_n 0, 1) := by decide +kernel
theorem dX11_carried_17 : decode (mC mX11_carried) 17 = .ok (.iload_n 3, 1) := by decide +kernel
theorem dX11_carried_18 : decode (mC mX11_carried) 18 = .ok (.invokevirtual 282, 3) := by decide +kernel
theorem dX11_carried_21 : decode (mC mX11_carried) 21 = .ok (.ifCond .eq 8, 3) := by decide +kernel
theorem dX11_carried_24 : decode (mC mX11_carried) 24 = .ok (.iload_n 2, 1) := by decide +kernel
theorem dX11_carried_25 : decode (mC mX11_carried) 25 = .ok (.iload_n 3, 1) := by decide +kernel
theorem dX11_carried_26 : decode (mC mX11_carried) 26 = .ok (.if_icmp .ne 5, 3) := by decide +kernel
theorem dX11_carried_29 : decode (mC mX11_carried) 29 = .ok (.iconst (-1), 1) := by decide +kernel
theorem dX11_carried_30 : decode (mC mX11_carried) 30 = .ok (.ireturn, 1) := by decide +kernel
theorem dX11_carried_31 : decode (mC mX11_carried) 31 = .ok (.aload_n 0, 1) := by decide +kernel
theorem dX11_carried_32 : decode (mC mX11_carried) 32 = .ok (.iload_n 2, 1) := by decide +kernel
theorem dX11_carried_33 : decode (mC mX11_carried) 33 = .ok (.putfield 230, 3) := by decide +kernel
theorem dX11_carried_36 : decode (mC mX11_carried) 36 = .ok (.aload_n 0, 1) := by decide +kernel
theorem dX11_carried_37 : decode (mC mX11_carried) 37 = .ok (.iload_n 3, 1) := by decide +kernel
theorem dX11_carried_38 : decode (mC mX11_carried) 38 = .ok (.putfield 239, 3) := by decide +kernel
theorem dX11_carried_41 : decode (mC mX11_carried) 41 = .ok (.aload_n 0, 1) := by decide +kernel
theorem dX11_carried_42 : decode (mC mX11_carried) 42 = .ok (.bipush 99, 2) := by decide +kernel
theorem dX11_carried_44 : decode (mC mX11_carried) 44 = .ok (.invokevirtual 288, 3) := by decide +kernel
theorem dX11_carried_47 : decode (mC mX11_carried) 47 = .ok (.aload_n 0, 1) := by decide +kernel
theorem dX11_carried_48 : decode (mC mX11_carried) 48 = .ok (.iconst 0, 1) := by decide +kernel
theorem dX11_carried_49 : decode (mC mX11_carried) 49 = .ok (.iload 4, 2) := by decide +kernel
theorem dX11_carried_51 : decode (mC mX11_carried) 51 = .ok (.ifCond .eq 7, 3) := by decide +kernel
theorem dX11_carried_54 : decode (mC mX11_carried) 54 = .ok (.iload_n 3, 1) := by decide +kernel
theorem dX11_carried_55 : decode (mC mX11_carried) 55 = .ok (.goto 4, 3) := by decide +kernel
theorem dX11_carried_58 : decode (mC mX11_carried) 58 = .ok (.iload_n 2, 1) := by decide +kernel
theorem dX11_carried_59 : decode (mC mX11_carried) 59 = .ok (.invokevirtual 303, 3) := by decide +kernel
theorem dX11_carried_62 : decode (mC mX11_carried) 62 = .ok (.ireturn, 1) := by decide +kernel
theorem dX11_better_0 : decode (mC mX11_better) 0 = .ok (.aload_n 0, 1) := by decide +kernel
theorem dX11_better_1 : decode (mC mX11_better) 1 = .ok (.iload_n 1, 1) := by decide +kernel
theorem dX11_better_2 : decode (mC mX11_better) 2 = .ok (.invokevirtual 215, 3) := by decide +kernel
theorem dX11_better_5 : decode (mC mX11_better) 5 = .ok (.ifCond .eq 26, 3) := by decide +kernel
theorem dX11_better_8 : decode (mC mX11_better) 8 = .ok (.aload_n 0, 1) := by decide +kernel
theorem dX11_better_9 : decode (mC mX11_better) 9 = .ok (.iload_n 2, 1) := by decide +kernel
theorem dX11_better_10 : decode (mC mX11_better) 10 = .ok (.invokevirtual 282, 3) := by decide +kernel
theorem dX11_better_13 : decode (mC mX11_better) 13 = .ok (.ifCond .eq 18, 3) := by decide +kernel
theorem dX11_better_16 : decode (mC mX11_better) 16 = .ok (.iload_n 3, 1) := by decide +kernel
theorem dX11_better_17 : decode (mC mX11_better) 17 = .ok (.ifCond .eq 16, 3) := by decide +kernel
theorem dX11_better_20 : decode (mC mX11_better) 20 = .ok (.aload_n 0, 1) := by decide +kernel
theorem dX11_better_21 : decode (mC mX11_better) 21 = .ok (.iload_n 2, 1) := by decide +kernel
theorem dX11_better_22 : decode (mC mX11_better) 22 = .ok (.bipush 6, 2) := by decide +kernel
theorem dX11_better_24 : decode (mC mX11_better) 24 = .ok (.invokevirtual 236, 3) := by decide +kernel
theorem dX11_better_27 : decode (mC mX11_better) 27 = .ok (.iconst (-1), 1) := by decide +kernel
theorem dX11_better_28 : decode (mC mX11_better) 28 = .ok (.if_icmp .ne 5, 3) := by decide +kernel
theorem dX11_better_31 : decode (mC mX11_better) 31 = .ok (.iconst (-1), 1) := by decide +kernel
theorem dX11_better_32 : decode (mC mX11_better) 32 = .ok (.ireturn, 1) := by decide +kernel
theorem dX11_better_33 : decode (mC mX11_better) 33 = .ok (.aload_n 0, 1) := by decide +kernel
theorem dX11_better_34 : decode (mC mX11_better) 34 = .ok (.iload_n 3, 1) := by decide +kernel
theorem dX11_better_35 : decode (mC mX11_better) 35 = .ok (.ifCond .eq 7, 3) := by decide +kernel
theorem dX11_better_38 : decode (mC mX11_better) 38 = .ok (.iconst (-1), 1) := by decide +kernel
theorem dX11_better_39 : decode (mC mX11_better) 39 = .ok (.goto 4, 3) := by decide +kernel
theorem dX11_better_42 : decode (mC mX11_better) 42 = .ok (.iload_n 2, 1) := by decide +kernel
theorem dX11_better_43 : decode (mC mX11_better) 43 = .ok (.putfield 224, 3) := by decide +kernel
theorem dX11_better_46 : decode (mC mX11_better) 46 = .ok (.aload_n 0, 1) := by decide +kernel
theorem dX11_better_47 : decode (mC mX11_better) 47 = .ok (.iload_n 3, 1) := by decide +kernel
theorem dX11_better_48 : decode (mC mX11_better) 48 = .ok (.ifCond .eq 7, 3) := by decide +kernel
theorem dX11_better_51 : decode (mC mX11_better) 51 = .ok (.iload_n 2, 1) := by decide +kernel
theorem dX11_better_52 : decode (mC mX11_better) 52 = .ok (.goto 4, 3) := by decide +kernel
theorem dX11_better_55 : decode (mC mX11_better) 55 = .ok (.iconst (-1), 1) := by decide +kernel
theorem dX11_better_56 : decode (mC mX11_better) 56 = .ok (.putfield 227, 3) := by decide +kernel
theorem dX11_better_59 : decode (mC mX11_better) 59 = .ok (.iconst (-1), 1) := by decide +kernel
theorem dX11_better_60 : decode (mC mX11_better) 60 = .ok (.istore 4, 2) := by decide +kernel
theorem dX11_better_62 : decode (mC mX11_better) 62 = .ok (.iconst 0, 1) := by decide +kernel
theorem dX11_better_63 : decode (mC mX11_better) 63 = .ok (.istore 5, 2) := by decide +kernel
theorem dX11_better_65 : decode (mC mX11_better) 65 = .ok (.iconst 0, 1) := by decide +kernel
theorem dX11_better_66 : decode (mC mX11_better) 66 = .ok (.istore 6, 2) := by decide +kernel
theorem dX11_better_68 : decode (mC mX11_better) 68 = .ok (.iload 6, 2) := by decide +kernel
theorem dX11_better_70 : decode (mC mX11_better) 70 = .ok (.iload_n 3, 1) := by decide +kernel
theorem dX11_better_71 : decode (mC mX11_better) 71 = .ok (.ifCond .eq 8, 3) := by decide +kernel
theorem dX11_better_74 : decode (mC mX11_better) 74 = .ok (.bipush 61, 2) := by decide +kernel
theorem dX11_better_76 : decode (mC mX11_better) 76 = .ok (.goto 5, 3) := by decide +kernel
theorem dX11_better_79 : decode (mC mX11_better) 79 = .ok (.bipush 6, 2) := by decide +kernel
theorem dX11_better_81 : decode (mC mX11_better) 81 = .ok (.if_icmp .ge 66, 3) := by decide +kernel
theorem dX11_better_84 : decode (mC mX11_better) 84 = .ok (.aload_n 0, 1) := by decide +kernel
theorem dX11_better_85 : decode (mC mX11_better) 85 = .ok (.iload 6, 2) := by decide +kernel
theorem dX11_better_87 : decode (mC mX11_better) 87 = .ok (.putfield 233, 3) := by decide +kernel
theorem dX11_better_90 : decode (mC mX11_better) 90 = .ok (.aload_n 0, 1) := by decide +kernel
theorem dX11_better_91 : decode (mC mX11_better) 91 = .ok (.iload 6, 2) := by decide +kernel
theorem dX11_better_93 : decode (mC mX11_better) 93 = .ok (.putfield 242, 3) := by decide +kernel
theorem dX11_better_96 : decode (mC mX11_better) 96 = .ok (.aload_n 0, 1) := by decide +kernel
theorem dX11_better_97 : decode (mC mX11_better) 97 = .ok (.bipush 99, 2) := by decide +kernel
theorem dX11_better_99 : decode (mC mX11_better) 99 = .ok (.invokevirtual 288, 3) := by decide +kernel
theorem dX11_better_102 : decode (mC mX11_better) 102 = .ok (.aload_n 0, 1) := by decide +kernel
theorem dX11_better_103 : decode (mC mX11_better) 103 = .ok (.iconst 0, 1) := by decide +kernel
theorem dX11_better_104 : decode (mC mX11_better) 104 = .ok (.iload_n 3, 1) := by decide +kernel
theorem dX11_better_105 : decode (mC mX11_better) 105 = .ok (.ifCond .eq 7, 3) := by decide +kernel
theorem dX11_better_108 : decode (mC mX11_better) 108 = .ok (.iload_n 2, 1) := by decide +kernel
theorem dX11_better_109 : decode (mC mX11_better) 109 = .ok (.goto 4, 3) := by decide +kernel
theorem dX11_better_112 : decode (mC mX11_better) 112 = .ok (.iconst (-1), 1) := by decide +kernel
theorem dX11_better_113 : decode (mC mX11_better) 113 = .ok (.invokevirtual 303, 3) := by decide +kernel
theorem dX11_better_116 : decode (mC mX11_better) 116 = .ok (.istore 7, 2) := by decide +kernel
theorem dX11_better_118 : decode (mC mX11_better) 118 = .ok (.iload 4, 2) := by decide +kernel
theorem dX11_better_120 : decode (mC mX11_better) 120 = .ok (.ifCond .lt 13, 3) := by decide +kernel
theorem dX11_better_123 : decode (mC mX11_better) 123 = .ok (.iload 7, 2) := by decide +kernel
theorem dX11_better_125 : decode (mC mX11_better) 125 = .ok (.iload 5, 2) := by decide +kernel
theorem dX11_better_127 : decode (mC mX11_better) 127 = .ok (.if_icmp .lt 6, 3) := by decide +kernel
theorem dX11_better_130 : decode (mC mX11_better) 130 = .ok (.goto 11, 3) := by decide +kernel
theorem dX11_better_133 : decode (mC mX11_better) 133 = .ok (.iload 6, 2) := by decide +kernel
theorem dX11_better_135 : decode (mC mX11_better) 135 = .ok (.istore 4, 2) := by decide +kernel
theorem dX11_better_137 : decode (mC mX11_better) 137 = .ok (.iload 7, 2) := by decide +kernel
theorem dX11_better_139 : decode (mC mX11_better) 139 = .ok (.istore 5, 2) := by decide +kernel
theorem dX11_better_141 : decode (mC mX11_better) 141 = .ok (.iinc 6 1, 3) := by decide +kernel
theorem dX11_better_144 : decode (mC mX11_better) 144 = .ok (.goto (-76), 3) := by decide +kernel
theorem dX11_better_147 : decode (mC mX11_better) 147 = .ok (.iload 4, 2) := by decide +kernel
theorem dX11_better_149 : decode (mC mX11_better) 149 = .ok (.ireturn, 1) := by decide +kernel
theorem dX11_thieves_0 : decode (mC mX11_thieves) 0 = .ok (.aload_n 0, 1) := by decide +kernel
theorem dX11_thieves_1 : decode (mC mX11_thieves) 1 = .ok (.iload_n 1, 1) := by decide +kernel
theorem dX11_thieves_2 : decode (mC mX11_thieves) 2 = .ok (.invokevirtual 215, 3) := by decide +kernel
theorem dX11_thieves_5 : decode (mC mX11_thieves) 5 = .ok (.ifCond .eq 34, 3) := by decide +kernel
theorem dX11_thieves_8 : decode (mC mX11_thieves) 8 = .ok (.aload_n 0, 1) := by decide +kernel
theorem dX11_thieves_9 : decode (mC mX11_thieves) 9 = .ok (.iload_n 2, 1) := by decide +kernel
theorem dX11_thieves_10 : decode (mC mX11_thieves) 10 = .ok (.invokevirtual 297, 3) := by decide +kernel
theorem dX11_thieves_13 : decode (mC mX11_thieves) 13 = .ok (.ifCond .eq 26, 3) := by decide +kernel
theorem dX11_thieves_16 : decode (mC mX11_thieves) 16 = .ok (.aload_n 0, 1) := by decide +kernel
theorem dX11_thieves_17 : decode (mC mX11_thieves) 17 = .ok (.iload_n 3, 1) := by decide +kernel
theorem dX11_thieves_18 : decode (mC mX11_thieves) 18 = .ok (.invokevirtual 285, 3) := by decide +kernel
theorem dX11_thieves_21 : decode (mC mX11_thieves) 21 = .ok (.ifCond .eq 18, 3) := by decide +kernel
theorem dX11_thieves_24 : decode (mC mX11_thieves) 24 = .ok (.aload_n 0, 1) := by decide +kernel
theorem dX11_thieves_25 : decode (mC mX11_thieves) 25 = .ok (.iload 4, 2) := by decide +kernel
theorem dX11_thieves_27 : decode (mC mX11_thieves) 27 = .ok (.invokevirtual 285, 3) := by decide +kernel
theorem dX11_thieves_30 : decode (mC mX11_thieves) 30 = .ok (.ifCond .eq 9, 3) := by decide +kernel
theorem dX11_thieves_33 : decode (mC mX11_thieves) 33 = .ok (.iload_n 3, 1) := by decide +kernel
theorem dX11_thieves_34 : decode (mC mX11_thieves) 34 = .ok (.iload 4, 2) := by decide +kernel
theorem dX11_thieves_36 : decode (mC mX11_thieves) 36 = .ok (.if_icmp .le 5, 3) := by decide +kernel
theorem dX11_thieves_39 : decode (mC mX11_thieves) 39 = .ok (.iconst (-1), 1) := by decide +kernel
theorem dX11_thieves_40 : decode (mC mX11_thieves) 40 = .ok (.ireturn, 1) := by decide +kernel
theorem dX11_thieves_41 : decode (mC mX11_thieves) 41 = .ok (.aload_n 0, 1) := by decide +kernel
theorem dX11_thieves_42 : decode (mC mX11_thieves) 42 = .ok (.bipush 99, 2) := by decide +kernel
theorem dX11_thieves_44 : decode (mC mX11_thieves) 44 = .ok (.invokevirtual 288, 3) := by decide +kernel
theorem dX11_thieves_47 : decode (mC mX11_thieves) 47 = .ok (.iconst 0, 1) := by decide +kernel
theorem dX11_thieves_48 : decode (mC mX11_thieves) 48 = .ok (.istore 5, 2) := by decide +kernel
theorem dX11_thieves_50 : decode (mC mX11_thieves) 50 = .ok (.iconst 0, 1) := by decide +kernel
theorem dX11_thieves_51 : decode (mC mX11_thieves) 51 = .ok (.istore 6, 2) := by decide +kernel
theorem dX11_thieves_53 : decode (mC mX11_thieves) 53 = .ok (.iload 6, 2) := by decide +kernel
theorem dX11_thieves_55 : decode (mC mX11_thieves) 55 = .ok (.aload_n 0, 1) := by decide +kernel
theorem dX11_thieves_56 : decode (mC mX11_thieves) 56 = .ok (.invokevirtual 212, 3) := by decide +kernel
theorem dX11_thieves_59 : decode (mC mX11_thieves) 59 = .ok (.if_icmp .ge 55, 3) := by decide +kernel
theorem dX11_thieves_62 : decode (mC mX11_thieves) 62 = .ok (.iload_n 3, 1) := by decide +kernel
theorem dX11_thieves_63 : decode (mC mX11_thieves) 63 = .ok (.istore 7, 2) := by decide +kernel
theorem dX11_thieves_65 : decode (mC mX11_thieves) 65 = .ok (.iload 7, 2) := by decide +kernel
theorem dX11_thieves_67 : decode (mC mX11_thieves) 67 = .ok (.iload 4, 2) := by decide +kernel
theorem dX11_thieves_69 : decode (mC mX11_thieves) 69 = .ok (.if_icmp .gt 39, 3) := by decide +kernel
theorem dX11_thieves_72 : decode (mC mX11_thieves) 72 = .ok (.iload 5, 2) := by decide +kernel
theorem dX11_thieves_74 : decode (mC mX11_thieves) 74 = .ok (.aload_n 0, 1) := by decide +kernel
theorem dX11_thieves_75 : decode (mC mX11_thieves) 75 = .ok (.getfield 23, 3) := by decide +kernel
theorem dX11_thieves_78 : decode (mC mX11_thieves) 78 = .ok (.bipush 100, 2) := by decide +kernel
theorem dX11_thieves_80 : decode (mC mX11_thieves) 80 = .ok (.iload 6, 2) := by decide +kernel
theorem dX11_thieves_82 : decode (mC mX11_thieves) 82 = .ok (.imul, 1) := by decide +kernel
theorem dX11_thieves_83 : decode (mC mX11_thieves) 83 = .ok (.iload 7, 2) := by decide +kernel
theorem dX11_thieves_85 : decode (mC mX11_thieves) 85 = .ok (.iadd, 1) := by decide +kernel
theorem dX11_thieves_86 : decode (mC mX11_thieves) 86 = .ok (.iaload, 1) := by decide +kernel
theorem dX11_thieves_87 : decode (mC mX11_thieves) 87 = .ok (.iload_n 2, 1) := by decide +kernel
theorem dX11_thieves_88 : decode (mC mX11_thieves) 88 = .ok (.if_icmp .ne 10, 3) := by decide +kernel
theorem dX11_thieves_91 : decode (mC mX11_thieves) 91 = .ok (.iconst 1, 1) := by decide +kernel
theorem dX11_thieves_92 : decode (mC mX11_thieves) 92 = .ok (.iload 6, 2) := by decide +kernel
theorem dX11_thieves_94 : decode (mC mX11_thieves) 94 = .ok (.ishl, 1) := by decide +kernel
theorem dX11_thieves_95 : decode (mC mX11_thieves) 95 = .ok (.goto 4, 3) := by decide +kernel
theorem dX11_thieves_98 : decode (mC mX11_thieves) 98 = .ok (.iconst 0, 1) := by decide +kernel
theorem dX11_thieves_99 : decode (mC mX11_thieves) 99 = .ok (.ior, 1) := by decide +kernel
theorem dX11_thieves_100 : decode (mC mX11_thieves) 100 = .ok (.istore 5, 2) := by decide +kernel
theorem dX11_thieves_102 : decode (mC mX11_thieves) 102 = .ok (.iinc 7 1, 3) := by decide +kernel
theorem dX11_thieves_105 : decode (mC mX11_thieves) 105 = .ok (.goto (-40), 3) := by decide +kernel
theorem dX11_thieves_108 : decode (mC mX11_thieves) 108 = .ok (.iinc 6 1, 3) := by decide +kernel
theorem dX11_thieves_111 : decode (mC mX11_thieves) 111 = .ok (.goto (-58), 3) := by decide +kernel
theorem dX11_thieves_114 : decode (mC mX11_thieves) 114 = .ok (.iload 5, 2) := by decide +kernel
theorem dX11_thieves_116 : decode (mC mX11_thieves) 116 = .ok (.aload_n 0, 1) := by decide +kernel
theorem dX11_thieves_117 : decode (mC mX11_thieves) 117 = .ok (.iload_n 2, 1) := by decide +kernel
theorem dX11_thieves_118 : decode (mC mX11_thieves) 118 = .ok (.invokevirtual 300, 3) := by decide +kernel
theorem dX11_thieves_121 : decode (mC mX11_thieves) 121 = .ok (.iconst (-1), 1) := by decide +kernel
theorem dX11_thieves_122 : decode (mC mX11_thieves) 122 = .ok (.ixor, 1) := by decide +kernel
theorem dX11_thieves_123 : decode (mC mX11_thieves) 123 = .ok (.iand, 1) := by decide +kernel
theorem dX11_thieves_124 : decode (mC mX11_thieves) 124 = .ok (.ireturn, 1) := by decide +kernel
theorem dX11_count_0 : decode (mC mX11_count) 0 = .ok (.iload_n 1, 1) := by decide +kernel
theorem dX11_count_1 : decode (mC mX11_count) 1 = .ok (.iconst 0, 1) := by decide +kernel
theorem dX11_count_2 : decode (mC mX11_count) 2 = .ok (.iconst 1, 1) := by decide +kernel
theorem dX11_count_3 : decode (mC mX11_count) 3 = .ok (.invokestatic 140, 3) := by decide +kernel
theorem dX11_count_6 : decode (mC mX11_count) 6 = .ok (.ifCond .eq 12, 3) := by decide +kernel
theorem dX11_count_9 : decode (mC mX11_count) 9 = .ok (.aload_n 0, 1) := by decide +kernel
theorem dX11_count_10 : decode (mC mX11_count) 10 = .ok (.getfield 7, 3) := by decide +kernel
theorem dX11_count_13 : decode (mC mX11_count) 13 = .ok (.iload_n 1, 1) := by decide +kernel
theorem dX11_count_14 : decode (mC mX11_count) 14 = .ok (.iaload, 1) := by decide +kernel
theorem dX11_count_15 : decode (mC mX11_count) 15 = .ok (.goto 5, 3) := by decide +kernel
theorem dX11_count_18 : decode (mC mX11_count) 18 = .ok (.bipush (-2), 2) := by decide +kernel
theorem dX11_count_20 : decode (mC mX11_count) 20 = .ok (.ireturn, 1) := by decide +kernel
theorem dX11_image_0 : decode (mC mX11_image) 0 = .ok (.iload_n 1, 1) := by decide +kernel
theorem dX11_image_1 : decode (mC mX11_image) 1 = .ok (.iconst 0, 1) := by decide +kernel
theorem dX11_image_2 : decode (mC mX11_image) 2 = .ok (.iconst 2, 1) := by decide +kernel
theorem dX11_image_3 : decode (mC mX11_image) 3 = .ok (.invokestatic 140, 3) := by decide +kernel
theorem dX11_image_6 : decode (mC mX11_image) 6 = .ok (.ifCond .ne 5, 3) := by decide +kernel
theorem dX11_image_9 : decode (mC mX11_image) 9 = .ok (.iconst 0, 1) := by decide +kernel
theorem dX11_image_10 : decode (mC mX11_image) 10 = .ok (.ireturn, 1) := by decide +kernel
theorem dX11_image_11 : decode (mC mX11_image) 11 = .ok (.aload_n 0, 1) := by decide +kernel
theorem dX11_image_12 : decode (mC mX11_image) 12 = .ok (.getfield 13, 3) := by decide +kernel
theorem dX11_image_15 : decode (mC mX11_image) 15 = .ok (.iload_n 1, 1) := by decide +kernel
theorem dX11_image_16 : decode (mC mX11_image) 16 = .ok (.iconst 1, 1) := by decide +kernel
theorem dX11_image_17 : decode (mC mX11_image) 17 = .ok (.bastore, 1) := by decide +kernel
theorem dX11_image_18 : decode (mC mX11_image) 18 = .ok (.iconst 0, 1) := by decide +kernel
theorem dX11_image_19 : decode (mC mX11_image) 19 = .ok (.istore_n 2, 1) := by decide +kernel
theorem dX11_image_20 : decode (mC mX11_image) 20 = .ok (.iload_n 2, 1) := by decide +kernel
theorem dX11_image_21 : decode (mC mX11_image) 21 = .ok (.sipush 1348, 3) := by decide +kernel
theorem dX11_image_24 : decode (mC mX11_image) 24 = .ok (.if_icmp .ge 29, 3) := by decide +kernel
theorem dX11_image_27 : decode (mC mX11_image) 27 = .ok (.aload_n 0, 1) := by decide +kernel
theorem dX11_image_28 : decode (mC mX11_image) 28 = .ok (.getfield 7, 3) := by decide +kernel
theorem dX11_image_31 : decode (mC mX11_image) 31 = .ok (.sipush 1348, 3) := by decide +kernel
theorem dX11_image_34 : decode (mC mX11_image) 34 = .ok (.iload_n 1, 1) := by decide +kernel
theorem dX11_image_35 : decode (mC mX11_image) 35 = .ok (.iconst 1, 1) := by decide +kernel
theorem dX11_image_36 : decode (mC mX11_image) 36 = .ok (.iadd, 1) := by decide +kernel
theorem dX11_image_37 : decode (mC mX11_image) 37 = .ok (.imul, 1) := by decide +kernel
theorem dX11_image_38 : decode (mC mX11_image) 38 = .ok (.iload_n 2, 1) := by decide +kernel
theorem dX11_image_39 : decode (mC mX11_image) 39 = .ok (.iadd, 1) := by decide +kernel
theorem dX11_image_40 : decode (mC mX11_image) 40 = .ok (.aload_n 0, 1) := by decide +kernel
theorem dX11_image_41 : decode (mC mX11_image) 41 = .ok (.getfield 7, 3) := by decide +kernel
theorem dX11_image_44 : decode (mC mX11_image) 44 = .ok (.iload_n 2, 1) := by decide +kernel
theorem dX11_image_45 : decode (mC mX11_image) 45 = .ok (.iaload, 1) := by decide +kernel
theorem dX11_image_46 : decode (mC mX11_image) 46 = .ok (.iastore, 1) := by decide +kernel
theorem dX11_image_47 : decode (mC mX11_image) 47 = .ok (.iinc 2 1, 3) := by decide +kernel
theorem dX11_image_50 : decode (mC mX11_image) 50 = .ok (.goto (-30), 3) := by decide +kernel
theorem dX11_image_53 : decode (mC mX11_image) 53 = .ok (.iconst 1, 1) := by decide +kernel
theorem dX11_image_54 : decode (mC mX11_image) 54 = .ok (.ireturn, 1) := by decide +kernel
theorem dX11_again_0 : decode (mC mX11_again) 0 = .ok (.iload_n 1, 1) := by decide +kernel
theorem dX11_again_1 : decode (mC mX11_again) 1 = .ok (.iconst 0, 1) := by decide +kernel
theorem dX11_again_2 : decode (mC mX11_again) 2 = .ok (.iconst 2, 1) := by decide +kernel
theorem dX11_again_3 : decode (mC mX11_again) 3 = .ok (.invokestatic 140, 3) := by decide +kernel
theorem dX11_again_6 : decode (mC mX11_again) 6 = .ok (.ifCond .eq 12, 3) := by decide +kernel
theorem dX11_again_9 : decode (mC mX11_again) 9 = .ok (.aload_n 0, 1) := by decide +kernel
theorem dX11_again_10 : decode (mC mX11_again) 10 = .ok (.getfield 13, 3) := by decide +kernel
theorem dX11_again_13 : decode (mC mX11_again) 13 = .ok (.iload_n 1, 1) := by decide +kernel
theorem dX11_again_14 : decode (mC mX11_again) 14 = .ok (.baload, 1) := by decide +kernel
theorem dX11_again_15 : decode (mC mX11_again) 15 = .ok (.ifCond .ne 5, 3) := by decide +kernel
theorem dX11_again_18 : decode (mC mX11_again) 18 = .ok (.iconst 0, 1) := by decide +kernel
theorem dX11_again_19 : decode (mC mX11_again) 19 = .ok (.ireturn, 1) := by decide +kernel
theorem dX11_again_20 : decode (mC mX11_again) 20 = .ok (.iconst 0, 1) := by decide +kernel
theorem dX11_again_21 : decode (mC mX11_again) 21 = .ok (.istore_n 2, 1) := by decide +kernel
theorem dX11_again_22 : decode (mC mX11_again) 22 = .ok (.iload_n 2, 1) := by decide +kernel
theorem dX11_again_23 : decode (mC mX11_again) 23 = .ok (.sipush 1348, 3) := by decide +kernel
theorem dX11_again_26 : decode (mC mX11_again) 26 = .ok (.if_icmp .ge 29, 3) := by decide +kernel
theorem dX11_again_29 : decode (mC mX11_again) 29 = .ok (.aload_n 0, 1) := by decide +kernel
theorem dX11_again_30 : decode (mC mX11_again) 30 = .ok (.getfield 7, 3) := by decide +kernel
theorem dX11_again_33 : decode (mC mX11_again) 33 = .ok (.iload_n 2, 1) := by decide +kernel
theorem dX11_again_34 : decode (mC mX11_again) 34 = .ok (.aload_n 0, 1) := by decide +kernel
theorem dX11_again_35 : decode (mC mX11_again) 35 = .ok (.getfield 7, 3) := by decide +kernel
theorem dX11_again_38 : decode (mC mX11_again) 38 = .ok (.sipush 1348, 3) := by decide +kernel
theorem dX11_again_41 : decode (mC mX11_again) 41 = .ok (.iload_n 1, 1) := by decide +kernel
theorem dX11_again_42 : decode (mC mX11_again) 42 = .ok (.iconst 1, 1) := by decide +kernel
theorem dX11_again_43 : decode (mC mX11_again) 43 = .ok (.iadd, 1) := by decide +kernel
theorem dX11_again_44 : decode (mC mX11_again) 44 = .ok (.imul, 1) := by decide +kernel
theorem dX11_again_45 : decode (mC mX11_again) 45 = .ok (.iload_n 2, 1) := by decide +kernel
theorem dX11_again_46 : decode (mC mX11_again) 46 = .ok (.iadd, 1) := by decide +kernel
theorem dX11_again_47 : decode (mC mX11_again) 47 = .ok (.iaload, 1) := by decide +kernel
theorem dX11_again_48 : decode (mC mX11_again) 48 = .ok (.iastore, 1) := by decide +kernel
theorem dX11_again_49 : decode (mC mX11_again) 49 = .ok (.iinc 2 1, 3) := by decide +kernel
theorem dX11_again_52 : decode (mC mX11_again) 52 = .ok (.goto (-30), 3) := by decide +kernel
theorem dX11_again_55 : decode (mC mX11_again) 55 = .ok (.iconst 1, 1) := by decide +kernel
theorem dX11_again_56 : decode (mC mX11_again) 56 = .ok (.ireturn, 1) := by decide +kernel
theorem dJ6_bitCount_0f7a4_0 : decode (mC mJ6_bitCount_0f7a4) 0 = .ok (.iload_n 0, 1) := by decide +kernel
theorem dJ6_bitCount_0f7a4_1 : decode (mC mJ6_bitCount_0f7a4) 1 = .ok (.iload_n 0, 1) := by decide +kernel
theorem dJ6_bitCount_0f7a4_2 : decode (mC mJ6_bitCount_0f7a4) 2 = .ok (.iconst 1, 1) := by decide +kernel
theorem dJ6_bitCount_0f7a4_3 : decode (mC mJ6_bitCount_0f7a4) 3 = .ok (.iushr, 1) := by decide +kernel
theorem dJ6_bitCount_0f7a4_4 : decode (mC mJ6_bitCount_0f7a4) 4 = .ok (.ldc_w 265, 3) := by decide +kernel
theorem dJ6_bitCount_0f7a4_7 : decode (mC mJ6_bitCount_0f7a4) 7 = .ok (.iand, 1) := by decide +kernel
theorem dJ6_bitCount_0f7a4_8 : decode (mC mJ6_bitCount_0f7a4) 8 = .ok (.isub, 1) := by decide +kernel
theorem dJ6_bitCount_0f7a4_9 : decode (mC mJ6_bitCount_0f7a4) 9 = .ok (.istore_n 0, 1) := by decide +kernel
theorem dJ6_bitCount_0f7a4_10 : decode (mC mJ6_bitCount_0f7a4) 10 = .ok (.iload_n 0, 1) := by decide +kernel
theorem dJ6_bitCount_0f7a4_11 : decode (mC mJ6_bitCount_0f7a4) 11 = .ok (.ldc_w 266, 3) := by decide +kernel
theorem dJ6_bitCount_0f7a4_14 : decode (mC mJ6_bitCount_0f7a4) 14 = .ok (.iand, 1) := by decide +kernel
theorem dJ6_bitCount_0f7a4_15 : decode (mC mJ6_bitCount_0f7a4) 15 = .ok (.iload_n 0, 1) := by decide +kernel
theorem dJ6_bitCount_0f7a4_16 : decode (mC mJ6_bitCount_0f7a4) 16 = .ok (.iconst 2, 1) := by decide +kernel
theorem dJ6_bitCount_0f7a4_17 : decode (mC mJ6_bitCount_0f7a4) 17 = .ok (.iushr, 1) := by decide +kernel
theorem dJ6_bitCount_0f7a4_18 : decode (mC mJ6_bitCount_0f7a4) 18 = .ok (.ldc_w 266, 3) := by decide +kernel
theorem dJ6_bitCount_0f7a4_21 : decode (mC mJ6_bitCount_0f7a4) 21 = .ok (.iand, 1) := by decide +kernel
theorem dJ6_bitCount_0f7a4_22 : decode (mC mJ6_bitCount_0f7a4) 22 = .ok (.iadd, 1) := by decide +kernel
theorem dJ6_bitCount_0f7a4_23 : decode (mC mJ6_bitCount_0f7a4) 23 = .ok (.istore_n 0, 1) := by decide +kernel
theorem dJ6_bitCount_0f7a4_24 : decode (mC mJ6_bitCount_0f7a4) 24 = .ok (.iload_n 0, 1) := by decide +kernel
theorem dJ6_bitCount_0f7a4_25 : decode (mC mJ6_bitCount_0f7a4) 25 = .ok (.iload_n 0, 1) := by decide +kernel
theorem dJ6_bitCount_0f7a4_26 : decode (mC mJ6_bitCount_0f7a4) 26 = .ok (.iconst 4, 1) := by decide +kernel
theorem dJ6_bitCount_0f7a4_27 : decode (mC mJ6_bitCount_0f7a4) 27 = .ok (.iushr, 1) := by decide +kernel
theorem dJ6_bitCount_0f7a4_28 : decode (mC mJ6_bitCount_0f7a4) 28 = .ok (.iadd, 1) := by decide +kernel
theorem dJ6_bitCount_0f7a4_29 : decode (mC mJ6_bitCount_0f7a4) 29 = .ok (.ldc_w 267, 3) := by decide +kernel
theorem dJ6_bitCount_0f7a4_32 : decode (mC mJ6_bitCount_0f7a4) 32 = .ok (.iand, 1) := by decide +kernel
theorem dJ6_bitCount_0f7a4_33 : decode (mC mJ6_bitCount_0f7a4) 33 = .ok (.istore_n 0, 1) := by decide +kernel
theorem dJ6_bitCount_0f7a4_34 : decode (mC mJ6_bitCount_0f7a4) 34 = .ok (.iload_n 0, 1) := by decide +kernel
theorem dJ6_bitCount_0f7a4_35 : decode (mC mJ6_bitCount_0f7a4) 35 = .ok (.iload_n 0, 1) := by decide +kernel
theorem dJ6_bitCount_0f7a4_36 : decode (mC mJ6_bitCount_0f7a4) 36 = .ok (.bipush 8, 2) := by decide +kernel
theorem dJ6_bitCount_0f7a4_38 : decode (mC mJ6_bitCount_0f7a4) 38 = .ok (.iushr, 1) := by decide +kernel
theorem dJ6_bitCount_0f7a4_39 : decode (mC mJ6_bitCount_0f7a4) 39 = .ok (.iadd, 1) := by decide +kernel
theorem dJ6_bitCount_0f7a4_40 : decode (mC mJ6_bitCount_0f7a4) 40 = .ok (.istore_n 0, 1) := by decide +kernel
theorem dJ6_bitCount_0f7a4_41 : decode (mC mJ6_bitCount_0f7a4) 41 = .ok (.iload_n 0, 1) := by decide +kernel
theorem dJ6_bitCount_0f7a4_42 : decode (mC mJ6_bitCount_0f7a4) 42 = .ok (.iload_n 0, 1) := by decide +kernel
theorem dJ6_bitCount_0f7a4_43 : decode (mC mJ6_bitCount_0f7a4) 43 = .ok (.bipush 16, 2) := by decide +kernel
theorem dJ6_bitCount_0f7a4_45 : decode (mC mJ6_bitCount_0f7a4) 45 = .ok (.iushr, 1) := by decide +kernel
theorem dJ6_bitCount_0f7a4_46 : decode (mC mJ6_bitCount_0f7a4) 46 = .ok (.iadd, 1) := by decide +kernel
theorem dJ6_bitCount_0f7a4_47 : decode (mC mJ6_bitCount_0f7a4) 47 = .ok (.istore_n 0, 1) := by decide +kernel
theorem dJ6_bitCount_0f7a4_48 : decode (mC mJ6_bitCount_0f7a4) 48 = .ok (.iload_n 0, 1) := by decide +kernel
theorem dJ6_bitCount_0f7a4_49 : decode (mC mJ6_bitCount_0f7a4) 49 = .ok (.bipush 63, 2) := by decide +kernel
theorem dJ6_bitCount_0f7a4_51 : decode (mC mJ6_bitCount_0f7a4) 51 = .ok (.iand, 1) := by decide +kernel
theorem dJ6_bitCount_0f7a4_52 : decode (mC mJ6_bitCount_0f7a4) 52 = .ok (.ireturn, 1) := by decide +kernel
theorem dJ7_fill_53178_0 : decode (mC mJ7_fill_53178) 0 = .ok (.iconst 0, 1) := by decide +kernel
theorem dJ7_fill_53178_1 : decode (mC mJ7_fill_53178) 1 = .ok (.istore_n 2, 1) := by decide +kernel
theorem dJ7_fill_53178_2 : decode (mC mJ7_fill_53178) 2 = .ok (.aload_n 0, 1) := by decide +kernel
theorem dJ7_fill_53178_3 : decode (mC mJ7_fill_53178) 3 = .ok (.arraylength, 1) := by decide +kernel
theorem dJ7_fill_53178_4 : decode (mC mJ7_fill_53178) 4 = .ok (.istore_n 3, 1) := by decide +kernel
theorem dJ7_fill_53178_5 : decode (mC mJ7_fill_53178) 5 = .ok (.iload_n 2, 1) := by decide +kernel
theorem dJ7_fill_53178_6 : decode (mC mJ7_fill_53178) 6 = .ok (.iload_n 3, 1) := by decide +kernel
theorem dJ7_fill_53178_7 : decode (mC mJ7_fill_53178) 7 = .ok (.if_icmp .ge 13, 3) := by decide +kernel
theorem dJ7_fill_53178_10 : decode (mC mJ7_fill_53178) 10 = .ok (.aload_n 0, 1) := by decide +kernel
theorem dJ7_fill_53178_11 : decode (mC mJ7_fill_53178) 11 = .ok (.iload_n 2, 1) := by decide +kernel
theorem dJ7_fill_53178_12 : decode (mC mJ7_fill_53178) 12 = .ok (.iload_n 1, 1) := by decide +kernel
theorem dJ7_fill_53178_13 : decode (mC mJ7_fill_53178) 13 = .ok (.iastore, 1) := by decide +kernel
theorem dJ7_fill_53178_14 : decode (mC mJ7_fill_53178) 14 = .ok (.iinc 2 1, 3) := by decide +kernel
theorem dJ7_fill_53178_17 : decode (mC mJ7_fill_53178) 17 = .ok (.goto (-12), 3) := by decide +kernel
theorem dJ7_fill_53178_20 : decode (mC mJ7_fill_53178) 20 = .ok (.return_, 1) := by decide +kernel
theorem dL_law_0 : decode code 0 = .ok (.new 7, 3) := by decide +kernel
theorem dL_law_3 : decode code 3 = .ok (.dup, 1) := by decide +kernel
theorem dL_law_4 : decode code 4 = .ok (.invokespecial 9, 3) := by decide +kernel
theorem dL_law_7 : decode code 7 = .ok (.astore_n 1, 1) := by decide +kernel
theorem dL_law_8 : decode code 8 = .ok (.new 10, 3) := by decide +kernel
theorem dL_law_11 : decode code 11 = .ok (.dup, 1) := by decide +kernel
theorem dL_law_12 : decode code 12 = .ok (.invokespecial 12, 3) := by decide +kernel
theorem dL_law_15 : decode code 15 = .ok (.astore_n 2, 1) := by decide +kernel
theorem dL_law_16 : decode code 16 = .ok (.iconst 0, 1) := by decide +kernel
theorem dL_law_17 : decode code 17 = .ok (.istore_n 3, 1) := by decide +kernel
theorem dL_law_18 : decode code 18 = .ok (.iload_n 3, 1) := by decide +kernel
theorem dL_law_19 : decode code 19 = .ok (.aload_n 0, 1) := by decide +kernel
theorem dL_law_20 : decode code 20 = .ok (.arraylength, 1) := by decide +kernel
theorem dL_law_21 : decode code 21 = .ok (.bipush 6, 2) := by decide +kernel
theorem dL_law_23 : decode code 23 = .ok (.isub, 1) := by decide +kernel
theorem dL_law_24 : decode code 24 = .ok (.if_icmp .gt 1476, 3) := by decide +kernel
theorem dL_law_27 : decode code 27 = .ok (.aload_n 0, 1) := by decide +kernel
theorem dL_law_28 : decode code 28 = .ok (.iload_n 3, 1) := by decide +kernel
theorem dL_law_29 : decode code 29 = .ok (.iaload, 1) := by decide +kernel
theorem dL_law_30 : decode code 30 = .ok (.bipush 31, 2) := by decide +kernel
theorem dL_law_32 : decode code 32 = .ok (.iand, 1) := by decide +kernel
theorem dL_law_33 : decode code 33 = .ok (.tableswitch 1461 0 30 #[139, 202, 225, 258, 281, 314, 357, 400, 453, 506, 549, 592, 652, 685, 718, 761, 814, 877, 910, 953, 996, 1039, 1082, 1135, 1168, 1237, 1296, 1349, 1392, 1415, 1438], 139) := by decide +kernel
theorem dL_law_172 : decode code 172 = .ok (.aload_n 1, 1) := by decide +kernel
theorem dL_law_173 : decode code 173 = .ok (.aload_n 0, 1) := by decide +kernel
theorem dL_law_174 : decode code 174 = .ok (.iload_n 3, 1) := by decide +kernel
theorem dL_law_175 : decode code 175 = .ok (.iconst 1, 1) := by decide +kernel
theorem dL_law_176 : decode code 176 = .ok (.iadd, 1) := by decide +kernel
theorem dL_law_177 : decode code 177 = .ok (.iaload, 1) := by decide +kernel
theorem dL_law_178 : decode code 178 = .ok (.aload_n 0, 1) := by decide +kernel
theorem dL_law_179 : decode code 179 = .ok (.iload_n 3, 1) := by decide +kernel
theorem dL_law_180 : decode code 180 = .ok (.iconst 2, 1) := by decide +kernel
theorem dL_law_181 : decode code 181 = .ok (.iadd, 1) := by decide +kernel
theorem dL_law_182 : decode code 182 = .ok (.iaload, 1) := by decide +kernel
theorem dL_law_183 : decode code 183 = .ok (.aload_n 0, 1) := by decide +kernel
theorem dL_law_184 : decode code 184 = .ok (.iload_n 3, 1) := by decide +kernel
theorem dL_law_185 : decode code 185 = .ok (.iconst 3, 1) := by decide +kernel
theorem dL_law_186 : decode code 186 = .ok (.iadd, 1) := by decide +kernel
theorem dL_law_187 : decode code 187 = .ok (.iaload, 1) := by decide +kernel
theorem dL_law_188 : decode code 188 = .ok (.aload_n 0, 1) := by decide +kernel
theorem dL_law_189 : decode code 189 = .ok (.iload_n 3, 1) := by decide +kernel
theorem dL_law_190 : decode code 190 = .ok (.iconst 4, 1) := by decide +kernel
theorem dL_law_191 : decode code 191 = .ok (.iadd, 1) := by decide +kernel
theorem dL_law_192 : decode code 192 = .ok (.iaload, 1) := by decide +kernel
theorem dL_law_193 : decode code 193 = .ok (.aload_n 0, 1) := by decide +kernel
theorem dL_law_194 : decode code 194 = .ok (.iload_n 3, 1) := by decide +kernel
theorem dL_law_195 : decode code 195 = .ok (.iconst 5, 1) := by decide +kernel
theorem dL_law_196 : decode code 196 = .ok (.iadd, 1) := by decide +kernel
theorem dL_law_197 : decode code 197 = .ok (.iaload, 1) := by decide +kernel
theorem dL_law_198 : decode code 198 = .ok (.invokevirtual 13, 3) := by decide +kernel
theorem dL_law_201 : decode code 201 = .ok (.aload_n 2, 1) := by decide +kernel
theorem dL_law_202 : decode code 202 = .ok (.aload_n 0, 1) := by decide +kernel
theorem dL_law_203 : decode code 203 = .ok (.iload_n 3, 1) := by decide +kernel
theorem dL_law_204 : decode code 204 = .ok (.iconst 1, 1) := by decide +kernel
theorem dL_law_205 : decode code 205 = .ok (.iadd, 1) := by decide +kernel
theorem dL_law_206 : decode code 206 = .ok (.iaload, 1) := by decide +kernel
theorem dL_law_207 : decode code 207 = .ok (.aload_n 0, 1) := by decide +kernel
theorem dL_law_208 : decode code 208 = .ok (.iload_n 3, 1) := by decide +kernel
theorem dL_law_209 : decode code 209 = .ok (.iconst 2, 1) := by decide +kernel
theorem dL_law_210 : decode code 210 = .ok (.iadd, 1) := by decide +kernel
theorem dL_law_211 : decode code 211 = .ok (.iaload, 1) := by decide +kernel
theorem dL_law_212 : decode code 212 = .ok (.aload_n 0, 1) := by decide +kernel
theorem dL_law_213 : decode code 213 = .ok (.iload_n 3, 1) := by decide +kernel
theorem dL_law_214 : decode code 214 = .ok (.iconst 3, 1) := by decide +kernel
theorem dL_law_215 : decode code 215 = .ok (.iadd, 1) := by decide +kernel
theorem dL_law_216 : decode code 216 = .ok (.iaload, 1) := by decide +kernel
theorem dL_law_217 : decode code 217 = .ok (.aload_n 0, 1) := by decide +kernel
theorem dL_law_218 : decode code 218 = .ok (.iload_n 3, 1) := by decide +kernel
theorem dL_law_219 : decode code 219 = .ok (.iconst 4, 1) := by decide +kernel
theorem dL_law_220 : decode code 220 = .ok (.iadd, 1) := by decide +kernel
theorem dL_law_221 : decode code 221 = .ok (.iaload, 1) := by decide +kernel
theorem dL_law_222 : decode code 222 = .ok (.aload_n 0, 1) := by decide +kernel
theorem dL_law_223 : decode code 223 = .ok (.iload_n 3, 1) := by decide +kernel
theorem dL_law_224 : decode code 224 = .ok (.iconst 5, 1) := by decide +kernel
theorem dL_law_225 : decode code 225 = .ok (.iadd, 1) := by decide +kernel
theorem dL_law_226 : decode code 226 = .ok (.iaload, 1) := by decide +kernel
theorem dL_law_227 : decode code 227 = .ok (.invokevirtual 17, 3) := by decide +kernel
theorem dL_law_230 : decode code 230 = .ok (.if_icmp .eq 1264, 3) := by decide +kernel
theorem dL_law_233 : decode code 233 = .ok (.iconst 0, 1) := by decide +kernel
theorem dL_law_234 : decode code 234 = .ok (.ireturn, 1) := by decide +kernel
theorem dL_law_235 : decode code 235 = .ok (.aload_n 1, 1) := by decide +kernel
theorem dL_law_236 : decode code 236 = .ok (.aload_n 0, 1) := by decide +kernel
theorem dL_law_237 : decode code 237 = .ok (.iload_n 3, 1) := by decide +kernel
theorem dL_law_238 : decode code 238 = .ok (.iconst 1, 1) := by decide +kernel
theorem dL_law_239 : decode code 239 = .ok (.iadd, 1) := by decide +kernel
theorem dL_law_240 : decode code 240 = .ok (.iaload, 1) := by decide +kernel
theorem dL_law_241 : decode code 241 = .ok (.invokevirtual 18, 3) := by decide +kernel
theorem dL_law_244 : decode code 244 = .ok (.aload_n 2, 1) := by decide +kernel
theorem dL_law_245 : decode code 245 = .ok (.aload_n 0, 1) := by decide +kernel
theorem dL_law_246 : decode code 246 = .ok (.iload_n 3, 1) := by decide +kernel
theorem dL_law_247 : decode code 247 = .ok (.iconst 1, 1) := by decide +kernel
theorem dL_law_248 : decode code 248 = .ok (.iadd, 1) := by decide +kernel
theorem dL_law_249 : decode code 249 = .ok (.iaload, 1) := by decide +kernel
theorem dL_law_250 : decode code 250 = .ok (.invokevirtual 22, 3) := by decide +kernel
theorem dL_law_253 : decode code 253 = .ok (.if_icmp .eq 1241, 3) := by decide +kernel
theorem dL_law_256 : decode code 256 = .ok (.iconst 0, 1) := by decide +kernel
theorem dL_law_257 : decode code 257 = .ok (.ireturn, 1) := by decide +kernel
theorem dL_law_258 : decode code 258 = .ok (.aload_n 1, 1) := by decide +kernel
theorem dL_law_259 : decode code 259 = .ok (.aload_n 0, 1) := by decide +kernel
theorem dL_law_260 : decode code 260 = .ok (.iload_n 3, 1) := by decide +kernel
theorem dL_law_261 : decode code 261 = .ok (.iconst 1, 1) := by decide +kernel
theorem dL_law_262 : decode code 262 = .ok (.iadd, 1) := by decide +kernel
theorem dL_law_263 : decode code 263 = .ok (.iaload, 1) := by decide +kernel
theorem dL_law_264 : decode code 264 = .ok (.aload_n 0, 1) := by decide +kernel
theorem dL_law_265 : decode code 265 = .ok (.iload_n 3, 1) := by decide +kernel
theorem dL_law_266 : decode code 266 = .ok (.iconst 2, 1) := by decide +kernel
theorem dL_law_267 : decode code 267 = .ok (.iadd, 1) := by decide +kernel
theorem dL_law_268 : decode code 268 = .ok (.iaload, 1) := by decide +kernel
theorem dL_law_269 : decode code 269 = .ok (.invokevirtual 23, 3) := by decide +kernel
theorem dL_law_272 : decode code 272 = .ok (.aload_n 2, 1) := by decide +kernel
theorem dL_law_273 : decode code 273 = .ok (.aload_n 0, 1) := by decide +kernel
theorem dL_law_274 : decode code 274 = .ok (.iload_n 3, 1) := by decide +kernel
theorem dL_law_275 : decode code 275 = .ok (.iconst 1, 1) := by decide +kernel
theorem dL_law_276 : decode code 276 = .ok (.iadd, 1) := by decide +kernel
theorem dL_law_277 : decode code 277 = .ok (.iaload, 1) := by decide +kernel
theorem dL_law_278 : decode code 278 = .ok (.aload_n 0, 1) := by decide +kernel
theorem dL_law_279 : decode code 279 = .ok (.iload_n 3, 1) := by decide +kernel
theorem dL_law_280 : decode code 280 = .ok (.iconst 2, 1) := by decide +kernel
theorem dL_law_281 : decode code 281 = .ok (.iadd, 1) := by decide +kernel
theorem dL_law_282 : decode code 282 = .ok (.iaload, 1) := by decide +kernel
theorem dL_law_283 : decode code 283 = .ok (.invokevirtual 27, 3) := by decide +kernel
theorem dL_law_286 : decode code 286 = .ok (.if_icmp .eq 1208, 3) := by decide +kernel
theorem dL_law_289 : decode code 289 = .ok (.iconst 0, 1) := by decide +kernel
theorem dL_law_290 : decode code 290 = .ok (.ireturn, 1) := by decide +kernel
theorem dL_law_291 : decode code 291 = .ok (.aload_n 1, 1) := by decide +kernel
theorem dL_law_292 : decode code 292 = .ok (.aload_n 0, 1) := by decide +kernel
theorem dL_law_293 : decode code 293 = .ok (.iload_n 3, 1) := by decide +kernel
theorem dL_law_294 : decode code 294 = .ok (.iconst 1, 1) := by decide +kernel
theorem dL_law_295 : decode code 295 = .ok (.iadd, 1) := by decide +kernel
theorem dL_law_296 : decode code 296 = .ok (.iaload, 1) := by decide +kernel
theorem dL_law_297 : decode code 297 = .ok (.invokevirtual 28, 3) := by decide +kernel
theorem dL_law_300 : decode code 300 = .ok (.aload_n 2, 1) := by decide +kernel
theorem dL_law_301 : decode code 301 = .ok (.aload_n 0, 1) := by decide +kernel
theorem dL_law_302 : decode code 302 = .ok (.iload_n 3, 1) := by decide +kernel
theorem dL_law_303 : decode code 303 = .ok (.iconst 1, 1) := by decide +kernel
