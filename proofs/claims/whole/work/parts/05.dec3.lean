theorem dX11_nightLine_98 : decode (mC mX11_nightLine) 98 = .ok (.ifCond .eq 26, 3) := by decide +kernel
theorem dX11_nightLine_101 : decode (mC mX11_nightLine) 101 = .ok (.bipush 120, 2) := by decide +kernel
theorem dX11_nightLine_103 : decode (mC mX11_nightLine) 103 = .ok (.bipush 33, 2) := by decide +kernel
theorem dX11_nightLine_105 : decode (mC mX11_nightLine) 105 = .ok (.aload_n 0, 1) := by decide +kernel
theorem dX11_nightLine_106 : decode (mC mX11_nightLine) 106 = .ok (.invokevirtual 161, 3) := by decide +kernel
theorem dX11_nightLine_109 : decode (mC mX11_nightLine) 109 = .ok (.imul, 1) := by decide +kernel
theorem dX11_nightLine_110 : decode (mC mX11_nightLine) 110 = .ok (.iadd, 1) := by decide +kernel
theorem dX11_nightLine_111 : decode (mC mX11_nightLine) 111 = .ok (.istore_n 3, 1) := by decide +kernel
theorem dX11_nightLine_112 : decode (mC mX11_nightLine) 112 = .ok (.aload_n 0, 1) := by decide +kernel
theorem dX11_nightLine_113 : decode (mC mX11_nightLine) 113 = .ok (.getfield 17, 3) := by decide +kernel
theorem dX11_nightLine_116 : decode (mC mX11_nightLine) 116 = .ok (.iload_n 3, 1) := by decide +kernel
theorem dX11_nightLine_117 : decode (mC mX11_nightLine) 117 = .ok (.iconst 4, 1) := by decide +kernel
theorem dX11_nightLine_118 : decode (mC mX11_nightLine) 118 = .ok (.iadd, 1) := by decide +kernel
theorem dX11_nightLine_119 : decode (mC mX11_nightLine) 119 = .ok (.iload_n 2, 1) := by decide +kernel
theorem dX11_nightLine_120 : decode (mC mX11_nightLine) 120 = .ok (.bipush 6, 2) := by decide +kernel
theorem dX11_nightLine_122 : decode (mC mX11_nightLine) 122 = .ok (.isub, 1) := by decide +kernel
theorem dX11_nightLine_123 : decode (mC mX11_nightLine) 123 = .ok (.iastore, 1) := by decide +kernel
theorem dX11_nightLine_124 : decode (mC mX11_nightLine) 124 = .ok (.iload_n 2, 1) := by decide +kernel
theorem dX11_nightLine_125 : decode (mC mX11_nightLine) 125 = .ok (.bipush 9, 2) := by decide +kernel
theorem dX11_nightLine_127 : decode (mC mX11_nightLine) 127 = .ok (.if_icmp .ne 20, 3) := by decide +kernel
theorem dX11_nightLine_130 : decode (mC mX11_nightLine) 130 = .ok (.aload_n 0, 1) := by decide +kernel
theorem dX11_nightLine_131 : decode (mC mX11_nightLine) 131 = .ok (.iconst 0, 1) := by decide +kernel
theorem dX11_nightLine_132 : decode (mC mX11_nightLine) 132 = .ok (.bipush 99, 2) := by decide +kernel
theorem dX11_nightLine_134 : decode (mC mX11_nightLine) 134 = .ok (.invokevirtual 151, 3) := by decide +kernel
theorem dX11_nightLine_137 : decode (mC mX11_nightLine) 137 = .ok (.istore_n 3, 1) := by decide +kernel
theorem dX11_nightLine_138 : decode (mC mX11_nightLine) 138 = .ok (.aload_n 0, 1) := by decide +kernel
theorem dX11_nightLine_139 : decode (mC mX11_nightLine) 139 = .ok (.getfield 17, 3) := by decide +kernel
theorem dX11_nightLine_142 : decode (mC mX11_nightLine) 142 = .ok (.iconst 5, 1) := by decide +kernel
theorem dX11_nightLine_143 : decode (mC mX11_nightLine) 143 = .ok (.iload_n 3, 1) := by decide +kernel
theorem dX11_nightLine_144 : decode (mC mX11_nightLine) 144 = .ok (.iadd, 1) := by decide +kernel
theorem dX11_nightLine_145 : decode (mC mX11_nightLine) 145 = .ok (.iconst 1, 1) := by decide +kernel
theorem dX11_nightLine_146 : decode (mC mX11_nightLine) 146 = .ok (.iastore, 1) := by decide +kernel
theorem dX11_nightLine_147 : decode (mC mX11_nightLine) 147 = .ok (.iload_n 2, 1) := by decide +kernel
theorem dX11_nightLine_148 : decode (mC mX11_nightLine) 148 = .ok (.bipush 10, 2) := by decide +kernel
theorem dX11_nightLine_150 : decode (mC mX11_nightLine) 150 = .ok (.if_icmp .ne 8, 3) := by decide +kernel
theorem dX11_nightLine_153 : decode (mC mX11_nightLine) 153 = .ok (.aload_n 0, 1) := by decide +kernel
theorem dX11_nightLine_154 : decode (mC mX11_nightLine) 154 = .ok (.iload_n 1, 1) := by decide +kernel
theorem dX11_nightLine_155 : decode (mC mX11_nightLine) 155 = .ok (.invokevirtual 181, 3) := by decide +kernel
theorem dX11_nightLine_158 : decode (mC mX11_nightLine) 158 = .ok (.aload_n 0, 1) := by decide +kernel
theorem dX11_nightLine_159 : decode (mC mX11_nightLine) 159 = .ok (.invokevirtual 184, 3) := by decide +kernel
theorem dX11_nightLine_162 : decode (mC mX11_nightLine) 162 = .ok (.return_, 1) := by decide +kernel
theorem dX11_signLine_0 : decode (mC mX11_signLine) 0 = .ok (.aload_n 0, 1) := by decide +kernel
theorem dX11_signLine_1 : decode (mC mX11_signLine) 1 = .ok (.getfield 107, 3) := by decide +kernel
theorem dX11_signLine_4 : decode (mC mX11_signLine) 4 = .ok (.istore_n 1, 1) := by decide +kernel
theorem dX11_signLine_5 : decode (mC mX11_signLine) 5 = .ok (.aload_n 0, 1) := by decide +kernel
theorem dX11_signLine_6 : decode (mC mX11_signLine) 6 = .ok (.getfield 17, 3) := by decide +kernel
theorem dX11_signLine_9 : decode (mC mX11_signLine) 9 = .ok (.iconst 0, 1) := by decide +kernel
theorem dX11_signLine_10 : decode (mC mX11_signLine) 10 = .ok (.iaload, 1) := by decide +kernel
theorem dX11_signLine_11 : decode (mC mX11_signLine) 11 = .ok (.bipush 10, 2) := by decide +kernel
theorem dX11_signLine_13 : decode (mC mX11_signLine) 13 = .ok (.if_icmp .ge 7, 3) := by decide +kernel
theorem dX11_signLine_16 : decode (mC mX11_signLine) 16 = .ok (.iconst 1, 1) := by decide +kernel
theorem dX11_signLine_17 : decode (mC mX11_signLine) 17 = .ok (.goto 4, 3) := by decide +kernel
theorem dX11_signLine_20 : decode (mC mX11_signLine) 20 = .ok (.iconst 0, 1) := by decide +kernel
theorem dX11_signLine_21 : decode (mC mX11_signLine) 21 = .ok (.istore_n 2, 1) := by decide +kernel
theorem dX11_signLine_22 : decode (mC mX11_signLine) 22 = .ok (.aload_n 0, 1) := by decide +kernel
theorem dX11_signLine_23 : decode (mC mX11_signLine) 23 = .ok (.bipush 11, 2) := by decide +kernel
theorem dX11_signLine_25 : decode (mC mX11_signLine) 25 = .ok (.bipush 11, 2) := by decide +kernel
theorem dX11_signLine_27 : decode (mC mX11_signLine) 27 = .ok (.invokevirtual 168, 3) := by decide +kernel
theorem dX11_signLine_30 : decode (mC mX11_signLine) 30 = .ok (.bipush 11, 2) := by decide +kernel
theorem dX11_signLine_32 : decode (mC mX11_signLine) 32 = .ok (.if_icmp .ne 133, 3) := by decide +kernel
theorem dX11_signLine_35 : decode (mC mX11_signLine) 35 = .ok (.iload_n 2, 1) := by decide +kernel
theorem dX11_signLine_36 : decode (mC mX11_signLine) 36 = .ok (.ifCond .ne 9, 3) := by decide +kernel
theorem dX11_signLine_39 : decode (mC mX11_signLine) 39 = .ok (.aload_n 0, 1) := by decide +kernel
theorem dX11_signLine_40 : decode (mC mX11_signLine) 40 = .ok (.iconst 3, 1) := by decide +kernel
theorem dX11_signLine_41 : decode (mC mX11_signLine) 41 = .ok (.iload_n 1, 1) := by decide +kernel
theorem dX11_signLine_42 : decode (mC mX11_signLine) 42 = .ok (.invokevirtual 144, 3) := by decide +kernel
theorem dX11_signLine_45 : decode (mC mX11_signLine) 45 = .ok (.aload_n 0, 1) := by decide +kernel
theorem dX11_signLine_46 : decode (mC mX11_signLine) 46 = .ok (.iconst 0, 1) := by decide +kernel
theorem dX11_signLine_47 : decode (mC mX11_signLine) 47 = .ok (.bipush 63, 2) := by decide +kernel
theorem dX11_signLine_49 : decode (mC mX11_signLine) 49 = .ok (.invokevirtual 151, 3) := by decide +kernel
theorem dX11_signLine_52 : decode (mC mX11_signLine) 52 = .ok (.istore_n 3, 1) := by decide +kernel
theorem dX11_signLine_53 : decode (mC mX11_signLine) 53 = .ok (.aload_n 0, 1) := by decide +kernel
theorem dX11_signLine_54 : decode (mC mX11_signLine) 54 = .ok (.iconst 0, 1) := by decide +kernel
theorem dX11_signLine_55 : decode (mC mX11_signLine) 55 = .ok (.bipush 6, 2) := by decide +kernel
theorem dX11_signLine_57 : decode (mC mX11_signLine) 57 = .ok (.invokevirtual 151, 3) := by decide +kernel
theorem dX11_signLine_60 : decode (mC mX11_signLine) 60 = .ok (.istore 4, 2) := by decide +kernel
theorem dX11_signLine_62 : decode (mC mX11_signLine) 62 = .ok (.aload_n 0, 1) := by decide +kernel
theorem dX11_signLine_63 : decode (mC mX11_signLine) 63 = .ok (.iconst 0, 1) := by decide +kernel
theorem dX11_signLine_64 : decode (mC mX11_signLine) 64 = .ok (.iconst 1, 1) := by decide +kernel
theorem dX11_signLine_65 : decode (mC mX11_signLine) 65 = .ok (.invokevirtual 151, 3) := by decide +kernel
theorem dX11_signLine_68 : decode (mC mX11_signLine) 68 = .ok (.istore 5, 2) := by decide +kernel
theorem dX11_signLine_70 : decode (mC mX11_signLine) 70 = .ok (.aload_n 0, 1) := by decide +kernel
theorem dX11_signLine_71 : decode (mC mX11_signLine) 71 = .ok (.iconst 0, 1) := by decide +kernel
theorem dX11_signLine_72 : decode (mC mX11_signLine) 72 = .ok (.iconst 3, 1) := by decide +kernel
theorem dX11_signLine_73 : decode (mC mX11_signLine) 73 = .ok (.invokevirtual 151, 3) := by decide +kernel
theorem dX11_signLine_76 : decode (mC mX11_signLine) 76 = .ok (.istore 6, 2) := by decide +kernel
theorem dX11_signLine_78 : decode (mC mX11_signLine) 78 = .ok (.aload_n 0, 1) := by decide +kernel
theorem dX11_signLine_79 : decode (mC mX11_signLine) 79 = .ok (.iconst 1, 1) := by decide +kernel
theorem dX11_signLine_80 : decode (mC mX11_signLine) 80 = .ok (.bipush 99, 2) := by decide +kernel
theorem dX11_signLine_82 : decode (mC mX11_signLine) 82 = .ok (.invokevirtual 151, 3) := by decide +kernel
theorem dX11_signLine_85 : decode (mC mX11_signLine) 85 = .ok (.istore 7, 2) := by decide +kernel
theorem dX11_signLine_87 : decode (mC mX11_signLine) 87 = .ok (.iload_n 2, 1) := by decide +kernel
theorem dX11_signLine_88 : decode (mC mX11_signLine) 88 = .ok (.ifCond .eq 77, 3) := by decide +kernel
theorem dX11_signLine_91 : decode (mC mX11_signLine) 91 = .ok (.iconst 1, 1) := by decide +kernel
theorem dX11_signLine_92 : decode (mC mX11_signLine) 92 = .ok (.iconst 5, 1) := by decide +kernel
theorem dX11_signLine_93 : decode (mC mX11_signLine) 93 = .ok (.aload_n 0, 1) := by decide +kernel
theorem dX11_signLine_94 : decode (mC mX11_signLine) 94 = .ok (.getfield 17, 3) := by decide +kernel
theorem dX11_signLine_97 : decode (mC mX11_signLine) 97 = .ok (.iconst 0, 1) := by decide +kernel
theorem dX11_signLine_98 : decode (mC mX11_signLine) 98 = .ok (.iaload, 1) := by decide +kernel
theorem dX11_signLine_99 : decode (mC mX11_signLine) 99 = .ok (.imul, 1) := by decide +kernel
theorem dX11_signLine_100 : decode (mC mX11_signLine) 100 = .ok (.iadd, 1) := by decide +kernel
theorem dX11_signLine_101 : decode (mC mX11_signLine) 101 = .ok (.istore 8, 2) := by decide +kernel
theorem dX11_signLine_103 : decode (mC mX11_signLine) 103 = .ok (.aload_n 0, 1) := by decide +kernel
theorem dX11_signLine_104 : decode (mC mX11_signLine) 104 = .ok (.getfield 17, 3) := by decide +kernel
theorem dX11_signLine_107 : decode (mC mX11_signLine) 107 = .ok (.iload 8, 2) := by decide +kernel
theorem dX11_signLine_109 : decode (mC mX11_signLine) 109 = .ok (.iload_n 3, 1) := by decide +kernel
theorem dX11_signLine_110 : decode (mC mX11_signLine) 110 = .ok (.iastore, 1) := by decide +kernel
theorem dX11_signLine_111 : decode (mC mX11_signLine) 111 = .ok (.aload_n 0, 1) := by decide +kernel
theorem dX11_signLine_112 : decode (mC mX11_signLine) 112 = .ok (.getfield 17, 3) := by decide +kernel
theorem dX11_signLine_115 : decode (mC mX11_signLine) 115 = .ok (.iload 8, 2) := by decide +kernel
theorem dX11_signLine_117 : decode (mC mX11_signLine) 117 = .ok (.iconst 1, 1) := by decide +kernel
theorem dX11_signLine_118 : decode (mC mX11_signLine) 118 = .ok (.iadd, 1) := by decide +kernel
theorem dX11_signLine_119 : decode (mC mX11_signLine) 119 = .ok (.iload 4, 2) := by decide +kernel
theorem dX11_signLine_121 : decode (mC mX11_signLine) 121 = .ok (.iastore, 1) := by decide +kernel
theorem dX11_signLine_122 : decode (mC mX11_signLine) 122 = .ok (.aload_n 0, 1) := by decide +kernel
theorem dX11_signLine_123 : decode (mC mX11_signLine) 123 = .ok (.getfield 17, 3) := by decide +kernel
theorem dX11_signLine_126 : decode (mC mX11_signLine) 126 = .ok (.iload 8, 2) := by decide +kernel
theorem dX11_signLine_128 : decode (mC mX11_signLine) 128 = .ok (.iconst 2, 1) := by decide +kernel
theorem dX11_signLine_129 : decode (mC mX11_signLine) 129 = .ok (.iadd, 1) := by decide +kernel
theorem dX11_signLine_130 : decode (mC mX11_signLine) 130 = .ok (.iload 5, 2) := by decide +kernel
theorem dX11_signLine_132 : decode (mC mX11_signLine) 132 = .ok (.iastore, 1) := by decide +kernel
theorem dX11_signLine_133 : decode (mC mX11_signLine) 133 = .ok (.aload_n 0, 1) := by decide +kernel
theorem dX11_signLine_134 : decode (mC mX11_signLine) 134 = .ok (.getfield 17, 3) := by decide +kernel
theorem dX11_signLine_137 : decode (mC mX11_signLine) 137 = .ok (.iload 8, 2) := by decide +kernel
theorem dX11_signLine_139 : decode (mC mX11_signLine) 139 = .ok (.iconst 3, 1) := by decide +kernel
theorem dX11_signLine_140 : decode (mC mX11_signLine) 140 = .ok (.iadd, 1) := by decide +kernel
theorem dX11_signLine_141 : decode (mC mX11_signLine) 141 = .ok (.iload 6, 2) := by decide +kernel
theorem dX11_signLine_143 : decode (mC mX11_signLine) 143 = .ok (.iastore, 1) := by decide +kernel
theorem dX11_signLine_144 : decode (mC mX11_signLine) 144 = .ok (.aload_n 0, 1) := by decide +kernel
theorem dX11_signLine_145 : decode (mC mX11_signLine) 145 = .ok (.getfield 17, 3) := by decide +kernel
theorem dX11_signLine_148 : decode (mC mX11_signLine) 148 = .ok (.iload 8, 2) := by decide +kernel
theorem dX11_signLine_150 : decode (mC mX11_signLine) 150 = .ok (.iconst 4, 1) := by decide +kernel
theorem dX11_signLine_151 : decode (mC mX11_signLine) 151 = .ok (.iadd, 1) := by decide +kernel
theorem dX11_signLine_152 : decode (mC mX11_signLine) 152 = .ok (.iload 7, 2) := by decide +kernel
theorem dX11_signLine_154 : decode (mC mX11_signLine) 154 = .ok (.iastore, 1) := by decide +kernel
theorem dX11_signLine_155 : decode (mC mX11_signLine) 155 = .ok (.aload_n 0, 1) := by decide +kernel
theorem dX11_signLine_156 : decode (mC mX11_signLine) 156 = .ok (.getfield 17, 3) := by decide +kernel
theorem dX11_signLine_159 : decode (mC mX11_signLine) 159 = .ok (.iconst 0, 1) := by decide +kernel
theorem dX11_signLine_160 : decode (mC mX11_signLine) 160 = .ok (.dup2, 1) := by decide +kernel
theorem dX11_signLine_161 : decode (mC mX11_signLine) 161 = .ok (.iaload, 1) := by decide +kernel
theorem dX11_signLine_162 : decode (mC mX11_signLine) 162 = .ok (.iconst 1, 1) := by decide +kernel
theorem dX11_signLine_163 : decode (mC mX11_signLine) 163 = .ok (.iadd, 1) := by decide +kernel
theorem dX11_signLine_164 : decode (mC mX11_signLine) 164 = .ok (.iastore, 1) := by decide +kernel
theorem dX11_signLine_165 : decode (mC mX11_signLine) 165 = .ok (.aload_n 0, 1) := by decide +kernel
theorem dX11_signLine_166 : decode (mC mX11_signLine) 166 = .ok (.invokevirtual 184, 3) := by decide +kernel
theorem dX11_signLine_169 : decode (mC mX11_signLine) 169 = .ok (.return_, 1) := by decide +kernel
theorem dX11_placeOf_0 : decode (mC mX11_placeOf) 0 = .ok (.iload_n 0, 1) := by decide +kernel
theorem dX11_placeOf_1 : decode (mC mX11_placeOf) 1 = .ok (.ifCond .ne 15, 3) := by decide +kernel
theorem dX11_placeOf_4 : decode (mC mX11_placeOf) 4 = .ok (.sipush 610, 3) := by decide +kernel
theorem dX11_placeOf_7 : decode (mC mX11_placeOf) 7 = .ok (.sipush 318, 3) := by decide +kernel
theorem dX11_placeOf_10 : decode (mC mX11_placeOf) 10 = .ok (.iload_n 1, 1) := by decide +kernel
theorem dX11_placeOf_11 : decode (mC mX11_placeOf) 11 = .ok (.imul, 1) := by decide +kernel
theorem dX11_placeOf_12 : decode (mC mX11_placeOf) 12 = .ok (.iadd, 1) := by decide +kernel
theorem dX11_placeOf_13 : decode (mC mX11_placeOf) 13 = .ok (.goto 11, 3) := by decide +kernel
theorem dX11_placeOf_16 : decode (mC mX11_placeOf) 16 = .ok (.sipush 1246, 3) := by decide +kernel
theorem dX11_placeOf_19 : decode (mC mX11_placeOf) 19 = .ok (.bipush 51, 2) := by decide +kernel
theorem dX11_placeOf_21 : decode (mC mX11_placeOf) 21 = .ok (.iload_n 1, 1) := by decide +kernel
theorem dX11_placeOf_22 : decode (mC mX11_placeOf) 22 = .ok (.imul, 1) := by decide +kernel
theorem dX11_placeOf_23 : decode (mC mX11_placeOf) 23 = .ok (.iadd, 1) := by decide +kernel
theorem dX11_placeOf_24 : decode (mC mX11_placeOf) 24 = .ok (.ireturn, 1) := by decide +kernel
theorem dX11_isOf_0 : decode (mC mX11_isOf) 0 = .ok (.iload_n 2, 1) := by decide +kernel
theorem dX11_isOf_1 : decode (mC mX11_isOf) 1 = .ok (.iconst 0, 1) := by decide +kernel
theorem dX11_isOf_2 : decode (mC mX11_isOf) 2 = .ok (.aload_n 0, 1) := by decide +kernel
theorem dX11_isOf_3 : decode (mC mX11_isOf) 3 = .ok (.getfield 7, 3) := by decide +kernel
theorem dX11_isOf_6 : decode (mC mX11_isOf) 6 = .ok (.iload_n 1, 1) := by decide +kernel
theorem dX11_isOf_7 : decode (mC mX11_isOf) 7 = .ok (.iaload, 1) := by decide +kernel
theorem dX11_isOf_8 : decode (mC mX11_isOf) 8 = .ok (.iconst 1, 1) := by decide +kernel
theorem dX11_isOf_9 : decode (mC mX11_isOf) 9 = .ok (.isub, 1) := by decide +kernel
theorem dX11_isOf_10 : decode (mC mX11_isOf) 10 = .ok (.invokestatic 140, 3) := by decide +kernel
theorem dX11_isOf_13 : decode (mC mX11_isOf) 13 = .ok (.ireturn, 1) := by decide +kernel
theorem dX11_clears_0 : decode (mC mX11_clears) 0 = .ok (.iconst 0, 1) := by decide +kernel
theorem dX11_clears_1 : decode (mC mX11_clears) 1 = .ok (.istore_n 2, 1) := by decide +kernel
theorem dX11_clears_2 : decode (mC mX11_clears) 2 = .ok (.iload_n 2, 1) := by decide +kernel
theorem dX11_clears_3 : decode (mC mX11_clears) 3 = .ok (.sipush 318, 3) := by decide +kernel
theorem dX11_clears_6 : decode (mC mX11_clears) 6 = .ok (.if_icmp .ge 16, 3) := by decide +kernel
theorem dX11_clears_9 : decode (mC mX11_clears) 9 = .ok (.aload_n 0, 1) := by decide +kernel
theorem dX11_clears_10 : decode (mC mX11_clears) 10 = .ok (.getfield 17, 3) := by decide +kernel
theorem dX11_clears_13 : decode (mC mX11_clears) 13 = .ok (.iload_n 2, 1) := by decide +kernel
theorem dX11_clears_14 : decode (mC mX11_clears) 14 = .ok (.iconst 0, 1) := by decide +kernel
theorem dX11_clears_15 : decode (mC mX11_clears) 15 = .ok (.iastore, 1) := by decide +kernel
theorem dX11_clears_16 : decode (mC mX11_clears) 16 = .ok (.iinc 2 1, 3) := by decide +kernel
theorem dX11_clears_19 : decode (mC mX11_clears) 19 = .ok (.goto (-17), 3) := by decide +kernel
theorem dX11_clears_22 : decode (mC mX11_clears) 22 = .ok (.iload_n 1, 1) := by decide +kernel
theorem dX11_clears_23 : decode (mC mX11_clears) 23 = .ok (.iconst 1, 1) := by decide +kernel
theorem dX11_clears_24 : decode (mC mX11_clears) 24 = .ok (.if_icmp .ne 4, 3) := by decide +kernel
theorem dX11_clears_27 : decode (mC mX11_clears) 27 = .ok (.return_, 1) := by decide +kernel
theorem dX11_clears_28 : decode (mC mX11_clears) 28 = .ok (.aload_n 0, 1) := by decide +kernel
theorem dX11_clears_29 : decode (mC mX11_clears) 29 = .ok (.getfield 17, 3) := by decide +kernel
theorem dX11_clears_32 : decode (mC mX11_clears) 32 = .ok (.iconst 0, 1) := by decide +kernel
theorem dX11_clears_33 : decode (mC mX11_clears) 33 = .ok (.bipush 6, 2) := by decide +kernel
theorem dX11_clears_35 : decode (mC mX11_clears) 35 = .ok (.iastore, 1) := by decide +kernel
theorem dX11_clears_36 : decode (mC mX11_clears) 36 = .ok (.aload_n 0, 1) := by decide +kernel
theorem dX11_clears_37 : decode (mC mX11_clears) 37 = .ok (.getfield 17, 3) := by decide +kernel
theorem dX11_clears_40 : decode (mC mX11_clears) 40 = .ok (.iconst 1, 1) := by decide +kernel
theorem dX11_clears_41 : decode (mC mX11_clears) 41 = .ok (.bipush 6, 2) := by decide +kernel
theorem dX11_clears_43 : decode (mC mX11_clears) 43 = .ok (.iastore, 1) := by decide +kernel
theorem dX11_clears_44 : decode (mC mX11_clears) 44 = .ok (.aload_n 0, 1) := by decide +kernel
theorem dX11_clears_45 : decode (mC mX11_clears) 45 = .ok (.getfield 17, 3) := by decide +kernel
theorem dX11_clears_48 : decode (mC mX11_clears) 48 = .ok (.iconst 2, 1) := by decide +kernel
theorem dX11_clears_49 : decode (mC mX11_clears) 49 = .ok (.iconst 2, 1) := by decide +kernel
theorem dX11_clears_50 : decode (mC mX11_clears) 50 = .ok (.iastore, 1) := by decide +kernel
theorem dX11_clears_51 : decode (mC mX11_clears) 51 = .ok (.iconst 0, 1) := by decide +kernel
theorem dX11_clears_52 : decode (mC mX11_clears) 52 = .ok (.istore_n 2, 1) := by decide +kernel
theorem dX11_clears_53 : decode (mC mX11_clears) 53 = .ok (.iload_n 2, 1) := by decide +kernel
theorem dX11_clears_54 : decode (mC mX11_clears) 54 = .ok (.bipush 6, 2) := by decide +kernel
theorem dX11_clears_56 : decode (mC mX11_clears) 56 = .ok (.if_icmp .ge 56, 3) := by decide +kernel
theorem dX11_clears_59 : decode (mC mX11_clears) 59 = .ok (.aload_n 0, 1) := by decide +kernel
theorem dX11_clears_60 : decode (mC mX11_clears) 60 = .ok (.getfield 17, 3) := by decide +kernel
theorem dX11_clears_63 : decode (mC mX11_clears) 63 = .ok (.bipush 120, 2) := by decide +kernel
theorem dX11_clears_65 : decode (mC mX11_clears) 65 = .ok (.bipush 33, 2) := by decide +kernel
theorem dX11_clears_67 : decode (mC mX11_clears) 67 = .ok (.iload_n 2, 1) := by decide +kernel
theorem dX11_clears_68 : decode (mC mX11_clears) 68 = .ok (.imul, 1) := by decide +kernel
theorem dX11_clears_69 : decode (mC mX11_clears) 69 = .ok (.iadd, 1) := by decide +kernel
theorem dX11_clears_70 : decode (mC mX11_clears) 70 = .ok (.iconst 5, 1) := by decide +kernel
theorem dX11_clears_71 : decode (mC mX11_clears) 71 = .ok (.iadd, 1) := by decide +kernel
theorem dX11_clears_72 : decode (mC mX11_clears) 72 = .ok (.iconst (-1), 1) := by decide +kernel
theorem dX11_clears_73 : decode (mC mX11_clears) 73 = .ok (.iastore, 1) := by decide +kernel
theorem dX11_clears_74 : decode (mC mX11_clears) 74 = .ok (.aload_n 0, 1) := by decide +kernel
theorem dX11_clears_75 : decode (mC mX11_clears) 75 = .ok (.getfield 17, 3) := by decide +kernel
theorem dX11_clears_78 : decode (mC mX11_clears) 78 = .ok (.bipush 120, 2) := by decide +kernel
theorem dX11_clears_80 : decode (mC mX11_clears) 80 = .ok (.bipush 33, 2) := by decide +kernel
theorem dX11_clears_82 : decode (mC mX11_clears) 82 = .ok (.iload_n 2, 1) := by decide +kernel
theorem dX11_clears_83 : decode (mC mX11_clears) 83 = .ok (.imul, 1) := by decide +kernel
theorem dX11_clears_84 : decode (mC mX11_clears) 84 = .ok (.iadd, 1) := by decide +kernel
theorem dX11_clears_85 : decode (mC mX11_clears) 85 = .ok (.bipush 6, 2) := by decide +kernel
theorem dX11_clears_87 : decode (mC mX11_clears) 87 = .ok (.iadd, 1) := by decide +kernel
theorem dX11_clears_88 : decode (mC mX11_clears) 88 = .ok (.iconst (-1), 1) := by decide +kernel
theorem dX11_clears_89 : decode (mC mX11_clears) 89 = .ok (.iastore, 1) := by decide +kernel
theorem dX11_clears_90 : decode (mC mX11_clears) 90 = .ok (.aload_n 0, 1) := by decide +kernel
theorem dX11_clears_91 : decode (mC mX11_clears) 91 = .ok (.getfield 17, 3) := by decide +kernel
theorem dX11_clears_94 : decode (mC mX11_clears) 94 = .ok (.bipush 120, 2) := by decide +kernel
theorem dX11_clears_96 : decode (mC mX11_clears) 96 = .ok (.bipush 33, 2) := by decide +kernel
theorem dX11_clears_98 : decode (mC mX11_clears) 98 = .ok (.iload_n 2, 1) := by decide +kernel
theorem dX11_clears_99 : decode (mC mX11_clears) 99 = .ok (.imul, 1) := by decide +kernel
theorem dX11_clears_100 : decode (mC mX11_clears) 100 = .ok (.iadd, 1) := by decide +kernel
theorem dX11_clears_101 : decode (mC mX11_clears) 101 = .ok (.bipush 7, 2) := by decide +kernel
theorem dX11_clears_103 : decode (mC mX11_clears) 103 = .ok (.iadd, 1) := by decide +kernel
theorem dX11_clears_104 : decode (mC mX11_clears) 104 = .ok (.iconst (-1), 1) := by decide +kernel
theorem dX11_clears_105 : decode (mC mX11_clears) 105 = .ok (.iastore, 1) := by decide +kernel
theorem dX11_clears_106 : decode (mC mX11_clears) 106 = .ok (.iinc 2 1, 3) := by decide +kernel
theorem dX11_clears_109 : decode (mC mX11_clears) 109 = .ok (.goto (-56), 3) := by decide +kernel
theorem dX11_clears_112 : decode (mC mX11_clears) 112 = .ok (.return_, 1) := by decide +kernel
theorem dX11_text_0 : decode (mC mX11_text) 0 = .ok (.aload_n 0, 1) := by decide +kernel
theorem dX11_text_1 : decode (mC mX11_text) 1 = .ok (.aload_n 0, 1) := by decide +kernel
theorem dX11_text_2 : decode (mC mX11_text) 2 = .ok (.getfield 7, 3) := by decide +kernel
theorem dX11_text_5 : decode (mC mX11_text) 5 = .ok (.iconst 2, 1) := by decide +kernel
theorem dX11_text_6 : decode (mC mX11_text) 6 = .ok (.iaload, 1) := by decide +kernel
theorem dX11_text_7 : decode (mC mX11_text) 7 = .ok (.putfield 86, 3) := by decide +kernel
theorem dX11_text_10 : decode (mC mX11_text) 10 = .ok (.aload_n 0, 1) := by decide +kernel
theorem dX11_text_11 : decode (mC mX11_text) 11 = .ok (.getfield 7, 3) := by decide +kernel
theorem dX11_text_14 : decode (mC mX11_text) 14 = .ok (.iconst 2, 1) := by decide +kernel
theorem dX11_text_15 : decode (mC mX11_text) 15 = .ok (.iconst 0, 1) := by decide +kernel
theorem dX11_text_16 : decode (mC mX11_text) 16 = .ok (.iastore, 1) := by decide +kernel
theorem dX11_text_17 : decode (mC mX11_text) 17 = .ok (.aload_n 0, 1) := by decide +kernel
theorem dX11_text_18 : decode (mC mX11_text) 18 = .ok (.getfield 7, 3) := by decide +kernel
theorem dX11_text_21 : decode (mC mX11_text) 21 = .ok (.iconst 3, 1) := by decide +kernel
theorem dX11_text_22 : decode (mC mX11_text) 22 = .ok (.iconst 0, 1) := by decide +kernel
theorem dX11_text_23 : decode (mC mX11_text) 23 = .ok (.iastore, 1) := by decide +kernel
theorem dX11_text_24 : decode (mC mX11_text) 24 = .ok (.aload_n 0, 1) := by decide +kernel
theorem dX11_text_25 : decode (mC mX11_text) 25 = .ok (.getfield 7, 3) := by decide +kernel
theorem dX11_text_28 : decode (mC mX11_text) 28 = .ok (.iconst 4, 1) := by decide +kernel
theorem dX11_text_29 : decode (mC mX11_text) 29 = .ok (.iconst (-1), 1) := by decide +kernel
theorem dX11_text_30 : decode (mC mX11_text) 30 = .ok (.iastore, 1) := by decide +kernel
theorem dX11_text_31 : decode (mC mX11_text) 31 = .ok (.iload_n 1, 1) := by decide +kernel
theorem dX11_text_32 : decode (mC mX11_text) 32 = .ok (.iconst 0, 1) := by decide +kernel
theorem dX11_text_33 : decode (mC mX11_text) 33 = .ok (.iconst 1, 1) := by decide +kernel
theorem dX11_text_34 : decode (mC mX11_text) 34 = .ok (.invokestatic 140, 3) := by decide +kernel
theorem dX11_text_37 : decode (mC mX11_text) 37 = .ok (.ifCond .eq 30, 3) := by decide +kernel
theorem dX11_text_40 : decode (mC mX11_text) 40 = .ok (.iload_n 2, 1) := by decide +kernel
theorem dX11_text_41 : decode (mC mX11_text) 41 = .ok (.iconst (-1), 1) := by decide +kernel
theorem dX11_text_42 : decode (mC mX11_text) 42 = .ok (.if_icmp .ne 16, 3) := by decide +kernel
theorem dX11_text_45 : decode (mC mX11_text) 45 = .ok (.aload_n 0, 1) := by decide +kernel
theorem dX11_text_46 : decode (mC mX11_text) 46 = .ok (.getfield 7, 3) := by decide +kernel
theorem dX11_text_49 : decode (mC mX11_text) 49 = .ok (.iload_n 1, 1) := by decide +kernel
theorem dX11_text_50 : decode (mC mX11_text) 50 = .ok (.iaload, 1) := by decide +kernel
theorem dX11_text_51 : decode (mC mX11_text) 51 = .ok (.iconst 2, 1) := by decide +kernel
theorem dX11_text_52 : decode (mC mX11_text) 52 = .ok (.if_icmp .lt 18, 3) := by decide +kernel
theorem dX11_text_55 : decode (mC mX11_text) 55 = .ok (.goto 12, 3) := by decide +kernel
theorem dX11_text_58 : decode (mC mX11_text) 58 = .ok (.aload_n 0, 1) := by decide +kernel
theorem dX11_text_59 : decode (mC mX11_text) 59 = .ok (.iload_n 1, 1) := by decide +kernel
theorem dX11_text_60 : decode (mC mX11_text) 60 = .ok (.iload_n 2, 1) := by decide +kernel
theorem dX11_text_61 : decode (mC mX11_text) 61 = .ok (.invokevirtual 187, 3) := by decide +kernel
theorem dX11_text_64 : decode (mC mX11_text) 64 = .ok (.ifCond .ne 6, 3) := by decide +kernel
theorem dX11_text_67 : decode (mC mX11_text) 67 = .ok (.bipush (-2), 2) := by decide +kernel
theorem dX11_text_69 : decode (mC mX11_text) 69 = .ok (.ireturn, 1) := by decide +kernel
theorem dX11_text_70 : decode (mC mX11_text) 70 = .ok (.aload_n 0, 1) := by decide +kernel
theorem dX11_text_71 : decode (mC mX11_text) 71 = .ok (.iconst 0, 1) := by decide +kernel
theorem dX11_text_72 : decode (mC mX11_text) 72 = .ok (.putfield 100, 3) := by decide +kernel
theorem dX11_text_75 : decode (mC mX11_text) 75 = .ok (.aload_n 0, 1) := by decide +kernel
theorem dX11_text_76 : decode (mC mX11_text) 76 = .ok (.iconst 0, 1) := by decide +kernel
theorem dX11_text_77 : decode (mC mX11_text) 77 = .ok (.putfield 134, 3) := by decide +kernel
theorem dX11_text_80 : decode (mC mX11_text) 80 = .ok (.aload_n 0, 1) := by decide +kernel
theorem dX11_text_81 : decode (mC mX11_text) 81 = .ok (.iconst (-1), 1) := by decide +kernel
theorem dX11_text_82 : decode (mC mX11_text) 82 = .ok (.putfield 155, 3) := by decide +kernel
theorem dX11_text_85 : decode (mC mX11_text) 85 = .ok (.aload_n 0, 1) := by decide +kernel
theorem dX11_text_86 : decode (mC mX11_text) 86 = .ok (.iconst (-1), 1) := by decide +kernel
theorem dX11_text_87 : decode (mC mX11_text) 87 = .ok (.putfield 158, 3) := by decide +kernel
theorem dX11_text_90 : decode (mC mX11_text) 90 = .ok (.aload_n 0, 1) := by decide +kernel
theorem dX11_text_91 : decode (mC mX11_text) 91 = .ok (.iload_n 1, 1) := by decide +kernel
theorem dX11_text_92 : decode (mC mX11_text) 92 = .ok (.invokevirtual 191, 3) := by decide +kernel
theorem dX11_text_95 : decode (mC mX11_text) 95 = .ok (.aload_n 0, 1) := by decide +kernel
theorem dX11_text_96 : decode (mC mX11_text) 96 = .ok (.invokevirtual 148, 3) := by decide +kernel
theorem dX11_text_99 : decode (mC mX11_text) 99 = .ok (.aload_n 0, 1) := by decide +kernel
theorem dX11_text_100 : decode (mC mX11_text) 100 = .ok (.getfield 134, 3) := by decide +kernel
theorem dX11_text_103 : decode (mC mX11_text) 103 = .ok (.ifCond .ne 28, 3) := by decide +kernel
theorem dX11_text_106 : decode (mC mX11_text) 106 = .ok (.aload_n 0, 1) := by decide +kernel
theorem dX11_text_107 : decode (mC mX11_text) 107 = .ok (.getfield 110, 3) := by decide +kernel
theorem dX11_text_110 : decode (mC mX11_text) 110 = .ok (.ifCond .eq 21, 3) := by decide +kernel
theorem dX11_text_113 : decode (mC mX11_text) 113 = .ok (.iload_n 1, 1) := by decide +kernel
theorem dX11_text_114 : decode (mC mX11_text) 114 = .ok (.ifCond .ne 10, 3) := by decide +kernel
theorem dX11_text_117 : decode (mC mX11_text) 117 = .ok (.aload_n 0, 1) := by decide +kernel
theorem dX11_text_118 : decode (mC mX11_text) 118 = .ok (.invokevirtual 194, 3) := by decide +kernel
theorem dX11_text_121 : decode (mC mX11_text) 121 = .ok (.goto (-22), 3) := by decide +kernel
theorem dX11_text_124 : decode (mC mX11_text) 124 = .ok (.aload_n 0, 1) := by decide +kernel
theorem dX11_text_125 : decode (mC mX11_text) 125 = .ok (.invokevirtual 197, 3) := by decide +kernel
theorem dX11_text_128 : decode (mC mX11_text) 128 = .ok (.goto (-29), 3) := by decide +kernel
theorem dX11_text_131 : decode (mC mX11_text) 131 = .ok (.aload_n 0, 1) := by decide +kernel
theorem dX11_text_132 : decode (mC mX11_text) 132 = .ok (.getfield 7, 3) := by decide +kernel
theorem dX11_text_135 : decode (mC mX11_text) 135 = .ok (.iconst 3, 1) := by decide +kernel
theorem dX11_text_136 : decode (mC mX11_text) 136 = .ok (.iaload, 1) := by decide +kernel
theorem dX11_text_137 : decode (mC mX11_text) 137 = .ok (.ifCond .ne 49, 3) := by decide +kernel
theorem dX11_text_140 : decode (mC mX11_text) 140 = .ok (.iload_n 1, 1) := by decide +kernel
theorem dX11_text_141 : decode (mC mX11_text) 141 = .ok (.ifCond .ne 45, 3) := by decide +kernel
theorem dX11_text_144 : decode (mC mX11_text) 144 = .ok (.aload_n 0, 1) := by decide +kernel
theorem dX11_text_145 : decode (mC mX11_text) 145 = .ok (.getfield 155, 3) := by decide +kernel
theorem dX11_text_148 : decode (mC mX11_text) 148 = .ok (.aload_n 0, 1) := by decide +kernel
theorem dX11_text_149 : decode (mC mX11_text) 149 = .ok (.getfield 17, 3) := by decide +kernel
theorem dX11_text_152 : decode (mC mX11_text) 152 = .ok (.iconst 3, 1) := by decide +kernel
theorem dX11_text_153 : decode (mC mX11_text) 153 = .ok (.iaload, 1) := by decide +kernel
theorem dX11_text_154 : decode (mC mX11_text) 154 = .ok (.if_icmp .ge 23, 3) := by decide +kernel
theorem dX11_text_157 : decode (mC mX11_text) 157 = .ok (.aload_n 0, 1) := by decide +kernel
theorem dX11_text_158 : decode (mC mX11_text) 158 = .ok (.getfield 158, 3) := by decide +kernel
theorem dX11_text_161 : decode (mC mX11_text) 161 = .ok (.aload_n 0, 1) := by decide +kernel
theorem dX11_text_162 : decode (mC mX11_text) 162 = .ok (.getfield 17, 3) := by decide +kernel
theorem dX11_text_165 : decode (mC mX11_text) 165 = .ok (.iconst 0, 1) := by decide +kernel
theorem dX11_text_166 : decode (mC mX11_text) 166 = .ok (.iaload, 1) := by decide +kernel
theorem dX11_text_167 : decode (mC mX11_text) 167 = .ok (.aload_n 0, 1) := by decide +kernel
theorem dX11_text_168 : decode (mC mX11_text) 168 = .ok (.getfield 17, 3) := by decide +kernel
theorem dX11_text_171 : decode (mC mX11_text) 171 = .ok (.iconst 1, 1) := by decide +kernel
theorem dX11_text_172 : decode (mC mX11_text) 172 = .ok (.iaload, 1) := by decide +kernel
theorem dX11_text_173 : decode (mC mX11_text) 173 = .ok (.imul, 1) := by decide +kernel
theorem dX11_text_174 : decode (mC mX11_text) 174 = .ok (.if_icmp .lt 12, 3) := by decide +kernel
theorem dX11_text_177 : decode (mC mX11_text) 177 = .ok (.aload_n 0, 1) := by decide +kernel
theorem dX11_text_178 : decode (mC mX11_text) 178 = .ok (.iconst 4, 1) := by decide +kernel
theorem dX11_text_179 : decode (mC mX11_text) 179 = .ok (.aload_n 0, 1) := by decide +kernel
theorem dX11_text_180 : decode (mC mX11_text) 180 = .ok (.getfield 107, 3) := by decide +kernel
theorem dX11_text_183 : decode (mC mX11_text) 183 = .ok (.invokevirtual 144, 3) := by decide +kernel
theorem dX11_text_186 : decode (mC mX11_text) 186 = .ok (.aload_n 0, 1) := by decide +kernel
theorem dX11_text_187 : decode (mC mX11_text) 187 = .ok (.getfield 7, 3) := by decide +kernel
theorem dX11_text_190 : decode (mC mX11_text) 190 = .ok (.iconst 3, 1) := by decide +kernel
theorem dX11_text_191 : decode (mC mX11_text) 191 = .ok (.iaload, 1) := by decide +kernel
theorem dX11_text_192 : decode (mC mX11_text) 192 = .ok (.ifCond .eq 5, 3) := by decide +kernel
theorem dX11_text_195 : decode (mC mX11_text) 195 = .ok (.iconst (-1), 1) := by decide +kernel
theorem dX11_text_196 : decode (mC mX11_text) 196 = .ok (.ireturn, 1) := by decide +kernel
theorem dX11_text_197 : decode (mC mX11_text) 197 = .ok (.iload_n 2, 1) := by decide +kernel
theorem dX11_text_198 : decode (mC mX11_text) 198 = .ok (.iconst (-1), 1) := by decide +kernel
theorem dX11_text_199 : decode (mC mX11_text) 199 = .ok (.if_icmp .ne 12, 3) := by decide +kernel
theorem dX11_text_202 : decode (mC mX11_text) 202 = .ok (.aload_n 0, 1) := by decide +kernel
theorem dX11_text_203 : decode (mC mX11_text) 203 = .ok (.getfield 7, 3) := by decide +kernel
theorem dX11_text_206 : decode (mC mX11_text) 206 = .ok (.iload_n 1, 1) := by decide +kernel
theorem dX11_text_207 : decode (mC mX11_text) 207 = .ok (.iaload, 1) := by decide +kernel
theorem dX11_text_208 : decode (mC mX11_text) 208 = .ok (.goto 4, 3) := by decide +kernel
theorem dX11_text_211 : decode (mC mX11_text) 211 = .ok (.iload_n 2, 1) := by decide +kernel
theorem dX11_text_212 : decode (mC mX11_text) 212 = .ok (.istore_n 3, 1) := by decide +kernel
theorem dX11_text_213 : decode (mC mX11_text) 213 = .ok (.iload_n 2, 1) := by decide +kernel
theorem dX11_text_214 : decode (mC mX11_text) 214 = .ok (.iconst (-1), 1) := by decide +kernel
theorem dX11_text_215 : decode (mC mX11_text) 215 = .ok (.if_icmp .ne 13, 3) := by decide +kernel
theorem dX11_text_218 : decode (mC mX11_text) 218 = .ok (.aload_n 0, 1) := by decide +kernel
theorem dX11_text_219 : decode (mC mX11_text) 219 = .ok (.getfield 7, 3) := by decide +kernel
theorem dX11_text_222 : decode (mC mX11_text) 222 = .ok (.iload_n 1, 1) := by decide +kernel
theorem dX11_text_223 : decode (mC mX11_text) 223 = .ok (.dup2, 1) := by decide +kernel
theorem dX11_text_224 : decode (mC mX11_text) 224 = .ok (.iaload, 1) := by decide +kernel
theorem dX11_text_225 : decode (mC mX11_text) 225 = .ok (.iconst 1, 1) := by decide +kernel
theorem dX11_text_226 : decode (mC mX11_text) 226 = .ok (.iadd, 1) := by decide +kernel
theorem dX11_text_227 : decode (mC mX11_text) 227 = .ok (.iastore, 1) := by decide +kernel
theorem dX11_text_228 : decode (mC mX11_text) 228 = .ok (.iconst 0, 1) := by decide +kernel
theorem dX11_text_229 : decode (mC mX11_text) 229 = .ok (.istore 4, 2) := by decide +kernel
theorem dX11_text_231 : decode (mC mX11_text) 231 = .ok (.iload 4, 2) := by decide +kernel
theorem dX11_text_233 : decode (mC mX11_text) 233 = .ok (.iload_n 1, 1) := by decide +kernel
theorem dX11_text_234 : decode (mC mX11_text) 234 = .ok (.ifCond .ne 9, 3) := by decide +kernel
theorem dX11_text_237 : decode (mC mX11_text) 237 = .ok (.sipush 318, 3) := by decide +kernel
theorem dX11_text_240 : decode (mC mX11_text) 240 = .ok (.goto 5, 3) := by decide +kernel
theorem dX11_text_243 : decode (mC mX11_text) 243 = .ok (.bipush 51, 2) := by decide +kernel
theorem dX11_text_245 : decode (mC mX11_text) 245 = .ok (.if_icmp .ge 29, 3) := by decide +kernel
theorem dX11_text_248 : decode (mC mX11_text) 248 = .ok (.aload_n 0, 1) := by decide +kernel
theorem dX11_text_249 : decode (mC mX11_text) 249 = .ok (.getfield 7, 3) := by decide +kernel
theorem dX11_text_252 : decode (mC mX11_text) 252 = .ok (.iload_n 1, 1) := by decide +kernel
theorem dX11_text_253 : decode (mC mX11_text) 253 = .ok (.iload_n 3, 1) := by decide +kernel
theorem dX11_text_254 : decode (mC mX11_text) 254 = .ok (.invokestatic 200, 3) := by decide +kernel
theorem dX11_text_257 : decode (mC mX11_text) 257 = .ok (.iload 4, 2) := by decide +kernel
theorem dX11_text_259 : decode (mC mX11_text) 259 = .ok (.iadd, 1) := by decide +kernel
theorem dX11_text_260 : decode (mC mX11_text) 260 = .ok (.aload_n 0, 1) := by decide +kernel
theorem dX11_text_261 : decode (mC mX11_text) 261 = .ok (.getfield 17, 3) := by decide +kernel
theorem dX11_text_264 : decode (mC mX11_text) 264 = .ok (.iload 4, 2) := by decide +kernel
theorem dX11_text_266 : decode (mC mX11_text) 266 = .ok (.iaload, 1) := by decide +kernel
theorem dX11_text_267 : decode (mC mX11_text) 267 = .ok (.iastore, 1) := by decide +kernel
theorem dX11_text_268 : decode (mC mX11_text) 268 = .ok (.iinc 4 1, 3) := by decide +kernel
theorem dX11_text_271 : decode (mC mX11_text) 271 = .ok (.goto (-40), 3) := by decide +kernel
theorem dX11_text_274 : decode (mC mX11_text) 274 = .ok (.iload_n 3, 1) := by decide +kernel
theorem dX11_text_275 : decode (mC mX11_text) 275 = .ok (.ireturn, 1) := by decide +kernel
theorem dX11_fault_0 : decode (mC mX11_fault) 0 = .ok (.iload_n 1, 1) := by decide +kernel
theorem dX11_fault_1 : decode (mC mX11_fault) 1 = .ok (.ifCond .ne 12, 3) := by decide +kernel
theorem dX11_fault_4 : decode (mC mX11_fault) 4 = .ok (.aload_n 0, 1) := by decide +kernel
theorem dX11_fault_5 : decode (mC mX11_fault) 5 = .ok (.getfield 7, 3) := by decide +kernel
theorem dX11_fault_8 : decode (mC mX11_fault) 8 = .ok (.iconst 3, 1) := by decide +kernel
theorem dX11_fault_9 : decode (mC mX11_fault) 9 = .ok (.iaload, 1) := by decide +kernel
theorem dX11_fault_10 : decode (mC mX11_fault) 10 = .ok (.goto 18, 3) := by decide +kernel
theorem dX11_fault_13 : decode (mC mX11_fault) 13 = .ok (.iload_n 1, 1) := by decide +kernel
theorem dX11_fault_14 : decode (mC mX11_fault) 14 = .ok (.iconst 1, 1) := by decide +kernel
theorem dX11_fault_15 : decode (mC mX11_fault) 15 = .ok (.if_icmp .ne 12, 3) := by decide +kernel
theorem dX11_fault_18 : decode (mC mX11_fault) 18 = .ok (.aload_n 0, 1) := by decide +kernel
theorem dX11_fault_19 : decode (mC mX11_fault) 19 = .ok (.getfield 7, 3) := by decide +kernel
theorem dX11_fault_22 : decode (mC mX11_fault) 22 = .ok (.iconst 4, 1) := by decide +kernel
theorem dX11_fault_23 : decode (mC mX11_fault) 23 = .ok (.iaload, 1) := by decide +kernel
theorem dX11_fault_24 : decode (mC mX11_fault) 24 = .ok (.goto 4, 3) := by decide +kernel
theorem dX11_fault_27 : decode (mC mX11_fault) 27 = .ok (.iconst (-1), 1) := by decide +kernel
theorem dX11_fault_28 : decode (mC mX11_fault) 28 = .ok (.ireturn, 1) := by decide +kernel
theorem dX11_isNight_0 : decode (mC mX11_isNight) 0 = .ok (.aload_n 0, 1) := by decide +kernel
theorem dX11_isNight_1 : decode (mC mX11_isNight) 1 = .ok (.iconst 0, 1) := by decide +kernel
theorem dX11_isNight_2 : decode (mC mX11_isNight) 2 = .ok (.iload_n 1, 1) := by decide +kernel
theorem dX11_isNight_3 : decode (mC mX11_isNight) 3 = .ok (.invokevirtual 187, 3) := by decide +kernel
theorem dX11_isNight_6 : decode (mC mX11_isNight) 6 = .ok (.ifCond .ne 5, 3) := by decide +kernel
theorem dX11_isNight_9 : decode (mC mX11_isNight) 9 = .ok (.iconst 0, 1) := by decide +kernel
theorem dX11_isNight_10 : decode (mC mX11_isNight) 10 = .ok (.ireturn, 1) := by decide +kernel
theorem dX11_isNight_11 : decode (mC mX11_isNight) 11 = .ok (.aload_n 0, 1) := by decide +kernel
theorem dX11_isNight_12 : decode (mC mX11_isNight) 12 = .ok (.iconst 0, 1) := by decide +kernel
theorem dX11_isNight_13 : decode (mC mX11_isNight) 13 = .ok (.iload_n 1, 1) := by decide +kernel
theorem dX11_isNight_14 : decode (mC mX11_isNight) 14 = .ok (.invokestatic 200, 3) := by decide +kernel
theorem dX11_isNight_17 : decode (mC mX11_isNight) 17 = .ok (.putfield 203, 3) := by decide +kernel
theorem dX11_isNight_20 : decode (mC mX11_isNight) 20 = .ok (.aload_n 0, 1) := by decide +kernel
theorem dX11_isNight_21 : decode (mC mX11_isNight) 21 = .ok (.invokevirtual 206, 3) := by decide +kernel
theorem dX11_isNight_24 : decode (mC mX11_isNight) 24 = .ok (.iconst 1, 1) := by decide +kernel
theorem dX11_isNight_25 : decode (mC mX11_isNight) 25 = .ok (.ireturn, 1) := by decide +kernel
theorem dX11_of_0 : decode (mC mX11_of) 0 = .ok (.aload_n 0, 1) := by decide +kernel
theorem dX11_of_1 : decode (mC mX11_of) 1 = .ok (.getfield 7, 3) := by decide +kernel
theorem dX11_of_4 : decode (mC mX11_of) 4 = .ok (.aload_n 0, 1) := by decide +kernel
theorem dX11_of_5 : decode (mC mX11_of) 5 = .ok (.getfield 203, 3) := by decide +kernel
theorem dX11_of_8 : decode (mC mX11_of) 8 = .ok (.iload_n 1, 1) := by decide +kernel
theorem dX11_of_9 : decode (mC mX11_of) 9 = .ok (.iadd, 1) := by decide +kernel
theorem dX11_of_10 : decode (mC mX11_of) 10 = .ok (.iaload, 1) := by decide +kernel
theorem dX11_of_11 : decode (mC mX11_of) 11 = .ok (.ireturn, 1) := by decide +kernel
theorem dX11_people_0 : decode (mC mX11_people) 0 = .ok (.aload_n 0, 1) := by decide +kernel
theorem dX11_people_1 : decode (mC mX11_people) 1 = .ok (.iconst 3, 1) := by decide +kernel
theorem dX11_people_2 : decode (mC mX11_people) 2 = .ok (.invokevirtual 209, 3) := by decide +kernel
theorem dX11_people_5 : decode (mC mX11_people) 5 = .ok (.ireturn, 1) := by decide +kernel
theorem dX11_told_0 : decode (mC mX11_told) 0 = .ok (.aload_n 0, 1) := by decide +kernel
theorem dX11_told_1 : decode (mC mX11_told) 1 = .ok (.getfield 7, 3) := by decide +kernel
theorem dX11_told_4 : decode (mC mX11_told) 4 = .ok (.aload_n 0, 1) := by decide +kernel
theorem dX11_told_5 : decode (mC mX11_told) 5 = .ok (.getfield 203, 3) := by decide +kernel
theorem dX11_told_8 : decode (mC mX11_told) 8 = .ok (.bipush 120, 2) := by decide +kernel
theorem dX11_told_10 : decode (mC mX11_told) 10 = .ok (.iadd, 1) := by decide +kernel
theorem dX11_told_11 : decode (mC mX11_told) 11 = .ok (.bipush 33, 2) := by decide +kernel
theorem dX11_told_13 : decode (mC mX11_told) 13 = .ok (.iload_n 1, 1) := by decide +kernel
theorem dX11_told_14 : decode (mC mX11_told) 14 = .ok (.imul, 1) := by decide +kernel
theorem dX11_told_15 : decode (mC mX11_told) 15 = .ok (.iadd, 1) := by decide +kernel
theorem dX11_told_16 : decode (mC mX11_told) 16 = .ok (.iload_n 2, 1) := by decide +kernel
theorem dX11_told_17 : decode (mC mX11_told) 17 = .ok (.iadd, 1) := by decide +kernel
theorem dX11_told_18 : decode (mC mX11_told) 18 = .ok (.iaload, 1) := by decide +kernel
theorem dX11_told_19 : decode (mC mX11_told) 19 = .ok (.ireturn, 1) := by decide +kernel
theorem dX11_isPerson_0 : decode (mC mX11_isPerson) 0 = .ok (.iload_n 1, 1) := by decide +kernel
theorem dX11_isPerson_1 : decode (mC mX11_isPerson) 1 = .ok (.iconst 0, 1) := by decide +kernel
theorem dX11_isPerson_2 : decode (mC mX11_isPerson) 2 = .ok (.aload_n 0, 1) := by decide +kernel
theorem dX11_isPerson_3 : decode (mC mX11_isPerson) 3 = .ok (.invokevirtual 212, 3) := by decide +kernel
theorem dX11_isPerson_6 : decode (mC mX11_isPerson) 6 = .ok (.iconst 1, 1) := by decide +kernel
theorem dX11_isPerson_7 : decode (mC mX11_isPerson) 7 = .ok (.isub, 1) := by decide +kernel
theorem dX11_isPerson_8 : decode (mC mX11_isPerson) 8 = .ok (.invokestatic 140, 3) := by decide +kernel
theorem dX11_isPerson_11 : decode (mC mX11_isPerson) 11 = .ok (.ireturn, 1) := by decide +kernel
theorem dX11_cells_0 : decode (mC mX11_cells) 0 = .ok (.aload_n 0, 1) := by decide +kernel
theorem dX11_cells_1 : decode (mC mX11_cells) 1 = .ok (.iconst 0, 1) := by decide +kernel
theorem dX11_cells_2 : decode (mC mX11_cells) 2 = .ok (.invokevirtual 209, 3) := by decide +kernel
theorem dX11_cells_5 : decode (mC mX11_cells) 5 = .ok (.aload_n 0, 1) := by decide +kernel
theorem dX11_cells_6 : decode (mC mX11_cells) 6 = .ok (.iconst 1, 1) := by decide +kernel
theorem dX11_cells_7 : decode (mC mX11_cells) 7 = .ok (.invokevirtual 209, 3) := by decide +kernel
theorem dX11_cells_10 : decode (mC mX11_cells) 10 = .ok (.imul, 1) := by decide +kernel
theorem dX11_cells_11 : decode (mC mX11_cells) 11 = .ok (.ireturn, 1) := by decide +kernel
theorem dX11_rainsTold_0 : decode (mC mX11_rainsTold) 0 = .ok (.iconst 0, 1) := by decide +kernel
theorem dX11_rainsTold_1 : decode (mC mX11_rainsTold) 1 = .ok (.istore_n 1, 1) := by decide +kernel
theorem dX11_rainsTold_2 : decode (mC mX11_rainsTold) 2 = .ok (.iconst 0, 1) := by decide +kernel
theorem dX11_rainsTold_3 : decode (mC mX11_rainsTold) 3 = .ok (.istore_n 2, 1) := by decide +kernel
theorem dX11_rainsTold_4 : decode (mC mX11_rainsTold) 4 = .ok (.iload_n 2, 1) := by decide +kernel
theorem dX11_rainsTold_5 : decode (mC mX11_rainsTold) 5 = .ok (.bipush 100, 2) := by decide +kernel
theorem dX11_rainsTold_7 : decode (mC mX11_rainsTold) 7 = .ok (.if_icmp .ge 19, 3) := by decide +kernel
theorem dX11_rainsTold_10 : decode (mC mX11_rainsTold) 10 = .ok (.iload_n 1, 1) := by decide +kernel
theorem dX11_rainsTold_11 : decode (mC mX11_rainsTold) 11 = .ok (.aload_n 0, 1) := by decide +kernel
theorem dX11_rainsTold_12 : decode (mC mX11_rainsTold) 12 = .ok (.iconst 5, 1) := by decide +kernel
theorem dX11_rainsTold_13 : decode (mC mX11_rainsTold) 13 = .ok (.iload_n 2, 1) := by decide +kernel
theorem dX11_rainsTold_14 : decode (mC mX11_rainsTold) 14 = .ok (.iadd, 1) := by decide +kernel
theorem dX11_rainsTold_15 : decode (mC mX11_rainsTold) 15 = .ok (.invokevirtual 209, 3) := by decide +kernel
theorem dX11_rainsTold_18 : decode (mC mX11_rainsTold) 18 = .ok (.iadd, 1) := by decide +kernel
theorem dX11_rainsTold_19 : decode (mC mX11_rainsTold) 19 = .ok (.istore_n 1, 1) := by decide +kernel
theorem dX11_rainsTold_20 : decode (mC mX11_rainsTold) 20 = .ok (.iinc 2 1, 3) := by decide +kernel
theorem dX11_rainsTold_23 : decode (mC mX11_rainsTold) 23 = .ok (.goto (-19), 3) := by decide +kernel
theorem dX11_rainsTold_26 : decode (mC mX11_rainsTold) 26 = .ok (.iload_n 1, 1) := by decide +kernel
theorem dX11_rainsTold_27 : decode (mC mX11_rainsTold) 27 = .ok (.ireturn, 1) := by decide +kernel
theorem dX11_night_0 : decode (mC mX11_night) 0 = .ok (.aload_n 0, 1) := by decide +kernel
theorem dX11_night_1 : decode (mC mX11_night) 1 = .ok (.iload_n 1, 1) := by decide +kernel
theorem dX11_night_2 : decode (mC mX11_night) 2 = .ok (.invokevirtual 215, 3) := by decide +kernel
theorem dX11_night_5 : decode (mC mX11_night) 5 = .ok (.ifCond .ne 5, 3) := by decide +kernel
theorem dX11_night_8 : decode (mC mX11_night) 8 = .ok (.iconst (-1), 1) := by decide +kernel
theorem dX11_night_9 : decode (mC mX11_night) 9 = .ok (.ireturn, 1) := by decide +kernel
theorem dX11_night_10 : decode (mC mX11_night) 10 = .ok (.iload_n 2, 1) := by decide +kernel
theorem dX11_night_11 : decode (mC mX11_night) 11 = .ok (.iconst 0, 1) := by decide +kernel
theorem dX11_night_12 : decode (mC mX11_night) 12 = .ok (.iconst 4, 1) := by decide +kernel
theorem dX11_night_13 : decode (mC mX11_night) 13 = .ok (.invokestatic 140, 3) := by decide +kernel
theorem dX11_night_16 : decode (mC mX11_night) 16 = .ok (.ifCond .eq 9, 3) := by decide +kernel
theorem dX11_night_19 : decode (mC mX11_night) 19 = .ok (.aload_n 0, 1) := by decide +kernel
theorem dX11_night_20 : decode (mC mX11_night) 20 = .ok (.iload_n 2, 1) := by decide +kernel
theorem dX11_night_21 : decode (mC mX11_night) 21 = .ok (.invokevirtual 209, 3) := by decide +kernel
theorem dX11_night_24 : decode (mC mX11_night) 24 = .ok (.ireturn, 1) := by decide +kernel
theorem dX11_night_25 : decode (mC mX11_night) 25 = .ok (.iload_n 2, 1) := by decide +kernel
theorem dX11_night_26 : decode (mC mX11_night) 26 = .ok (.iconst 5, 1) := by decide +kernel
theorem dX11_night_27 : decode (mC mX11_night) 27 = .ok (.if_icmp .ne 8, 3) := by decide +kernel
theorem dX11_night_30 : decode (mC mX11_night) 30 = .ok (.aload_n 0, 1) := by decide +kernel
theorem dX11_night_31 : decode (mC mX11_night) 31 = .ok (.invokevirtual 218, 3) := by decide +kernel
theorem dX11_night_34 : decode (mC mX11_night) 34 = .ok (.ireturn, 1) := by decide +kernel
theorem dX11_night_35 : decode (mC mX11_night) 35 = .ok (.iload_n 2, 1) := by decide +kernel
theorem dX11_night_36 : decode (mC mX11_night) 36 = .ok (.bipush 10, 2) := by decide +kernel
theorem dX11_night_38 : decode (mC mX11_night) 38 = .ok (.irem, 1) := by decide +kernel
theorem dX11_night_39 : decode (mC mX11_night) 39 = .ok (.istore_n 3, 1) := by decide +kernel
theorem dX11_night_40 : decode (mC mX11_night) 40 = .ok (.iload_n 2, 1) := by decide +kernel
theorem dX11_night_41 : decode (mC mX11_night) 41 = .ok (.bipush 10, 2) := by decide +kernel
theorem dX11_night_43 : decode (mC mX11_night) 43 = .ok (.bipush 39, 2) := by decide +kernel
theorem dX11_night_45 : decode (mC mX11_night) 45 = .ok (.invokestatic 140, 3) := by decide +kernel
theorem dX11_night_48 : decode (mC mX11_night) 48 = .ok (.ifCond .eq 32, 3) := by decide +kernel
theorem dX11_night_51 : decode (mC mX11_night) 51 = .ok (.iload_n 3, 1) := by decide +kernel
theorem dX11_night_52 : decode (mC mX11_night) 52 = .ok (.aload_n 0, 1) := by decide +kernel
theorem dX11_night_53 : decode (mC mX11_night) 53 = .ok (.iconst 4, 1) := by decide +kernel
theorem dX11_night_54 : decode (mC mX11_night) 54 = .ok (.invokevirtual 209, 3) := by decide +kernel
theorem dX11_night_57 : decode (mC mX11_night) 57 = .ok (.if_icmp .ge 23, 3) := by decide +kernel
theorem dX11_night_60 : decode (mC mX11_night) 60 = .ok (.aload_n 0, 1) := by decide +kernel
theorem dX11_night_61 : decode (mC mX11_night) 61 = .ok (.bipush 105, 2) := by decide +kernel
theorem dX11_night_63 : decode (mC mX11_night) 63 = .ok (.iconst 3, 1) := by decide +kernel
theorem dX11_night_64 : decode (mC mX11_night) 64 = .ok (.iload_n 3, 1) := by decide +kernel
theorem dX11_night_65 : decode (mC mX11_night) 65 = .ok (.imul, 1) := by decide +kernel
theorem dX11_night_66 : decode (mC mX11_night) 66 = .ok (.iadd, 1) := by decide +kernel
theorem dX11_night_67 : decode (mC mX11_night) 67 = .ok (.iload_n 2, 1) := by decide +kernel
theorem dX11_night_68 : decode (mC mX11_night) 68 = .ok (.bipush 10, 2) := by decide +kernel
theorem dX11_night_70 : decode (mC mX11_night) 70 = .ok (.idiv, 1) := by decide +kernel
theorem dX11_night_71 : decode (mC mX11_night) 71 = .ok (.iadd, 1) := by decide +kernel
theorem dX11_night_72 : decode (mC mX11_night) 72 = .ok (.iconst 1, 1) := by decide +kernel
theorem dX11_night_73 : decode (mC mX11_night) 73 = .ok (.isub, 1) := by decide +kernel
theorem dX11_night_74 : decode (mC mX11_night) 74 = .ok (.invokevirtual 209, 3) := by decide +kernel
theorem dX11_night_77 : decode (mC mX11_night) 77 = .ok (.goto 4, 3) := by decide +kernel
theorem dX11_night_80 : decode (mC mX11_night) 80 = .ok (.iconst (-1), 1) := by decide +kernel
theorem dX11_night_81 : decode (mC mX11_night) 81 = .ok (.ireturn, 1) := by decide +kernel
theorem dX11_plain_0 : decode (mC mX11_plain) 0 = .ok (.aload_n 0, 1) := by decide +kernel
theorem dX11_plain_1 : decode (mC mX11_plain) 1 = .ok (.iconst (-1), 1) := by decide +kernel
theorem dX11_plain_2 : decode (mC mX11_plain) 2 = .ok (.putfield 221, 3) := by decide +kernel
theorem dX11_plain_5 : decode (mC mX11_plain) 5 = .ok (.aload_n 0, 1) := by decide +kernel
theorem dX11_plain_6 : decode (mC mX11_plain) 6 = .ok (.iconst (-1), 1) := by decide +kernel
theorem dX11_plain_7 : decode (mC mX11_plain) 7 = .ok (.putfield 224, 3) := by decide +kernel
theorem dX11_plain_10 : decode (mC mX11_plain) 10 = .ok (.aload_n 0, 1) := by decide +kernel
theorem dX11_plain_11 : decode (mC mX11_plain) 11 = .ok (.iconst (-1), 1) := by decide +kernel
theorem dX11_plain_12 : decode (mC mX11_plain) 12 = .ok (.putfield 227, 3) := by decide +kernel
theorem dX11_plain_15 : decode (mC mX11_plain) 15 = .ok (.aload_n 0, 1) := by decide +kernel
theorem dX11_plain_16 : decode (mC mX11_plain) 16 = .ok (.iconst (-1), 1) := by decide +kernel
theorem dX11_plain_17 : decode (mC mX11_plain) 17 = .ok (.putfield 230, 3) := by decide +kernel
theorem dX11_plain_20 : decode (mC mX11_plain) 20 = .ok (.iconst 0, 1) := by decide +kernel
theorem dX11_plain_21 : decode (mC mX11_plain) 21 = .ok (.istore_n 1, 1) := by decide +kernel
theorem dX11_plain_22 : decode (mC mX11_plain) 22 = .ok (.iload_n 1, 1) := by decide +kernel
theorem dX11_plain_23 : decode (mC mX11_plain) 23 = .ok (.bipush 100, 2) := by decide +kernel
theorem dX11_plain_25 : decode (mC mX11_plain) 25 = .ok (.if_icmp .ge 16, 3) := by decide +kernel
theorem dX11_plain_28 : decode (mC mX11_plain) 28 = .ok (.aload_n 0, 1) := by decide +kernel
theorem dX11_plain_29 : decode (mC mX11_plain) 29 = .ok (.getfield 20, 3) := by decide +kernel
theorem dX11_plain_32 : decode (mC mX11_plain) 32 = .ok (.iload_n 1, 1) := by decide +kernel
theorem dX11_plain_33 : decode (mC mX11_plain) 33 = .ok (.iconst 0, 1) := by decide +kernel
theorem dX11_plain_34 : decode (mC mX11_plain) 34 = .ok (.bastore, 1) := by decide +kernel
theorem dX11_plain_35 : decode (mC mX11_plain) 35 = .ok (.iinc 1 1, 3) := by decide +kernel
theorem dX11_plain_38 : decode (mC mX11_plain) 38 = .ok (.goto (-16), 3) := by decide +kernel
theorem dX11_plain_41 : decode (mC mX11_plain) 41 = .ok (.return_, 1) := by decide +kernel
theorem dX11_soleOf_0 : decode (mC mX11_soleOf) 0 = .ok (.iload_n 1, 1) := by decide +kernel
theorem dX11_soleOf_1 : decode (mC mX11_soleOf) 1 = .ok (.aload_n 0, 1) := by decide +kernel
theorem dX11_soleOf_2 : decode (mC mX11_soleOf) 2 = .ok (.getfield 224, 3) := by decide +kernel
theorem dX11_soleOf_5 : decode (mC mX11_soleOf) 5 = .ok (.if_icmp .ne 10, 3) := by decide +kernel
theorem dX11_soleOf_8 : decode (mC mX11_soleOf) 8 = .ok (.aload_n 0, 1) := by decide +kernel
theorem dX11_soleOf_9 : decode (mC mX11_soleOf) 9 = .ok (.getfield 233, 3) := by decide +kernel
theorem dX11_soleOf_12 : decode (mC mX11_soleOf) 12 = .ok (.goto 9, 3) := by decide +kernel
theorem dX11_soleOf_15 : decode (mC mX11_soleOf) 15 = .ok (.aload_n 0, 1) := by decide +kernel
theorem dX11_soleOf_16 : decode (mC mX11_soleOf) 16 = .ok (.iload_n 1, 1) := by decide +kernel
theorem dX11_soleOf_17 : decode (mC mX11_soleOf) 17 = .ok (.iconst 0, 1) := by decide +kernel
theorem dX11_soleOf_18 : decode (mC mX11_soleOf) 18 = .ok (.invokevirtual 236, 3) := by decide +kernel
theorem dX11_soleOf_21 : decode (mC mX11_soleOf) 21 = .ok (.ireturn, 1) := by decide +kernel
theorem dX11_carrierOf_0 : decode (mC mX11_carrierOf) 0 = .ok (.iload_n 1, 1) := by decide +kernel
theorem dX11_carrierOf_1 : decode (mC mX11_carrierOf) 1 = .ok (.aload_n 0, 1) := by decide +kernel
theorem dX11_carrierOf_2 : decode (mC mX11_carrierOf) 2 = .ok (.getfield 230, 3) := by decide +kernel
theorem dX11_carrierOf_5 : decode (mC mX11_carrierOf) 5 = .ok (.if_icmp .ne 10, 3) := by decide +kernel
theorem dX11_carrierOf_8 : decode (mC mX11_carrierOf) 8 = .ok (.aload_n 0, 1) := by decide +kernel
theorem dX11_carrierOf_9 : decode (mC mX11_carrierOf) 9 = .ok (.getfield 239, 3) := by decide +kernel
theorem dX11_carrierOf_12 : decode (mC mX11_carrierOf) 12 = .ok (.goto 9, 3) := by decide +kernel
theorem dX11_carrierOf_15 : decode (mC mX11_carrierOf) 15 = .ok (.aload_n 0, 1) := by decide +kernel
theorem dX11_carrierOf_16 : decode (mC mX11_carrierOf) 16 = .ok (.iload_n 1, 1) := by decide +kernel
theorem dX11_carrierOf_17 : decode (mC mX11_carrierOf) 17 = .ok (.iconst 5, 1) := by decide +kernel
theorem dX11_carrierOf_18 : decode (mC mX11_carrierOf) 18 = .ok (.invokevirtual 236, 3) := by decide +kernel
theorem dX11_carrierOf_21 : decode (mC mX11_carrierOf) 21 = .ok (.ireturn, 1) := by decide +kernel
theorem dX11_minuteOf_0 : decode (mC mX11_minuteOf) 0 = .ok (.iload_n 1, 1) := by decide +kernel
theorem dX11_minuteOf_1 : decode (mC mX11_minuteOf) 1 = .ok (.aload_n 0, 1) := by decide +kernel
theorem dX11_minuteOf_2 : decode (mC mX11_minuteOf) 2 = .ok (.getfield 227, 3) := by decide +kernel
theorem dX11_minuteOf_5 : decode (mC mX11_minuteOf) 5 = .ok (.if_icmp .ne 10, 3) := by decide +kernel
theorem dX11_minuteOf_8 : decode (mC mX11_minuteOf) 8 = .ok (.aload_n 0, 1) := by decide +kernel
theorem dX11_minuteOf_9 : decode (mC mX11_minuteOf) 9 = .ok (.getfield 242, 3) := by decide +kernel
theorem dX11_minuteOf_12 : decode (mC mX11_minuteOf) 12 = .ok (.goto 10, 3) := by decide +kernel
theorem dX11_minuteOf_15 : decode (mC mX11_minuteOf) 15 = .ok (.aload_n 0, 1) := by decide +kernel
theorem dX11_minuteOf_16 : decode (mC mX11_minuteOf) 16 = .ok (.iload_n 1, 1) := by decide +kernel
theorem dX11_minuteOf_17 : decode (mC mX11_minuteOf) 17 = .ok (.bipush 7, 2) := by decide +kernel
theorem dX11_minuteOf_19 : decode (mC mX11_minuteOf) 19 = .ok (.invokevirtual 236, 3) := by decide +kernel
theorem dX11_minuteOf_22 : decode (mC mX11_minuteOf) 22 = .ok (.ireturn, 1) := by decide +kernel
theorem dX11_isCarried_0 : decode (mC mX11_isCarried) 0 = .ok (.aload_n 0, 1) := by decide +kernel
theorem dX11_isCarried_1 : decode (mC mX11_isCarried) 1 = .ok (.iload_n 1, 1) := by decide +kernel
theorem dX11_isCarried_2 : decode (mC mX11_isCarried) 2 = .ok (.invokevirtual 245, 3) := by decide +kernel
theorem dX11_isCarried_5 : decode (mC mX11_isCarried) 5 = .ok (.iconst (-1), 1) := by decide +kernel
theorem dX11_isCarried_6 : decode (mC mX11_isCarried) 6 = .ok (.if_icmp .eq 7, 3) := by decide +kernel
theorem dX11_isCarried_9 : decode (mC mX11_isCarried) 9 = .ok (.iconst 1, 1) := by decide +kernel
theorem dX11_isCarried_10 : decode (mC mX11_isCarried) 10 = .ok (.goto 4, 3) := by decide +kernel
theorem dX11_isCarried_13 : decode (mC mX11_isCarried) 13 = .ok (.iconst 0, 1) := by decide +kernel
theorem dX11_isCarried_14 : decode (mC mX11_isCarried) 14 = .ok (.ireturn, 1) := by decide +kernel
theorem dX11_stepped_0 : decode (mC mX11_stepped) 0 = .ok (.iload_n 1, 1) := by decide +kernel
theorem dX11_stepped_1 : decode (mC mX11_stepped) 1 = .ok (.aload_n 0, 1) := by decide +kernel
theorem dX11_stepped_2 : decode (mC mX11_stepped) 2 = .ok (.iconst 0, 1) := by decide +kernel
theorem dX11_stepped_3 : decode (mC mX11_stepped) 3 = .ok (.invokevirtual 209, 3) := by decide +kernel
theorem dX11_stepped_6 : decode (mC mX11_stepped) 6 = .ok (.irem, 1) := by decide +kernel
theorem dX11_stepped_7 : decode (mC mX11_stepped) 7 = .ok (.iload_n 2, 1) := by decide +kernel
theorem dX11_stepped_8 : decode (mC mX11_stepped) 8 = .ok (.iconst 1, 1) := by decide +kernel
theorem dX11_stepped_9 : decode (mC mX11_stepped) 9 = .ok (.if_icmp .ne 7, 3) := by decide +kernel
theorem dX11_stepped_12 : decode (mC mX11_stepped) 12 = .ok (.iload_n 3, 1) := by decide +kernel
theorem dX11_stepped_13 : decode (mC mX11_stepped) 13 = .ok (.goto 14, 3) := by decide +kernel
theorem dX11_stepped_16 : decode (mC mX11_stepped) 16 = .ok (.iload_n 2, 1) := by decide +kernel
theorem dX11_stepped_17 : decode (mC mX11_stepped) 17 = .ok (.iconst 3, 1) := by decide +kernel
theorem dX11_stepped_18 : decode (mC mX11_stepped) 18 = .ok (.if_icmp .ne 8, 3) := by decide +kernel
theorem dX11_stepped_21 : decode (mC mX11_stepped) 21 = .ok (.iload_n 3, 1) := by decide +kernel
theorem dX11_stepped_22 : decode (mC mX11_stepped) 22 = .ok (.ineg, 1) := by decide +kernel
theorem dX11_stepped_23 : decode (mC mX11_stepped) 23 = .ok (.goto 4, 3) := by decide +kernel
theorem dX11_stepped_26 : decode (mC mX11_stepped) 26 = .ok (.iconst 0, 1) := by decide +kernel
theorem dX11_stepped_27 : decode (mC mX11_stepped) 27 = .ok (.iadd, 1) := by decide +kernel
theorem dX11_stepped_28 : decode (mC mX11_stepped) 28 = .ok (.istore 4, 2) := by decide +kernel
theorem dX11_stepped_30 : decode (mC mX11_stepped) 30 = .ok (.iload_n 1, 1) := by decide +kernel
theorem dX11_stepped_31 : decode (mC mX11_stepped) 31 = .ok (.aload_n 0, 1) := by decide +kernel
theorem dX11_stepped_32 : decode (mC mX11_stepped) 32 = .ok (.iconst 0, 1) := by decide +kernel
theorem dX11_stepped_33 : decode (mC mX11_stepped) 33 = .ok (.invokevirtual 209, 3) := by decide +kernel
theorem dX11_stepped_36 : decode (mC mX11_stepped) 36 = .ok (.idiv, 1) := by decide +kernel
theorem dX11_stepped_37 : decode (mC mX11_stepped) 37 = .ok (.iload_n 2, 1) := by decide +kernel
theorem dX11_stepped_38 : decode (mC mX11_stepped) 38 = .ok (.iconst 2, 1) := by decide +kernel
theorem dX11_stepped_39 : decode (mC mX11_stepped) 39 = .ok (.if_icmp .ne 7, 3) := by decide +kernel
theorem dX11_stepped_42 : decode (mC mX11_stepped) 42 = .ok (.iload_n 3, 1) := by decide +kernel
theorem dX11_stepped_43 : decode (mC mX11_stepped) 43 = .ok (.goto 13, 3) := by decide +kernel
theorem dX11_stepped_46 : decode (mC mX11_stepped) 46 = .ok (.iload_n 2, 1) := by decide +kernel
theorem dX11_stepped_47 : decode (mC mX11_stepped) 47 = .ok (.ifCond .ne 8, 3) := by decide +kernel
theorem dX11_stepped_50 : decode (mC mX11_stepped) 50 = .ok (.iload_n 3, 1) := by decide +kernel
theorem dX11_stepped_51 : decode (mC mX11_stepped) 51 = .ok (.ineg, 1) := by decide +kernel
theorem dX11_stepped_52 : decode (mC mX11_stepped) 52 = .ok (.goto 4, 3) := by decide +kernel
theorem dX11_stepped_55 : decode (mC mX11_stepped) 55 = .ok (.iconst 0, 1) := by decide +kernel
theorem dX11_stepped_56 : decode (mC mX11_stepped) 56 = .ok (.iadd, 1) := by decide +kernel
theorem dX11_stepped_57 : decode (mC mX11_stepped) 57 = .ok (.istore 5, 2) := by decide +kernel
theorem dX11_stepped_59 : decode (mC mX11_stepped) 59 = .ok (.iload 4, 2) := by decide +kernel
theorem dX11_stepped_61 : decode (mC mX11_stepped) 61 = .ok (.iconst 0, 1) := by decide +kernel
theorem dX11_stepped_62 : decode (mC mX11_stepped) 62 = .ok (.aload_n 0, 1) := by decide +kernel
theorem dX11_stepped_63 : decode (mC mX11_stepped) 63 = .ok (.iconst 0, 1) := by decide +kernel
theorem dX11_stepped_64 : decode (mC mX11_stepped) 64 = .ok (.invokevirtual 209, 3) := by decide +kernel
theorem dX11_stepped_67 : decode (mC mX11_stepped) 67 = .ok (.iconst 1, 1) := by decide +kernel
theorem dX11_stepped_68 : decode (mC mX11_stepped) 68 = .ok (.isub, 1) := by decide +kernel
theorem dX11_stepped_69 : decode (mC mX11_stepped) 69 = .ok (.invokestatic 140, 3) := by decide +kernel
theorem dX11_stepped_72 : decode (mC mX11_stepped) 72 = .ok (.ifCond .eq 33, 3) := by decide +kernel
theorem dX11_stepped_75 : decode (mC mX11_stepped) 75 = .ok (.iload 5, 2) := by decide +kernel
theorem dX11_stepped_77 : decode (mC mX11_stepped) 77 = .ok (.iconst 0, 1) := by decide +kernel
theorem dX11_stepped_78 : decode (mC mX11_stepped) 78 = .ok (.aload_n 0, 1) := by decide +kernel
theorem dX11_stepped_79 : decode (mC mX11_stepped) 79 = .ok (.iconst 1, 1) := by decide +kernel
theorem dX11_stepped_80 : decode (mC mX11_stepped) 80 = .ok (.invokevirtual 209, 3) := by decide +kernel
theorem dX11_stepped_83 : decode (mC mX11_stepped) 83 = .ok (.iconst 1, 1) := by decide +kernel
theorem dX11_stepped_84 : decode (mC mX11_stepped) 84 = .ok (.isub, 1) := by decide +kernel
theorem dX11_stepped_85 : decode (mC mX11_stepped) 85 = .ok (.invokestatic 140, 3) := by decide +kernel
theorem dX11_stepped_88 : decode (mC mX11_stepped) 88 = .ok (.ifCond .eq 17, 3) := by decide +kernel
theorem dX11_stepped_91 : decode (mC mX11_stepped) 91 = .ok (.iload 5, 2) := by decide +kernel
theorem dX11_stepped_93 : decode (mC mX11_stepped) 93 = .ok (.aload_n 0, 1) := by decide +kernel
theorem dX11_stepped_94 : decode (mC mX11_stepped) 94 = .ok (.iconst 0, 1) := by decide +kernel
theorem dX11_stepped_95 : decode (mC mX11_stepped) 95 = .ok (.invokevirtual 209, 3) := by decide +kernel
theorem dX11_stepped_98 : decode (mC mX11_stepped) 98 = .ok (.imul, 1) := by decide +kernel
theorem dX11_stepped_99 : decode (mC mX11_stepped) 99 = .ok (.iload 4, 2) := by decide +kernel
theorem dX11_stepped_101 : decode (mC mX11_stepped) 101 = .ok (.iadd, 1) := by decide +kernel
theorem dX11_stepped_102 : decode (mC mX11_stepped) 102 = .ok (.goto 4, 3) := by decide +kernel
theorem dX11_stepped_105 : decode (mC mX11_stepped) 105 = .ok (.iconst (-1), 1) := by decide +kernel
theorem dX11_stepped_106 : decode (mC mX11_stepped) 106 = .ok (.ireturn, 1) := by decide +kernel
theorem dX11_goes_0 : decode (mC mX11_goes) 0 = .ok (.aload_n 0, 1) := by decide +kernel
theorem dX11_goes_1 : decode (mC mX11_goes) 1 = .ok (.getfield 26, 3) := by decide +kernel
theorem dX11_goes_4 : decode (mC mX11_goes) 4 = .ok (.iload_n 1, 1) := by decide +kernel
theorem dX11_goes_5 : decode (mC mX11_goes) 5 = .ok (.iconst 0, 1) := by decide +kernel
theorem dX11_goes_6 : decode (mC mX11_goes) 6 = .ok (.iastore, 1) := by decide +kernel
theorem dX11_goes_7 : decode (mC mX11_goes) 7 = .ok (.iconst 0, 1) := by decide +kernel
theorem dX11_goes_8 : decode (mC mX11_goes) 8 = .ok (.istore_n 2, 1) := by decide +kernel
theorem dX11_goes_9 : decode (mC mX11_goes) 9 = .ok (.iload_n 2, 1) := by decide +kernel
theorem dX11_goes_10 : decode (mC mX11_goes) 10 = .ok (.bipush 100, 2) := by decide +kernel
theorem dX11_goes_12 : decode (mC mX11_goes) 12 = .ok (.if_icmp .ge 21, 3) := by decide +kernel
theorem dX11_goes_15 : decode (mC mX11_goes) 15 = .ok (.aload_n 0, 1) := by decide +kernel
theorem dX11_goes_16 : decode (mC mX11_goes) 16 = .ok (.getfield 23, 3) := by decide +kernel
theorem dX11_goes_19 : decode (mC mX11_goes) 19 = .ok (.bipush 100, 2) := by decide +kernel
theorem dX11_goes_21 : decode (mC mX11_goes) 21 = .ok (.iload_n 1, 1) := by decide +kernel
theorem dX11_goes_22 : decode (mC mX11_goes) 22 = .ok (.imul, 1) := by decide +kernel
theorem dX11_goes_23 : decode (mC mX11_goes) 23 = .ok (.iload_n 2, 1) := by decide +kernel
theorem dX11_goes_24 : decode (mC mX11_goes) 24 = .ok (.iadd, 1) := by decide +kernel
theorem dX11_goes_25 : decode (mC mX11_goes) 25 = .ok (.iconst (-1), 1) := by decide +kernel
theorem dX11_goes_26 : decode (mC mX11_goes) 26 = .ok (.iastore, 1) := by decide +kernel
theorem dX11_goes_27 : decode (mC mX11_goes) 27 = .ok (.iinc 2 1, 3) := by decide +kernel
theorem dX11_goes_30 : decode (mC mX11_goes) 30 = .ok (.goto (-21), 3) := by decide +kernel
theorem dX11_goes_33 : decode (mC mX11_goes) 33 = .ok (.aload_n 0, 1) := by decide +kernel
theorem dX11_goes_34 : decode (mC mX11_goes) 34 = .ok (.iload_n 1, 1) := by decide +kernel
theorem dX11_goes_35 : decode (mC mX11_goes) 35 = .ok (.bipush 6, 2) := by decide +kernel
theorem dX11_goes_37 : decode (mC mX11_goes) 37 = .ok (.invokevirtual 236, 3) := by decide +kernel
theorem dX11_goes_40 : decode (mC mX11_goes) 40 = .ok (.iconst (-1), 1) := by decide +kernel
theorem dX11_goes_41 : decode (mC mX11_goes) 41 = .ok (.if_icmp .ne 4, 3) := by decide +kernel
theorem dX11_goes_44 : decode (mC mX11_goes) 44 = .ok (.return_, 1) := by decide +kernel
theorem dX11_goes_45 : decode (mC mX11_goes) 45 = .ok (.aload_n 0, 1) := by decide +kernel
theorem dX11_goes_46 : decode (mC mX11_goes) 46 = .ok (.iload_n 1, 1) := by decide +kernel
theorem dX11_goes_47 : decode (mC mX11_goes) 47 = .ok (.bipush 6, 2) := by decide +kernel
theorem dX11_goes_49 : decode (mC mX11_goes) 49 = .ok (.invokevirtual 236, 3) := by decide +kernel
theorem dX11_goes_52 : decode (mC mX11_goes) 52 = .ok (.istore_n 2, 1) := by decide +kernel
theorem dX11_goes_53 : decode (mC mX11_goes) 53 = .ok (.iconst 1, 1) := by decide +kernel
theorem dX11_goes_54 : decode (mC mX11_goes) 54 = .ok (.istore_n 3, 1) := by decide +kernel
theorem dX11_goes_55 : decode (mC mX11_goes) 55 = .ok (.aload_n 0, 1) := by decide +kernel
theorem dX11_goes_56 : decode (mC mX11_goes) 56 = .ok (.iload_n 1, 1) := by decide +kernel
theorem dX11_goes_57 : decode (mC mX11_goes) 57 = .ok (.invokevirtual 248, 3) := by decide +kernel
theorem dX11_goes_60 : decode (mC mX11_goes) 60 = .ok (.istore 4, 2) := by decide +kernel
theorem dX11_goes_62 : decode (mC mX11_goes) 62 = .ok (.iload 4, 2) := by decide +kernel
theorem dX11_goes_64 : decode (mC mX11_goes) 64 = .ok (.bipush 100, 2) := by decide +kernel
theorem dX11_goes_66 : decode (mC mX11_goes) 66 = .ok (.if_icmp .ge 117, 3) := by decide +kernel
theorem dX11_goes_69 : decode (mC mX11_goes) 69 = .ok (.iload 4, 2) := by decide +kernel
theorem dX11_goes_71 : decode (mC mX11_goes) 71 = .ok (.aload_n 0, 1) := by decide +kernel
theorem dX11_goes_72 : decode (mC mX11_goes) 72 = .ok (.iload_n 1, 1) := by decide +kernel
theorem dX11_goes_73 : decode (mC mX11_goes) 73 = .ok (.invokevirtual 248, 3) := by decide +kernel
theorem dX11_goes_76 : decode (mC mX11_goes) 76 = .ok (.isub, 1) := by decide +kernel
theorem dX11_goes_77 : decode (mC mX11_goes) 77 = .ok (.istore 5, 2) := by decide +kernel
theorem dX11_goes_79 : decode (mC mX11_goes) 79 = .ok (.iload 5, 2) := by decide +kernel
theorem dX11_goes_81 : decode (mC mX11_goes) 81 = .ok (.ifCond .le 83, 3) := by decide +kernel
theorem dX11_goes_84 : decode (mC mX11_goes) 84 = .ok (.iload 5, 2) := by decide +kernel
theorem dX11_goes_86 : decode (mC mX11_goes) 86 = .ok (.aload_n 0, 1) := by decide +kernel
theorem dX11_goes_87 : decode (mC mX11_goes) 87 = .ok (.iload_n 1, 1) := by decide +kernel
theorem dX11_goes_88 : decode (mC mX11_goes) 88 = .ok (.bipush 8, 2) := by decide +kernel
theorem dX11_goes_90 : decode (mC mX11_goes) 90 = .ok (.invokevirtual 236, 3) := by decide +kernel
theorem dX11_goes_93 : decode (mC mX11_goes) 93 = .ok (.if_icmp .gt 71, 3) := by decide +kernel
theorem dX11_goes_96 : decode (mC mX11_goes) 96 = .ok (.iload_n 3, 1) := by decide +kernel
theorem dX11_goes_97 : decode (mC mX11_goes) 97 = .ok (.ifCond .eq 67, 3) := by decide +kernel
theorem dX11_goes_100 : decode (mC mX11_goes) 100 = .ok (.aload_n 0, 1) := by decide +kernel
theorem dX11_goes_101 : decode (mC mX11_goes) 101 = .ok (.iload_n 2, 1) := by decide +kernel
theorem dX11_goes_102 : decode (mC mX11_goes) 102 = .ok (.aload_n 0, 1) := by decide +kernel
theorem dX11_goes_103 : decode (mC mX11_goes) 103 = .ok (.iload_n 1, 1) := by decide +kernel
theorem dX11_goes_104 : decode (mC mX11_goes) 104 = .ok (.bipush 8, 2) := by decide +kernel
theorem dX11_goes_106 : decode (mC mX11_goes) 106 = .ok (.iload 5, 2) := by decide +kernel
theorem dX11_goes_108 : decode (mC mX11_goes) 108 = .ok (.iadd, 1) := by decide +kernel
theorem dX11_goes_109 : decode (mC mX11_goes) 109 = .ok (.invokevirtual 236, 3) := by decide +kernel
theorem dX11_goes_112 : decode (mC mX11_goes) 112 = .ok (.aload_n 0, 1) := by decide +kernel
theorem dX11_goes_113 : decode (mC mX11_goes) 113 = .ok (.iload_n 1, 1) := by decide +kernel
theorem dX11_goes_114 : decode (mC mX11_goes) 114 = .ok (.iconst 1, 1) := by decide +kernel
theorem dX11_goes_115 : decode (mC mX11_goes) 115 = .ok (.invokevirtual 236, 3) := by decide +kernel
theorem dX11_goes_118 : decode (mC mX11_goes) 118 = .ok (.invokevirtual 251, 3) := by decide +kernel
theorem dX11_goes_121 : decode (mC mX11_goes) 121 = .ok (.istore 6, 2) := by decide +kernel
theorem dX11_goes_123 : decode (mC mX11_goes) 123 = .ok (.iload 6, 2) := by decide +kernel
theorem dX11_goes_125 : decode (mC mX11_goes) 125 = .ok (.iconst (-1), 1) := by decide +kernel
theorem dX11_goes_126 : decode (mC mX11_goes) 126 = .ok (.if_icmp .eq 7, 3) := by decide +kernel
theorem dX11_goes_129 : decode (mC mX11_goes) 129 = .ok (.iconst 1, 1) := by decide +kernel
theorem dX11_goes_130 : decode (mC mX11_goes) 130 = .ok (.goto 4, 3) := by decide +kernel
theorem dX11_goes_133 : decode (mC mX11_goes) 133 = .ok (.iconst 0, 1) := by decide +kernel
theorem dX11_goes_134 : decode (mC mX11_goes) 134 = .ok (.istore_n 3, 1) := by decide +kernel
theorem dX11_goes_135 : decode (mC mX11_goes) 135 = .ok (.iload_n 3, 1) := by decide +kernel
theorem dX11_goes_136 : decode (mC mX11_goes) 136 = .ok (.ifCond .eq 8, 3) := by decide +kernel
theorem dX11_goes_139 : decode (mC mX11_goes) 139 = .ok (.iload 6, 2) := by decide +kernel
theorem dX11_goes_141 : decode (mC mX11_goes) 141 = .ok (.goto 4, 3) := by decide +kernel
theorem dX11_goes_144 : decode (mC mX11_goes) 144 = .ok (.iload_n 2, 1) := by decide +kernel
theorem dX11_goes_145 : decode (mC mX11_goes) 145 = .ok (.istore_n 2, 1) := by decide +kernel
theorem dX11_goes_146 : decode (mC mX11_goes) 146 = .ok (.aload_n 0, 1) := by decide +kernel
theorem dX11_goes_147 : decode (mC mX11_goes) 147 = .ok (.getfield 26, 3) := by decide +kernel
theorem dX11_goes_150 : decode (mC mX11_goes) 150 = .ok (.iload_n 1, 1) := by decide +kernel
theorem dX11_goes_151 : decode (mC mX11_goes) 151 = .ok (.dup2, 1) := by decide +kernel
theorem dX11_goes_152 : decode (mC mX11_goes) 152 = .ok (.iaload, 1) := by decide +kernel
theorem dX11_goes_153 : decode (mC mX11_goes) 153 = .ok (.iload_n 3, 1) := by decide +kernel
theorem dX11_goes_154 : decode (mC mX11_goes) 154 = .ok (.ifCond .eq 7, 3) := by decide +kernel
theorem dX11_goes_157 : decode (mC mX11_goes) 157 = .ok (.iconst 1, 1) := by decide +kernel
theorem dX11_goes_158 : decode (mC mX11_goes) 158 = .ok (.goto 4, 3) := by decide +kernel
theorem dX11_goes_161 : decode (mC mX11_goes) 161 = .ok (.iconst 0, 1) := by decide +kernel
theorem dX11_goes_162 : decode (mC mX11_goes) 162 = .ok (.iadd, 1) := by decide +kernel
theorem dX11_goes_163 : decode (mC mX11_goes) 163 = .ok (.iastore, 1) := by decide +kernel
theorem dX11_goes_164 : decode (mC mX11_goes) 164 = .ok (.aload_n 0, 1) := by decide +kernel
theorem dX11_goes_165 : decode (mC mX11_goes) 165 = .ok (.getfield 23, 3) := by decide +kernel
theorem dX11_goes_168 : decode (mC mX11_goes) 168 = .ok (.bipush 100, 2) := by decide +kernel
theorem dX11_goes_170 : decode (mC mX11_goes) 170 = .ok (.iload_n 1, 1) := by decide +kernel
theorem dX11_goes_171 : decode (mC mX11_goes) 171 = .ok (.imul, 1) := by decide +kernel
theorem dX11_goes_172 : decode (mC mX11_goes) 172 = .ok (.iload 4, 2) := by decide +kernel
theorem dX11_goes_174 : decode (mC mX11_goes) 174 = .ok (.iadd, 1) := by decide +kernel
theorem dX11_goes_175 : decode (mC mX11_goes) 175 = .ok (.iload_n 2, 1) := by decide +kernel
theorem dX11_goes_176 : decode (mC mX11_goes) 176 = .ok (.iastore, 1) := by decide +kernel
theorem dX11_goes_177 : decode (mC mX11_goes) 177 = .ok (.iinc 4 1, 3) := by decide +kernel
theorem dX11_goes_180 : decode (mC mX11_goes) 180 = .ok (.goto (-118), 3) := by decide +kernel
theorem dX11_goes_183 : decode (mC mX11_goes) 183 = .ok (.return_, 1) := by decide +kernel
theorem dX11_places_0 : decode (mC mX11_places) 0 = .ok (.iconst 0, 1) := by decide +kernel
theorem dX11_places_1 : decode (mC mX11_places) 1 = .ok (.istore_n 1, 1) := by decide +kernel
theorem dX11_places_2 : decode (mC mX11_places) 2 = .ok (.iload_n 1, 1) := by decide +kernel
theorem dX11_places_3 : decode (mC mX11_places) 3 = .ok (.aload_n 0, 1) := by decide +kernel
theorem dX11_places_4 : decode (mC mX11_places) 4 = .ok (.invokevirtual 212, 3) := by decide +kernel
theorem dX11_places_7 : decode (mC mX11_places) 7 = .ok (.if_icmp .ge 22, 3) := by decide +kernel
theorem dX11_places_10 : decode (mC mX11_places) 10 = .ok (.aload_n 0, 1) := by decide +kernel
theorem dX11_places_11 : decode (mC mX11_places) 11 = .ok (.iload_n 1, 1) := by decide +kernel
theorem dX11_places_12 : decode (mC mX11_places) 12 = .ok (.invokevirtual 255, 3) := by decide +kernel
theorem dX11_places_15 : decode (mC mX11_places) 15 = .ok (.ifCond .ne 8, 3) := by decide +kernel
theorem dX11_places_18 : decode (mC mX11_places) 18 = .ok (.aload_n 0, 1) := by decide +kernel
theorem dX11_places_19 : decode (mC mX11_places) 19 = .ok (.iload_n 1, 1) := by decide +kernel
theorem dX11_places_20 : decode (mC mX11_places) 20 = .ok (.invokevirtual 258, 3) := by decide +kernel
theorem dX11_places_23 : decode (mC mX11_places) 23 = .ok (.iinc 1 1, 3) := by decide +kernel
theorem dX11_places_26 : decode (mC mX11_places) 26 = .ok (.goto (-24), 3) := by decide +kernel
theorem dX11_places_29 : decode (mC mX11_places) 29 = .ok (.iconst 0, 1) := by decide +kernel
theorem dX11_places_30 : decode (mC mX11_places) 30 = .ok (.istore_n 1, 1) := by decide +kernel
theorem dX11_places_31 : decode (mC mX11_places) 31 = .ok (.iload_n 1, 1) := by decide +kernel
theorem dX11_places_32 : decode (mC mX11_places) 32 = .ok (.aload_n 0, 1) := by decide +kernel
theorem dX11_places_33 : decode (mC mX11_places) 33 = .ok (.invokevirtual 212, 3) := by decide +kernel
theorem dX11_places_36 : decode (mC mX11_places) 36 = .ok (.if_icmp .ge 87, 3) := by decide +kernel
theorem dX11_places_39 : decode (mC mX11_places) 39 = .ok (.aload_n 0, 1) := by decide +kernel
theorem dX11_places_40 : decode (mC mX11_places) 40 = .ok (.iload_n 1, 1) := by decide +kernel
theorem dX11_places_41 : decode (mC mX11_places) 41 = .ok (.invokevirtual 255, 3) := by decide +kernel
theorem dX11_places_44 : decode (mC mX11_places) 44 = .ok (.ifCond .ne 6, 3) := by decide +kernel
theorem dX11_places_47 : decode (mC mX11_places) 47 = .ok (.goto 70, 3) := by decide +kernel
theorem dX11_places_50 : decode (mC mX11_places) 50 = .ok (.aload_n 0, 1) := by decide +kernel
theorem dX11_places_51 : decode (mC mX11_places) 51 = .ok (.iload_n 1, 1) := by decide +kernel
theorem dX11_places_52 : decode (mC mX11_places) 52 = .ok (.invokevirtual 245, 3) := by decide +kernel
theorem dX11_places_55 : decode (mC mX11_places) 55 = .ok (.istore_n 2, 1) := by decide +kernel
theorem dX11_places_56 : decode (mC mX11_places) 56 = .ok (.aload_n 0, 1) := by decide +kernel
theorem dX11_places_57 : decode (mC mX11_places) 57 = .ok (.getfield 26, 3) := by decide +kernel
theorem dX11_places_60 : decode (mC mX11_places) 60 = .ok (.iload_n 1, 1) := by decide +kernel
theorem dX11_places_61 : decode (mC mX11_places) 61 = .ok (.iconst 0, 1) := by decide +kernel
theorem dX11_places_62 : decode (mC mX11_places) 62 = .ok (.iastore, 1) := by decide +kernel
theorem dX11_places_63 : decode (mC mX11_places) 63 = .ok (.iconst 0, 1) := by decide +kernel
theorem dX11_places_64 : decode (mC mX11_places) 64 = .ok (.istore_n 3, 1) := by decide +kernel
theorem dX11_places_65 : decode (mC mX11_places) 65 = .ok (.iload_n 3, 1) := by decide +kernel
theorem dX11_places_66 : decode (mC mX11_places) 66 = .ok (.bipush 100, 2) := by decide +kernel
theorem dX11_places_68 : decode (mC mX11_places) 68 = .ok (.if_icmp .ge 49, 3) := by decide +kernel
theorem dX11_places_71 : decode (mC mX11_places) 71 = .ok (.aload_n 0, 1) := by decide +kernel
theorem dX11_places_72 : decode (mC mX11_places) 72 = .ok (.getfield 23, 3) := by decide +kernel
theorem dX11_places_75 : decode (mC mX11_places) 75 = .ok (.bipush 100, 2) := by decide +kernel
theorem dX11_places_77 : decode (mC mX11_places) 77 = .ok (.iload_n 1, 1) := by decide +kernel
theorem dX11_places_78 : decode (mC mX11_places) 78 = .ok (.imul, 1) := by decide +kernel
theorem dX11_places_79 : decode (mC mX11_places) 79 = .ok (.iload_n 3, 1) := by decide +kernel
theorem dX11_places_80 : decode (mC mX11_places) 80 = .ok (.iadd, 1) := by decide +kernel
theorem dX11_places_81 : decode (mC mX11_places) 81 = .ok (.aload_n 0, 1) := by decide +kernel
theorem dX11_places_82 : decode (mC mX11_places) 82 = .ok (.iload_n 2, 1) := by decide +kernel
theorem dX11_places_83 : decode (mC mX11_places) 83 = .ok (.invokevirtual 255, 3) := by decide +kernel
theorem dX11_places_86 : decode (mC mX11_places) 86 = .ok (.ifCond .eq 13, 3) := by decide +kernel
theorem dX11_places_89 : decode (mC mX11_places) 89 = .ok (.aload_n 0, 1) := by decide +kernel
theorem dX11_places_90 : decode (mC mX11_places) 90 = .ok (.iload_n 1, 1) := by decide +kernel
theorem dX11_places_91 : decode (mC mX11_places) 91 = .ok (.bipush 6, 2) := by decide +kernel
theorem dX11_places_93 : decode (mC mX11_places) 93 = .ok (.invokevirtual 236, 3) := by decide +kernel
theorem dX11_places_96 : decode (mC mX11_places) 96 = .ok (.goto 14, 3) := by decide +kernel
theorem dX11_places_99 : decode (mC mX11_places) 99 = .ok (.aload_n 0, 1) := by decide +kernel
theorem dX11_places_100 : decode (mC mX11_places) 100 = .ok (.getfield 23, 3) := by decide +kernel
theorem dX11_places_103 : decode (mC mX11_places) 103 = .ok (.bipush 100, 2) := by decide +kernel
theorem dX11_places_105 : decode (mC mX11_places) 105 = .ok (.iload_n 2, 1) := by decide +kernel
theorem dX11_places_106 : decode (mC mX11_places) 106 = .ok (.imul, 1) := by decide +kernel
theorem dX11_places_107 : decode (mC mX11_places) 107 = .ok (.iload_n 3, 1) := by decide +kernel
theorem dX11_places_108 : decode (mC mX11_places) 108 = .ok (.iadd, 1) := by decide +kernel
theorem dX11_places_109 : decode (mC mX11_places) 109 = .ok (.iaload, 1) := by decide +kernel
theorem dX11_places_110 : decode (mC mX11_places) 110 = .ok (.iastore, 1) := by decide +kernel
theorem dX11_places_111 : decode (mC mX11_places) 111 = .ok (.iinc 3 1, 3) := by decide +kernel
theorem dX11_places_114 : decode (mC mX11_places) 114 = .ok (.goto (-49), 3) := by decide +kernel
theorem dX11_places_117 : decode (mC mX11_places) 117 = .ok (.iinc 1 1, 3) := by decide +kernel
theorem dX11_places_120 : decode (mC mX11_places) 120 = .ok (.goto (-89), 3) := by decide +kernel
theorem dX11_places_123 : decode (mC mX11_places) 123 = .ok (.return_, 1) := by decide +kernel
theorem dX11_half_0 : decode (mC mX11_half) 0 = .ok (.iload_n 1, 1) := by decide +kernel
theorem dX11_half_1 : decode (mC mX11_half) 1 = .ok (.iconst 4, 1) := by decide +kernel
theorem dX11_half_2 : decode (mC mX11_half) 2 = .ok (.if_icmp .ge 7, 3) := by decide +kernel
theorem dX11_half_5 : decode (mC mX11_half) 5 = .ok (.iconst 1, 1) := by decide +kernel
theorem dX11_half_6 : decode (mC mX11_half) 6 = .ok (.goto 6, 3) := by decide +kernel
theorem dX11_half_9 : decode (mC mX11_half) 9 = .ok (.iload_n 1, 1) := by decide +kernel
theorem dX11_half_10 : decode (mC mX11_half) 10 = .ok (.iconst 2, 1) := by decide +kernel
theorem dX11_half_11 : decode (mC mX11_half) 11 = .ok (.idiv, 1) := by decide +kernel
theorem dX11_half_12 : decode (mC mX11_half) 12 = .ok (.ireturn, 1) := by decide +kernel
theorem dX11_depthOf_0 : decode (mC mX11_depthOf) 0 = .ok (.aload_n 0, 1) := by decide +kernel
theorem dX11_depthOf_1 : decode (mC mX11_depthOf) 1 = .ok (.iload_n 1, 1) := by decide +kernel
theorem dX11_depthOf_2 : decode (mC mX11_depthOf) 2 = .ok (.iconst 2, 1) := by decide +kernel
theorem dX11_depthOf_3 : decode (mC mX11_depthOf) 3 = .ok (.invokevirtual 236, 3) := by decide +kernel
theorem dX11_depthOf_6 : decode (mC mX11_depthOf) 6 = .ok (.aload_n 0, 1) := by decide +kernel
theorem dX11_depthOf_7 : decode (mC mX11_depthOf) 7 = .ok (.iconst 2, 1) := by decide +kernel
theorem dX11_depthOf_8 : decode (mC mX11_depthOf) 8 = .ok (.invokevirtual 209, 3) := by decide +kernel
theorem dX11_depthOf_11 : decode (mC mX11_depthOf) 11 = .ok (.iadd, 1) := by decide +kernel
theorem dX11_depthOf_12 : decode (mC mX11_depthOf) 12 = .ok (.istore_n 3, 1) := by decide +kernel
theorem dX11_depthOf_13 : decode (mC mX11_depthOf) 13 = .ok (.iconst 0, 1) := by decide +kernel
theorem dX11_depthOf_14 : decode (mC mX11_depthOf) 14 = .ok (.istore 4, 2) := by decide +kernel
theorem dX11_depthOf_16 : decode (mC mX11_depthOf) 16 = .ok (.iload 4, 2) := by decide +kernel
theorem dX11_depthOf_18 : decode (mC mX11_depthOf) 18 = .ok (.aload_n 0, 1) := by decide +kernel
theorem dX11_depthOf_19 : decode (mC mX11_depthOf) 19 = .ok (.invokevirtual 212, 3) := by decide +kernel
theorem dX11_depthOf_22 : decode (mC mX11_depthOf) 22 = .ok (.if_icmp .ge 39, 3) := by decide +kernel
theorem dX11_depthOf_25 : decode (mC mX11_depthOf) 25 = .ok (.iload_n 3, 1) := by decide +kernel
theorem dX11_depthOf_26 : decode (mC mX11_depthOf) 26 = .ok (.iload 4, 2) := by decide +kernel
theorem dX11_depthOf_28 : decode (mC mX11_depthOf) 28 = .ok (.iload_n 1, 1) := by decide +kernel
theorem dX11_depthOf_29 : decode (mC mX11_depthOf) 29 = .ok (.if_icmp .eq 23, 3) := by decide +kernel
theorem dX11_depthOf_32 : decode (mC mX11_depthOf) 32 = .ok (.aload_n 0, 1) := by decide +kernel
theorem dX11_depthOf_33 : decode (mC mX11_depthOf) 33 = .ok (.iload 4, 2) := by decide +kernel
theorem dX11_depthOf_35 : decode (mC mX11_depthOf) 35 = .ok (.invokevirtual 245, 3) := by decide +kernel
theorem dX11_depthOf_38 : decode (mC mX11_depthOf) 38 = .ok (.iload_n 1, 1) := by decide +kernel
theorem dX11_depthOf_39 : decode (mC mX11_depthOf) 39 = .ok (.if_icmp .ne 13, 3) := by decide +kernel
theorem dX11_depthOf_42 : decode (mC mX11_depthOf) 42 = .ok (.aload_n 0, 1) := by decide +kernel
theorem dX11_depthOf_43 : decode (mC mX11_depthOf) 43 = .ok (.iload 4, 2) := by decide +kernel
theorem dX11_depthOf_45 : decode (mC mX11_depthOf) 45 = .ok (.iconst 2, 1) := by decide +kernel
theorem dX11_depthOf_46 : decode (mC mX11_depthOf) 46 = .ok (.invokevirtual 236, 3) := by decide +kernel
theorem dX11_depthOf_49 : decode (mC mX11_depthOf) 49 = .ok (.goto 4, 3) := by decide +kernel
theorem dX11_depthOf_52 : decode (mC mX11_depthOf) 52 = .ok (.iconst 0, 1) := by decide +kernel
theorem dX11_depthOf_53 : decode (mC mX11_depthOf) 53 = .ok (.iadd, 1) := by decide +kernel
theorem dX11_depthOf_54 : decode (mC mX11_depthOf) 54 = .ok (.istore_n 3, 1) := by decide +kernel
theorem dX11_depthOf_55 : decode (mC mX11_depthOf) 55 = .ok (.iinc 4 1, 3) := by decide +kernel
theorem dX11_depthOf_58 : decode (mC mX11_depthOf) 58 = .ok (.goto (-42), 3) := by decide +kernel
theorem dX11_depthOf_61 : decode (mC mX11_depthOf) 61 = .ok (.aload_n 0, 1) := by decide +kernel
theorem dX11_depthOf_62 : decode (mC mX11_depthOf) 62 = .ok (.iload_n 1, 1) := by decide +kernel
theorem dX11_depthOf_63 : decode (mC mX11_depthOf) 63 = .ok (.iconst 3, 1) := by decide +kernel
theorem dX11_depthOf_64 : decode (mC mX11_depthOf) 64 = .ok (.invokevirtual 236, 3) := by decide +kernel
theorem dX11_depthOf_67 : decode (mC mX11_depthOf) 67 = .ok (.iload_n 2, 1) := by decide +kernel
theorem dX11_depthOf_68 : decode (mC mX11_depthOf) 68 = .ok (.iconst 1, 1) := by decide +kernel
theorem dX11_depthOf_69 : decode (mC mX11_depthOf) 69 = .ok (.iadd, 1) := by decide +kernel
theorem dX11_depthOf_70 : decode (mC mX11_depthOf) 70 = .ok (.if_icmp .ne 11, 3) := by decide +kernel
theorem dX11_depthOf_73 : decode (mC mX11_depthOf) 73 = .ok (.aload_n 0, 1) := by decide +kernel
theorem dX11_depthOf_74 : decode (mC mX11_depthOf) 74 = .ok (.iload_n 3, 1) := by decide +kernel
theorem dX11_depthOf_75 : decode (mC mX11_depthOf) 75 = .ok (.invokevirtual 261, 3) := by decide +kernel
theorem dX11_depthOf_78 : decode (mC mX11_depthOf) 78 = .ok (.goto 4, 3) := by decide +kernel
theorem dX11_depthOf_81 : decode (mC mX11_depthOf) 81 = .ok (.iload_n 3, 1) := by decide +kernel
theorem dX11_depthOf_82 : decode (mC mX11_depthOf) 82 = .ok (.ireturn, 1) := by decide +kernel
theorem dX11_topmost_0 : decode (mC mX11_topmost) 0 = .ok (.aload_n 0, 1) := by decide +kernel
theorem dX11_topmost_1 : decode (mC mX11_topmost) 1 = .ok (.getfield 264, 3) := by decide +kernel
theorem dX11_topmost_4 : decode (mC mX11_topmost) 4 = .ok (.iconst 1, 1) := by decide +kernel
theorem dX11_topmost_5 : decode (mC mX11_topmost) 5 = .ok (.isub, 1) := by decide +kernel
theorem dX11_topmost_6 : decode (mC mX11_topmost) 6 = .ok (.istore_n 2, 1) := by decide +kernel
theorem dX11_topmost_7 : decode (mC mX11_topmost) 7 = .ok (.iload_n 2, 1) := by decide +kernel
theorem dX11_topmost_8 : decode (mC mX11_topmost) 8 = .ok (.ifCond .lt 21, 3) := by decide +kernel
theorem dX11_topmost_11 : decode (mC mX11_topmost) 11 = .ok (.aload_n 0, 1) := by decide +kernel
theorem dX11_topmost_12 : decode (mC mX11_topmost) 12 = .ok (.getfield 29, 3) := by decide +kernel
theorem dX11_topmost_15 : decode (mC mX11_topmost) 15 = .ok (.iload_n 2, 1) := by decide +kernel
theorem dX11_topmost_16 : decode (mC mX11_topmost) 16 = .ok (.iaload, 1) := by decide +kernel
theorem dX11_topmost_17 : decode (mC mX11_topmost) 17 = .ok (.iload_n 1, 1) := by decide +kernel
theorem dX11_topmost_18 : decode (mC mX11_topmost) 18 = .ok (.if_icmp .ne 5, 3) := by decide +kernel
theorem dX11_topmost_21 : decode (mC mX11_topmost) 21 = .ok (.iload_n 2, 1) := by decide +kernel
theorem dX11_topmost_22 : decode (mC mX11_topmost) 22 = .ok (.ireturn, 1) := by decide +kernel
theorem dX11_topmost_23 : decode (mC mX11_topmost) 23 = .ok (.iinc 2 (-1), 3) := by decide +kernel
theorem dX11_topmost_26 : decode (mC mX11_topmost) 26 = .ok (.goto (-19), 3) := by decide +kernel
theorem dX11_topmost_29 : decode (mC mX11_topmost) 29 = .ok (.iconst (-1), 1) := by decide +kernel
theorem dX11_topmost_30 : decode (mC mX11_topmost) 30 = .ok (.ireturn, 1) := by decide +kernel
theorem dX11_foot_0 : decode (mC mX11_foot) 0 = .ok (.iload_n 2, 1) := by decide +kernel
theorem dX11_foot_1 : decode (mC mX11_foot) 1 = .ok (.aload_n 0, 1) := by decide +kernel
theorem dX11_foot_2 : decode (mC mX11_foot) 2 = .ok (.iload_n 1, 1) := by decide +kernel
theorem dX11_foot_3 : decode (mC mX11_foot) 3 = .ok (.invokevirtual 248, 3) := by decide +kernel
theorem dX11_foot_6 : decode (mC mX11_foot) 6 = .ok (.isub, 1) := by decide +kernel
theorem dX11_foot_7 : decode (mC mX11_foot) 7 = .ok (.istore_n 3, 1) := by decide +kernel
theorem dX11_foot_8 : decode (mC mX11_foot) 8 = .ok (.iload_n 3, 1) := by decide +kernel
theorem dX11_foot_9 : decode (mC mX11_foot) 9 = .ok (.iconst 2, 1) := by decide +kernel
theorem dX11_foot_10 : decode (mC mX11_foot) 10 = .ok (.irem, 1) := by decide +kernel
theorem dX11_foot_11 : decode (mC mX11_foot) 11 = .ok (.istore 4, 2) := by decide +kernel
theorem dX11_foot_13 : decode (mC mX11_foot) 13 = .ok (.aload_n 0, 1) := by decide +kernel
theorem dX11_foot_14 : decode (mC mX11_foot) 14 = .ok (.iload_n 1, 1) := by decide +kernel
theorem dX11_foot_15 : decode (mC mX11_foot) 15 = .ok (.bipush 8, 2) := by decide +kernel
theorem dX11_foot_17 : decode (mC mX11_foot) 17 = .ok (.iload_n 3, 1) := by decide +kernel
theorem dX11_foot_18 : decode (mC mX11_foot) 18 = .ok (.ifCond .ne 7, 3) := by decide +kernel
theorem dX11_foot_21 : decode (mC mX11_foot) 21 = .ok (.iconst 1, 1) := by decide +kernel
theorem dX11_foot_22 : decode (mC mX11_foot) 22 = .ok (.goto 4, 3) := by decide +kernel
theorem dX11_foot_25 : decode (mC mX11_foot) 25 = .ok (.iload_n 3, 1) := by decide +kernel
theorem dX11_foot_26 : decode (mC mX11_foot) 26 = .ok (.iadd, 1) := by decide +kernel
theorem dX11_foot_27 : decode (mC mX11_foot) 27 = .ok (.invokevirtual 236, 3) := by decide +kernel
theorem dX11_foot_30 : decode (mC mX11_foot) 30 = .ok (.istore 5, 2) := by decide +kernel
theorem dX11_foot_32 : decode (mC mX11_foot) 32 = .ok (.aload_n 0, 1) := by decide +kernel
theorem dX11_foot_33 : decode (mC mX11_foot) 33 = .ok (.iload_n 1, 1) := by decide +kernel
theorem dX11_foot_34 : decode (mC mX11_foot) 34 = .ok (.iconst 4, 1) := by decide +kernel
theorem dX11_foot_35 : decode (mC mX11_foot) 35 = .ok (.invokevirtual 236, 3) := by decide +kernel
theorem dX11_foot_38 : decode (mC mX11_foot) 38 = .ok (.iconst 1, 1) := by decide +kernel
theorem dX11_foot_39 : decode (mC mX11_foot) 39 = .ok (.if_icmp .ne 8, 3) := by decide +kernel
theorem dX11_foot_42 : decode (mC mX11_foot) 42 = .ok (.bipush 6, 2) := by decide +kernel
theorem dX11_foot_44 : decode (mC mX11_foot) 44 = .ok (.goto 8, 3) := by decide +kernel
theorem dX11_foot_47 : decode (mC mX11_foot) 47 = .ok (.aload_n 0, 1) := by decide +kernel
theorem dX11_foot_48 : decode (mC mX11_foot) 48 = .ok (.iload_n 1, 1) := by decide +kernel
theorem dX11_foot_49 : decode (mC mX11_foot) 49 = .ok (.invokevirtual 267, 3) := by decide +kernel
theorem dX11_foot_52 : decode (mC mX11_foot) 52 = .ok (.istore 6, 2) := by decide +kernel
theorem dX11_foot_54 : decode (mC mX11_foot) 54 = .ok (.aload_n 0, 1) := by decide +kernel
theorem dX11_foot_55 : decode (mC mX11_foot) 55 = .ok (.iload_n 1, 1) := by decide +kernel
theorem dX11_foot_56 : decode (mC mX11_foot) 56 = .ok (.iload 4, 2) := by decide +kernel
theorem dX11_foot_58 : decode (mC mX11_foot) 58 = .ok (.invokevirtual 270, 3) := by decide +kernel
theorem dX11_foot_61 : decode (mC mX11_foot) 61 = .ok (.istore 7, 2) := by decide +kernel
theorem dX11_foot_63 : decode (mC mX11_foot) 63 = .ok (.aload_n 0, 1) := by decide +kernel
theorem dX11_foot_64 : decode (mC mX11_foot) 64 = .ok (.aload_n 0, 1) := by decide +kernel
theorem dX11_foot_65 : decode (mC mX11_foot) 65 = .ok (.getfield 23, 3) := by decide +kernel
theorem dX11_foot_68 : decode (mC mX11_foot) 68 = .ok (.bipush 100, 2) := by decide +kernel
theorem dX11_foot_70 : decode (mC mX11_foot) 70 = .ok (.iload_n 1, 1) := by decide +kernel
theorem dX11_foot_71 : decode (mC mX11_foot) 71 = .ok (.imul, 1) := by decide +kernel
theorem dX11_foot_72 : decode (mC mX11_foot) 72 = .ok (.iload_n 2, 1) := by decide +kernel
theorem dX11_foot_73 : decode (mC mX11_foot) 73 = .ok (.iadd, 1) := by decide +kernel
theorem dX11_foot_74 : decode (mC mX11_foot) 74 = .ok (.iaload, 1) := by decide +kernel
theorem dX11_foot_75 : decode (mC mX11_foot) 75 = .ok (.invokevirtual 273, 3) := by decide +kernel
theorem dX11_foot_78 : decode (mC mX11_foot) 78 = .ok (.istore 8, 2) := by decide +kernel
theorem dX11_foot_80 : decode (mC mX11_foot) 80 = .ok (.aload_n 0, 1) := by decide +kernel
theorem dX11_foot_81 : decode (mC mX11_foot) 81 = .ok (.getfield 53, 3) := by decide +kernel
theorem dX11_foot_84 : decode (mC mX11_foot) 84 = .ok (.iconst 4, 1) := by decide +kernel
theorem dX11_foot_85 : decode (mC mX11_foot) 85 = .ok (.iload_n 1, 1) := by decide +kernel
theorem dX11_foot_86 : decode (mC mX11_foot) 86 = .ok (.imul, 1) := by decide +kernel
theorem dX11_foot_87 : decode (mC mX11_foot) 87 = .ok (.dup2, 1) := by decide +kernel
theorem dX11_foot_88 : decode (mC mX11_foot) 88 = .ok (.iaload, 1) := by decide +kernel
theorem dX11_foot_89 : decode (mC mX11_foot) 89 = .ok (.iconst 1, 1) := by decide +kernel
theorem dX11_foot_90 : decode (mC mX11_foot) 90 = .ok (.iadd, 1) := by decide +kernel
theorem dX11_foot_91 : decode (mC mX11_foot) 91 = .ok (.iastore, 1) := by decide +kernel
theorem dX11_foot_92 : decode (mC mX11_foot) 92 = .ok (.iload 8, 2) := by decide +kernel
theorem dX11_foot_94 : decode (mC mX11_foot) 94 = .ok (.iconst (-1), 1) := by decide +kernel
theorem dX11_foot_95 : decode (mC mX11_foot) 95 = .ok (.if_icmp .eq 127, 3) := by decide +kernel
theorem dX11_foot_98 : decode (mC mX11_foot) 98 = .ok (.aload_n 0, 1) := by decide +kernel
theorem dX11_foot_99 : decode (mC mX11_foot) 99 = .ok (.getfield 32, 3) := by decide +kernel
theorem dX11_foot_102 : decode (mC mX11_foot) 102 = .ok (.iload 8, 2) := by decide +kernel
theorem dX11_foot_104 : decode (mC mX11_foot) 104 = .ok (.iaload, 1) := by decide +kernel
theorem dX11_foot_105 : decode (mC mX11_foot) 105 = .ok (.iload 6, 2) := by decide +kernel
theorem dX11_foot_107 : decode (mC mX11_foot) 107 = .ok (.if_icmp .ne 115, 3) := by decide +kernel
theorem dX11_foot_110 : decode (mC mX11_foot) 110 = .ok (.aload_n 0, 1) := by decide +kernel
theorem dX11_foot_111 : decode (mC mX11_foot) 111 = .ok (.getfield 35, 3) := by decide +kernel
theorem dX11_foot_114 : decode (mC mX11_foot) 114 = .ok (.iload 8, 2) := by decide +kernel
theorem dX11_foot_116 : decode (mC mX11_foot) 116 = .ok (.iaload, 1) := by decide +kernel
theorem dX11_foot_117 : decode (mC mX11_foot) 117 = .ok (.iload 4, 2) := by decide +kernel
theorem dX11_foot_119 : decode (mC mX11_foot) 119 = .ok (.if_icmp .ne 103, 3) := by decide +kernel
theorem dX11_foot_122 : decode (mC mX11_foot) 122 = .ok (.aload_n 0, 1) := by decide +kernel
theorem dX11_foot_123 : decode (mC mX11_foot) 123 = .ok (.getfield 38, 3) := by decide +kernel
theorem dX11_foot_126 : decode (mC mX11_foot) 126 = .ok (.iload 8, 2) := by decide +kernel
theorem dX11_foot_128 : decode (mC mX11_foot) 128 = .ok (.iaload, 1) := by decide +kernel
theorem dX11_foot_129 : decode (mC mX11_foot) 129 = .ok (.iload 5, 2) := by decide +kernel
theorem dX11_foot_131 : decode (mC mX11_foot) 131 = .ok (.if_icmp .ne 91, 3) := by decide +kernel
theorem dX11_foot_134 : decode (mC mX11_foot) 134 = .ok (.aload_n 0, 1) := by decide +kernel
theorem dX11_foot_135 : decode (mC mX11_foot) 135 = .ok (.getfield 41, 3) := by decide +kernel
theorem dX11_foot_138 : decode (mC mX11_foot) 138 = .ok (.iload 8, 2) := by decide +kernel
theorem dX11_foot_140 : decode (mC mX11_foot) 140 = .ok (.iload 7, 2) := by decide +kernel
theorem dX11_foot_142 : decode (mC mX11_foot) 142 = .ok (.aload_n 0, 1) := by decide +kernel
theorem dX11_foot_143 : decode (mC mX11_foot) 143 = .ok (.getfield 41, 3) := by decide +kernel
theorem dX11_foot_146 : decode (mC mX11_foot) 146 = .ok (.iload 8, 2) := by decide +kernel
theorem dX11_foot_148 : decode (mC mX11_foot) 148 = .ok (.iaload, 1) := by decide +kernel
theorem dX11_foot_149 : decode (mC mX11_foot) 149 = .ok (.if_icmp .le 8, 3) := by decide +kernel
theorem dX11_foot_152 : decode (mC mX11_foot) 152 = .ok (.iload 7, 2) := by decide +kernel
theorem dX11_foot_154 : decode (mC mX11_foot) 154 = .ok (.goto 10, 3) := by decide +kernel
theorem dX11_foot_157 : decode (mC mX11_foot) 157 = .ok (.aload_n 0, 1) := by decide +kernel
theorem dX11_foot_158 : decode (mC mX11_foot) 158 = .ok (.getfield 41, 3) := by decide +kernel
theorem dX11_foot_161 : decode (mC mX11_foot) 161 = .ok (.iload 8, 2) := by decide +kernel
theorem dX11_foot_163 : decode (mC mX11_foot) 163 = .ok (.iaload, 1) := by decide +kernel
theorem dX11_foot_164 : decode (mC mX11_foot) 164 = .ok (.iastore, 1) := by decide +kernel
theorem dX11_foot_165 : decode (mC mX11_foot) 165 = .ok (.aload_n 0, 1) := by decide +kernel
theorem dX11_foot_166 : decode (mC mX11_foot) 166 = .ok (.getfield 50, 3) := by decide +kernel
theorem dX11_foot_169 : decode (mC mX11_foot) 169 = .ok (.iload 8, 2) := by decide +kernel
theorem dX11_foot_171 : decode (mC mX11_foot) 171 = .ok (.dup2, 1) := by decide +kernel
theorem dX11_foot_172 : decode (mC mX11_foot) 172 = .ok (.iaload, 1) := by decide +kernel
theorem dX11_foot_173 : decode (mC mX11_foot) 173 = .ok (.iconst 1, 1) := by decide +kernel
theorem dX11_foot_174 : decode (mC mX11_foot) 174 = .ok (.iload_n 1, 1) := by decide +kernel
theorem dX11_foot_175 : decode (mC mX11_foot) 175 = .ok (.ishl, 1) := by decide +kernel
theorem dX11_foot_176 : decode (mC mX11_foot) 176 = .ok (.ior, 1) := by decide +kernel
theorem dX11_foot_177 : decode (mC mX11_foot) 177 = .ok (.iastore, 1) := by decide +kernel
theorem dX11_foot_178 : decode (mC mX11_foot) 178 = .ok (.aload_n 0, 1) := by decide +kernel
theorem dX11_foot_179 : decode (mC mX11_foot) 179 = .ok (.getfield 53, 3) := by decide +kernel
theorem dX11_foot_182 : decode (mC mX11_foot) 182 = .ok (.iconst 4, 1) := by decide +kernel
theorem dX11_foot_183 : decode (mC mX11_foot) 183 = .ok (.iload_n 1, 1) := by decide +kernel
theorem dX11_foot_184 : decode (mC mX11_foot) 184 = .ok (.imul, 1) := by decide +kernel
theorem dX11_foot_185 : decode (mC mX11_foot) 185 = .ok (.iconst 2, 1) := by decide +kernel
theorem dX11_foot_186 : decode (mC mX11_foot) 186 = .ok (.iadd, 1) := by decide +kernel
theorem dX11_foot_187 : decode (mC mX11_foot) 187 = .ok (.dup2, 1) := by decide +kernel
theorem dX11_foot_188 : decode (mC mX11_foot) 188 = .ok (.iaload, 1) := by decide +kernel
theorem dX11_foot_189 : decode (mC mX11_foot) 189 = .ok (.iconst 1, 1) := by decide +kernel
theorem dX11_foot_190 : decode (mC mX11_foot) 190 = .ok (.iadd, 1) := by decide +kernel
theorem dX11_foot_191 : decode (mC mX11_foot) 191 = .ok (.iastore, 1) := by decide +kernel
theorem dX11_foot_192 : decode (mC mX11_foot) 192 = .ok (.aload_n 0, 1) := by decide +kernel
theorem dX11_foot_193 : decode (mC mX11_foot) 193 = .ok (.getfield 53, 3) := by decide +kernel
theorem dX11_foot_196 : decode (mC mX11_foot) 196 = .ok (.iconst 4, 1) := by decide +kernel
theorem dX11_foot_197 : decode (mC mX11_foot) 197 = .ok (.iload_n 1, 1) := by decide +kernel
theorem dX11_foot_198 : decode (mC mX11_foot) 198 = .ok (.imul, 1) := by decide +kernel
theorem dX11_foot_199 : decode (mC mX11_foot) 199 = .ok (.iconst 3, 1) := by decide +kernel
theorem dX11_foot_200 : decode (mC mX11_foot) 200 = .ok (.iadd, 1) := by decide +kernel
theorem dX11_foot_201 : decode (mC mX11_foot) 201 = .ok (.dup2, 1) := by decide +kernel
theorem dX11_foot_202 : decode (mC mX11_foot) 202 = .ok (.iaload, 1) := by decide +kernel
theorem dX11_foot_203 : decode (mC mX11_foot) 203 = .ok (.aload_n 0, 1) := by decide +kernel
theorem dX11_foot_204 : decode (mC mX11_foot) 204 = .ok (.getfield 47, 3) := by decide +kernel
theorem dX11_foot_207 : decode (mC mX11_foot) 207 = .ok (.iload 8, 2) := by decide +kernel
theorem dX11_foot_209 : decode (mC mX11_foot) 209 = .ok (.iaload, 1) := by decide +kernel
theorem dX11_foot_210 : decode (mC mX11_foot) 210 = .ok (.iload_n 1, 1) := by decide +kernel
theorem dX11_foot_211 : decode (mC mX11_foot) 211 = .ok (.if_icmp .ne 7, 3) := by decide +kernel
theorem dX11_foot_214 : decode (mC mX11_foot) 214 = .ok (.iconst 0, 1) := by decide +kernel
theorem dX11_foot_215 : decode (mC mX11_foot) 215 = .ok (.goto 4, 3) := by decide +kernel
theorem dX11_foot_218 : decode (mC mX11_foot) 218 = .ok (.iconst 1, 1) := by decide +kernel
theorem dX11_foot_219 : decode (mC mX11_foot) 219 = .ok (.iadd, 1) := by decide +kernel
theorem dX11_foot_220 : decode (mC mX11_foot) 220 = .ok (.iastore, 1) := by decide +kernel
theorem dX11_foot_221 : decode (mC mX11_foot) 221 = .ok (.return_, 1) := by decide +kernel
theorem dX11_foot_222 : decode (mC mX11_foot) 222 = .ok (.aload_n 0, 1) := by decide +kernel
theorem dX11_foot_223 : decode (mC mX11_foot) 223 = .ok (.getfield 53, 3) := by decide +kernel
theorem dX11_foot_226 : decode (mC mX11_foot) 226 = .ok (.iconst 4, 1) := by decide +kernel
theorem dX11_foot_227 : decode (mC mX11_foot) 227 = .ok (.iload_n 1, 1) := by decide +kernel
theorem dX11_foot_228 : decode (mC mX11_foot) 228 = .ok (.imul, 1) := by decide +kernel
theorem dX11_foot_229 : decode (mC mX11_foot) 229 = .ok (.iconst 1, 1) := by decide +kernel
theorem dX11_foot_230 : decode (mC mX11_foot) 230 = .ok (.iadd, 1) := by decide +kernel
theorem dX11_foot_231 : decode (mC mX11_foot) 231 = .ok (.dup2, 1) := by decide +kernel
theorem dX11_foot_232 : decode (mC mX11_foot) 232 = .ok (.iaload, 1) := by decide +kernel
theorem dX11_foot_233 : decode (mC mX11_foot) 233 = .ok (.iconst 1, 1) := by decide +kernel
theorem dX11_foot_234 : decode (mC mX11_foot) 234 = .ok (.iadd, 1) := by decide +kernel
theorem dX11_foot_235 : decode (mC mX11_foot) 235 = .ok (.iastore, 1) := by decide +kernel
theorem dX11_foot_236 : decode (mC mX11_foot) 236 = .ok (.aload_n 0, 1) := by decide +kernel
theorem dX11_foot_237 : decode (mC mX11_foot) 237 = .ok (.getfield 29, 3) := by decide +kernel
theorem dX11_foot_240 : decode (mC mX11_foot) 240 = .ok (.aload_n 0, 1) := by decide +kernel
theorem dX11_foot_241 : decode (mC mX11_foot) 241 = .ok (.getfield 264, 3) := by decide +kernel
theorem dX11_foot_244 : decode (mC mX11_foot) 244 = .ok (.aload_n 0, 1) := by decide +kernel
theorem dX11_foot_245 : decode (mC mX11_foot) 245 = .ok (.getfield 23, 3) := by decide +kernel
theorem dX11_foot_248 : decode (mC mX11_foot) 248 = .ok (.bipush 100, 2) := by decide +kernel
theorem dX11_foot_250 : decode (mC mX11_foot) 250 = .ok (.iload_n 1, 1) := by decide +kernel
theorem dX11_foot_251 : decode (mC mX11_foot) 251 = .ok (.imul, 1) := by decide +kernel
theorem dX11_foot_252 : decode (mC mX11_foot) 252 = .ok (.iload_n 2, 1) := by decide +kernel
theorem dX11_foot_253 : decode (mC mX11_foot) 253 = .ok (.iadd, 1) := by decide +kernel
theorem dX11_foot_254 : decode (mC mX11_foot) 254 = .ok (.iaload, 1) := by decide +kernel
theorem dX11_foot_255 : decode (mC mX11_foot) 255 = .ok (.iastore, 1) := by decide +kernel
theorem dX11_foot_256 : decode (mC mX11_foot) 256 = .ok (.aload_n 0, 1) := by decide +kernel
theorem dX11_foot_257 : decode (mC mX11_foot) 257 = .ok (.getfield 32, 3) := by decide +kernel
theorem dX11_foot_260 : decode (mC mX11_foot) 260 = .ok (.aload_n 0, 1) := by decide +kernel
theorem dX11_foot_261 : decode (mC mX11_foot) 261 = .ok (.getfield 264, 3) := by decide +kernel
theorem dX11_foot_264 : decode (mC mX11_foot) 264 = .ok (.iload 6, 2) := by decide +kernel
theorem dX11_foot_266 : decode (mC mX11_foot) 266 = .ok (.iastore, 1) := by decide +kernel
theorem dX11_foot_267 : decode (mC mX11_foot) 267 = .ok (.aload_n 0, 1) := by decide +kernel
theorem dX11_foot_268 : decode (mC mX11_foot) 268 = .ok (.getfield 35, 3) := by decide +kernel
theorem dX11_foot_271 : decode (mC mX11_foot) 271 = .ok (.aload_n 0, 1) := by decide +kernel
theorem dX11_foot_272 : decode (mC mX11_foot) 272 = .ok (.getfield 264, 3) := by decide +kernel
theorem dX11_foot_275 : decode (mC mX11_foot) 275 = .ok (.iload 4, 2) := by decide +kernel
theorem dX11_foot_277 : decode (mC mX11_foot) 277 = .ok (.iastore, 1) := by decide +kernel
theorem dX11_foot_278 : decode (mC mX11_foot) 278 = .ok (.aload_n 0, 1) := by decide +kernel
theorem dX11_foot_279 : decode (mC mX11_foot) 279 = .ok (.getfield 38, 3) := by decide +kernel
theorem dX11_foot_282 : decode (mC mX11_foot) 282 = .ok (.aload_n 0, 1) := by decide +kernel
theorem dX11_foot_283 : decode (mC mX11_foot) 283 = .ok (.getfield 264, 3) := by decide +kernel
theorem dX11_foot_286 : decode (mC mX11_foot) 286 = .ok (.iload 5, 2) := by decide +kernel
theorem dX11_foot_288 : decode (mC mX11_foot) 288 = .ok (.iastore, 1) := by decide +kernel
theorem dX11_foot_289 : decode (mC mX11_foot) 289 = .ok (.aload_n 0, 1) := by decide +kernel
theorem dX11_foot_290 : decode (mC mX11_foot) 290 = .ok (.getfield 41, 3) := by decide +kernel
theorem dX11_foot_293 : decode (mC mX11_foot) 293 = .ok (.aload_n 0, 1) := by decide +kernel
theorem dX11_foot_294 : decode (mC mX11_foot) 294 = .ok (.getfield 264, 3) := by decide +kernel
theorem dX11_foot_297 : decode (mC mX11_foot) 297 = .ok (.iload 7, 2) := by decide +kernel
theorem dX11_foot_299 : decode (mC mX11_foot) 299 = .ok (.iastore, 1) := by decide +kernel
theorem dX11_foot_300 : decode (mC mX11_foot) 300 = .ok (.aload_n 0, 1) := by decide +kernel
theorem dX11_foot_301 : decode (mC mX11_foot) 301 = .ok (.getfield 44, 3) := by decide +kernel
theorem dX11_foot_304 : decode (mC mX11_foot) 304 = .ok (.aload_n 0, 1) := by decide +kernel
theorem dX11_foot_305 : decode (mC mX11_foot) 305 = .ok (.getfield 264, 3) := by decide +kernel
theorem dX11_foot_308 : decode (mC mX11_foot) 308 = .ok (.iload_n 2, 1) := by decide +kernel
theorem dX11_foot_309 : decode (mC mX11_foot) 309 = .ok (.iastore, 1) := by decide +kernel
theorem dX11_foot_310 : decode (mC mX11_foot) 310 = .ok (.aload_n 0, 1) := by decide +kernel
theorem dX11_foot_311 : decode (mC mX11_foot) 311 = .ok (.getfield 47, 3) := by decide +kernel
theorem dX11_foot_314 : decode (mC mX11_foot) 314 = .ok (.aload_n 0, 1) := by decide +kernel
theorem dX11_foot_315 : decode (mC mX11_foot) 315 = .ok (.getfield 264, 3) := by decide +kernel
theorem dX11_foot_318 : decode (mC mX11_foot) 318 = .ok (.iload_n 1, 1) := by decide +kernel
theorem dX11_foot_319 : decode (mC mX11_foot) 319 = .ok (.iastore, 1) := by decide +kernel
theorem dX11_foot_320 : decode (mC mX11_foot) 320 = .ok (.aload_n 0, 1) := by decide +kernel
theorem dX11_foot_321 : decode (mC mX11_foot) 321 = .ok (.getfield 50, 3) := by decide +kernel
theorem dX11_foot_324 : decode (mC mX11_foot) 324 = .ok (.aload_n 0, 1) := by decide +kernel
theorem dX11_foot_325 : decode (mC mX11_foot) 325 = .ok (.getfield 264, 3) := by decide +kernel
theorem dX11_foot_328 : decode (mC mX11_foot) 328 = .ok (.iconst 1, 1) := by decide +kernel
theorem dX11_foot_329 : decode (mC mX11_foot) 329 = .ok (.iload_n 1, 1) := by decide +kernel
theorem dX11_foot_330 : decode (mC mX11_foot) 330 = .ok (.ishl, 1) := by decide +kernel
theorem dX11_foot_331 : decode (mC mX11_foot) 331 = .ok (.iastore, 1) := by decide +kernel
theorem dX11_foot_332 : decode (mC mX11_foot) 332 = .ok (.aload_n 0, 1) := by decide +kernel
theorem dX11_foot_333 : decode (mC mX11_foot) 333 = .ok (.dup, 1) := by decide +kernel
theorem dX11_foot_334 : decode (mC mX11_foot) 334 = .ok (.getfield 264, 3) := by decide +kernel
theorem dX11_foot_337 : decode (mC mX11_foot) 337 = .ok (.iconst 1, 1) := by decide +kernel
theorem dX11_foot_338 : decode (mC mX11_foot) 338 = .ok (.iadd, 1) := by decide +kernel
theorem dX11_foot_339 : decode (mC mX11_foot) 339 = .ok (.putfield 264, 3) := by decide +kernel
theorem dX11_foot_342 : decode (mC mX11_foot) 342 = .ok (.return_, 1) := by decide +kernel
theorem dX11_till_0 : decode (mC mX11_till) 0 = .ok (.aload_n 0, 1) := by decide +kernel
theorem dX11_till_1 : decode (mC mX11_till) 1 = .ok (.invokevirtual 276, 3) := by decide +kernel
theorem dX11_till_4 : decode (mC mX11_till) 4 = .ok (.aload_n 0, 1) := by decide +kernel
theorem dX11_till_5 : decode (mC mX11_till) 5 = .ok (.iconst 0, 1) := by decide +kernel
theorem dX11_till_6 : decode (mC mX11_till) 6 = .ok (.putfield 264, 3) := by decide +kernel
theorem dX11_till_9 : decode (mC mX11_till) 9 = .ok (.iconst 0, 1) := by decide +kernel
theorem dX11_till_10 : decode (mC mX11_till) 10 = .ok (.istore_n 2, 1) := by decide +kernel
theorem dX11_till_11 : decode (mC mX11_till) 11 = .ok (.iload_n 2, 1) := by decide +kernel
theorem dX11_till_12 : decode (mC mX11_till) 12 = .ok (.bipush 24, 2) := by decide +kernel
theorem dX11_till_14 : decode (mC mX11_till) 14 = .ok (.if_icmp .ge 16, 3) := by decide +kernel
theorem dX11_till_17 : decode (mC mX11_till) 17 = .ok (.aload_n 0, 1) := by decide +kernel
theorem dX11_till_18 : decode (mC mX11_till) 18 = .ok (.getfield 53, 3) := by decide +kernel
theorem dX11_till_21 : decode (mC mX11_till) 21 = .ok (.iload_n 2, 1) := by decide +kernel
theorem dX11_till_22 : decode (mC mX11_till) 22 = .ok (.iconst 0, 1) := by decide +kernel
theorem dX11_till_23 : decode (mC mX11_till) 23 = .ok (.iastore, 1) := by decide +kernel
theorem dX11_till_24 : decode (mC mX11_till) 24 = .ok (.iinc 2 1, 3) := by decide +kernel
theorem dX11_till_27 : decode (mC mX11_till) 27 = .ok (.goto (-16), 3) := by decide +kernel
theorem dX11_till_30 : decode (mC mX11_till) 30 = .ok (.iconst 0, 1) := by decide +kernel
theorem dX11_till_31 : decode (mC mX11_till) 31 = .ok (.istore_n 2, 1) := by decide +kernel
theorem dX11_till_32 : decode (mC mX11_till) 32 = .ok (.iload_n 2, 1) := by decide +kernel
theorem dX11_till_33 : decode (mC mX11_till) 33 = .ok (.iload_n 1, 1) := by decide +kernel
theorem dX11_till_34 : decode (mC mX11_till) 34 = .ok (.if_icmp .gt 133, 3) := by decide +kernel
theorem dX11_till_37 : decode (mC mX11_till) 37 = .ok (.aload_n 0, 1) := by decide +kernel
theorem dX11_till_38 : decode (mC mX11_till) 38 = .ok (.iconst 5, 1) := by decide +kernel
theorem dX11_till_39 : decode (mC mX11_till) 39 = .ok (.iload_n 2, 1) := by decide +kernel
theorem dX11_till_40 : decode (mC mX11_till) 40 = .ok (.iadd, 1) := by decide +kernel
theorem dX11_till_41 : decode (mC mX11_till) 41 = .ok (.invokevirtual 209, 3) := by decide +kernel
theorem dX11_till_44 : decode (mC mX11_till) 44 = .ok (.iconst 1, 1) := by decide +kernel
theorem dX11_till_45 : decode (mC mX11_till) 45 = .ok (.if_icmp .eq 12, 3) := by decide +kernel
theorem dX11_till_48 : decode (mC mX11_till) 48 = .ok (.aload_n 0, 1) := by decide +kernel
theorem dX11_till_49 : decode (mC mX11_till) 49 = .ok (.getfield 20, 3) := by decide +kernel
theorem dX11_till_52 : decode (mC mX11_till) 52 = .ok (.iload_n 2, 1) := by decide +kernel
theorem dX11_till_53 : decode (mC mX11_till) 53 = .ok (.baload, 1) := by decide +kernel
theorem dX11_till_54 : decode (mC mX11_till) 54 = .ok (.ifCond .eq 8, 3) := by decide +kernel
theorem dX11_till_57 : decode (mC mX11_till) 57 = .ok (.aload_n 0, 1) := by decide +kernel
theorem dX11_till_58 : decode (mC mX11_till) 58 = .ok (.iconst 0, 1) := by decide +kernel
theorem dX11_till_59 : decode (mC mX11_till) 59 = .ok (.putfield 264, 3) := by decide +kernel
theorem dX11_till_62 : decode (mC mX11_till) 62 = .ok (.iconst 0, 1) := by decide +kernel
theorem dX11_till_63 : decode (mC mX11_till) 63 = .ok (.istore_n 3, 1) := by decide +kernel
theorem dX11_till_64 : decode (mC mX11_till) 64 = .ok (.iload_n 3, 1) := by decide +kernel
theorem dX11_till_65 : decode (mC mX11_till) 65 = .ok (.aload_n 0, 1) := by decide +kernel
theorem dX11_till_66 : decode (mC mX11_till) 66 = .ok (.invokevirtual 212, 3) := by decide +kernel
theorem dX11_till_69 : decode (mC mX11_till) 69 = .ok (.if_icmp .ge 92, 3) := by decide +kernel
theorem dX11_till_72 : decode (mC mX11_till) 72 = .ok (.aload_n 0, 1) := by decide +kernel
theorem dX11_till_73 : decode (mC mX11_till) 73 = .ok (.iload_n 3, 1) := by decide +kernel
theorem dX11_till_74 : decode (mC mX11_till) 74 = .ok (.invokevirtual 255, 3) := by decide +kernel
theorem dX11_till_77 : decode (mC mX11_till) 77 = .ok (.ifCond .ne 44, 3) := by decide +kernel
theorem dX11_till_80 : decode (mC mX11_till) 80 = .ok (.aload_n 0, 1) := by decide +kernel
theorem dX11_till_81 : decode (mC mX11_till) 81 = .ok (.iload_n 3, 1) := by decide +kernel
theorem dX11_till_82 : decode (mC mX11_till) 82 = .ok (.iconst 4, 1) := by decide +kernel
theorem dX11_till_83 : decode (mC mX11_till) 83 = .ok (.invokevirtual 236, 3) := by decide +kernel
theorem dX11_till_86 : decode (mC mX11_till) 86 = .ok (.iconst 2, 1) := by decide +kernel
theorem dX11_till_87 : decode (mC mX11_till) 87 = .ok (.if_icmp .eq 34, 3) := by decide +kernel
theorem dX11_till_90 : decode (mC mX11_till) 90 = .ok (.aload_n 0, 1) := by decide +kernel
theorem dX11_till_91 : decode (mC mX11_till) 91 = .ok (.iload_n 3, 1) := by decide +kernel
theorem dX11_till_92 : decode (mC mX11_till) 92 = .ok (.bipush 6, 2) := by decide +kernel
theorem dX11_till_94 : decode (mC mX11_till) 94 = .ok (.invokevirtual 236, 3) := by decide +kernel
theorem dX11_till_97 : decode (mC mX11_till) 97 = .ok (.iconst (-1), 1) := by decide +kernel
theorem dX11_till_98 : decode (mC mX11_till) 98 = .ok (.if_icmp .eq 23, 3) := by decide +kernel
theorem dX11_till_101 : decode (mC mX11_till) 101 = .ok (.aload_n 0, 1) := by decide +kernel
theorem dX11_till_102 : decode (mC mX11_till) 102 = .ok (.getfield 221, 3) := by decide +kernel
theorem dX11_till_105 : decode (mC mX11_till) 105 = .ok (.iconst (-1), 1) := by decide +kernel
theorem dX11_till_106 : decode (mC mX11_till) 106 = .ok (.if_icmp .eq 11, 3) := by decide +kernel
theorem dX11_till_109 : decode (mC mX11_till) 109 = .ok (.aload_n 0, 1) := by decide +kernel
theorem dX11_till_110 : decode (mC mX11_till) 110 = .ok (.getfield 221, 3) := by decide +kernel
theorem dX11_till_113 : decode (mC mX11_till) 113 = .ok (.iload_n 3, 1) := by decide +kernel
theorem dX11_till_114 : decode (mC mX11_till) 114 = .ok (.if_icmp .ne 7, 3) := by decide +kernel
theorem dX11_till_117 : decode (mC mX11_till) 117 = .ok (.iconst 1, 1) := by decide +kernel
theorem dX11_till_118 : decode (mC mX11_till) 118 = .ok (.goto 4, 3) := by decide +kernel
theorem dX11_till_121 : decode (mC mX11_till) 121 = .ok (.iconst 0, 1) := by decide +kernel
theorem dX11_till_122 : decode (mC mX11_till) 122 = .ok (.istore 4, 2) := by decide +kernel
theorem dX11_till_124 : decode (mC mX11_till) 124 = .ok (.iload 4, 2) := by decide +kernel
theorem dX11_till_126 : decode (mC mX11_till) 126 = .ok (.ifCond .eq 29, 3) := by decide +kernel
theorem dX11_till_129 : decode (mC mX11_till) 129 = .ok (.iload_n 2, 1) := by decide +kernel
theorem dX11_till_130 : decode (mC mX11_till) 130 = .ok (.aload_n 0, 1) := by decide +kernel
theorem dX11_till_131 : decode (mC mX11_till) 131 = .ok (.iload_n 3, 1) := by decide +kernel
theorem dX11_till_132 : decode (mC mX11_till) 132 = .ok (.invokevirtual 248, 3) := by decide +kernel
theorem dX11_till_135 : decode (mC mX11_till) 135 = .ok (.isub, 1) := by decide +kernel
theorem dX11_till_136 : decode (mC mX11_till) 136 = .ok (.iconst 0, 1) := by decide +kernel
theorem dX11_till_137 : decode (mC mX11_till) 137 = .ok (.aload_n 0, 1) := by decide +kernel
theorem dX11_till_138 : decode (mC mX11_till) 138 = .ok (.getfield 26, 3) := by decide +kernel
theorem dX11_till_141 : decode (mC mX11_till) 141 = .ok (.iload_n 3, 1) := by decide +kernel
theorem dX11_till_142 : decode (mC mX11_till) 142 = .ok (.iaload, 1) := by decide +kernel
theorem dX11_till_143 : decode (mC mX11_till) 143 = .ok (.invokestatic 140, 3) := by decide +kernel
theorem dX11_till_146 : decode (mC mX11_till) 146 = .ok (.ifCond .eq 9, 3) := by decide +kernel
theorem dX11_till_149 : decode (mC mX11_till) 149 = .ok (.aload_n 0, 1) := by decide +kernel
theorem dX11_till_150 : decode (mC mX11_till) 150 = .ok (.iload_n 3, 1) := by decide +kernel
theorem dX11_till_151 : decode (mC mX11_till) 151 = .ok (.iload_n 2, 1) := by decide +kernel
theorem dX11_till_152 : decode (mC mX11_till) 152 = .ok (.invokevirtual 279, 3) := by decide +kernel
theorem dX11_till_155 : decode (mC mX11_till) 155 = .ok (.iinc 3 1, 3) := by decide +kernel
theorem dX11_till_158 : decode (mC mX11_till) 158 = .ok (.goto (-94), 3) := by decide +kernel
theorem dX11_till_161 : decode (mC mX11_till) 161 = .ok (.iinc 2 1, 3) := by decide +kernel
theorem dX11_till_164 : decode (mC mX11_till) 164 = .ok (.goto (-132), 3) := by decide +kernel
theorem dX11_till_167 : decode (mC mX11_till) 167 = .ok (.return_, 1) := by decide +kernel
theorem dX11_person_0 : decode (mC mX11_person) 0 = .ok (.aload_n 0, 1) := by decide +kernel
theorem dX11_person_1 : decode (mC mX11_person) 1 = .ok (.iload_n 1, 1) := by decide +kernel
theorem dX11_person_2 : decode (mC mX11_person) 2 = .ok (.invokevirtual 215, 3) := by decide +kernel
theorem dX11_person_5 : decode (mC mX11_person) 5 = .ok (.ifCond .eq 21, 3) := by decide +kernel
theorem dX11_person_8 : decode (mC mX11_person) 8 = .ok (.aload_n 0, 1) := by decide +kernel
theorem dX11_person_9 : decode (mC mX11_person) 9 = .ok (.iload_n 2, 1) := by decide +kernel
theorem dX11_person_10 : decode (mC mX11_person) 10 = .ok (.invokevirtual 282, 3) := by decide +kernel
theorem dX11_person_13 : decode (mC mX11_person) 13 = .ok (.ifCond .eq 13, 3) := by decide +kernel
theorem dX11_person_16 : decode (mC mX11_person) 16 = .ok (.iload_n 3, 1) := by decide +kernel
theorem dX11_person_17 : decode (mC mX11_person) 17 = .ok (.iconst 0, 1) := by decide +kernel
theorem dX11_person_18 : decode (mC mX11_person) 18 = .ok (.bipush 9, 2) := by decide +kernel
theorem dX11_person_20 : decode (mC mX11_person) 20 = .ok (.invokestatic 140, 3) := by decide +kernel
theorem dX11_person_23 : decode (mC mX11_person) 23 = .ok (.ifCond .ne 6, 3) := by decide +kernel
theorem dX11_person_26 : decode (mC mX11_person) 26 = .ok (.bipush (-2), 2) := by decide +kernel
theorem dX11_person_28 : decode (mC mX11_person) 28 = .ok (.ireturn, 1) := by decide +kernel
theorem dX11_person_29 : decode (mC mX11_person) 29 = .ok (.iload_n 3, 1) := by decide +kernel
theorem dX11_person_30 : decode (mC mX11_person) 30 = .ok (.bipush 9, 2) := by decide +kernel
theorem dX11_person_32 : decode (mC mX11_person) 32 = .ok (.if_icmp .ge 10, 3) := by decide +kernel
theorem dX11_person_35 : decode (mC mX11_person) 35 = .ok (.aload_n 0, 1) := by decide +kernel
theorem dX11_person_36 : decode (mC mX11_person) 36 = .ok (.iload_n 2, 1) := by decide +kernel
theorem dX11_person_37 : decode (mC mX11_person) 37 = .ok (.iload_n 3, 1) := by decide +kernel
theorem dX11_person_38 : decode (mC mX11_person) 38 = .ok (.invokevirtual 236, 3) := by decide +kernel
theorem dX11_person_41 : decode (mC mX11_person) 41 = .ok (.ireturn, 1) := by decide +kernel
theorem dX11_person_42 : decode (mC mX11_person) 42 = .ok (.aload_n 0, 1) := by decide +kernel
theorem dX11_person_43 : decode (mC mX11_person) 43 = .ok (.invokevirtual 276, 3) := by decide +kernel
theorem dX11_person_46 : decode (mC mX11_person) 46 = .ok (.aload_n 0, 1) := by decide +kernel
theorem dX11_person_47 : decode (mC mX11_person) 47 = .ok (.getfield 26, 3) := by decide +kernel
theorem dX11_person_50 : decode (mC mX11_person) 50 = .ok (.iload_n 2, 1) := by decide +kernel
theorem dX11_person_51 : decode (mC mX11_person) 51 = .ok (.iaload, 1) := by decide +kernel
theorem dX11_person_52 : decode (mC mX11_person) 52 = .ok (.ireturn, 1) := by decide +kernel
theorem dX11_isMinute_0 : decode (mC mX11_isMinute) 0 = .ok (.iload_n 1, 1) := by decide +kernel
theorem dX11_isMinute_1 : decode (mC mX11_isMinute) 1 = .ok (.iconst 0, 1) := by decide +kernel
theorem dX11_isMinute_2 : decode (mC mX11_isMinute) 2 = .ok (.bipush 99, 2) := by decide +kernel
theorem dX11_isMinute_4 : decode (mC mX11_isMinute) 4 = .ok (.invokestatic 140, 3) := by decide +kernel
theorem dX11_isMinute_7 : decode (mC mX11_isMinute) 7 = .ok (.ireturn, 1) := by decide +kernel
theorem dX11_where_0 : decode (mC mX11_where) 0 = .ok (.aload_n 0, 1) := by decide +kernel
theorem dX11_where_1 : decode (mC mX11_where) 1 = .ok (.iload_n 1, 1) := by decide +kernel
theorem dX11_where_2 : decode (mC mX11_where) 2 = .ok (.invokevirtual 215, 3) := by decide +kernel
theorem dX11_where_5 : decode (mC mX11_where) 5 = .ok (.ifCond .eq 19, 3) := by decide +kernel
theorem dX11_where_8 : decode (mC mX11_where) 8 = .ok (.aload_n 0, 1) := by decide +kernel
theorem dX11_where_9 : decode (mC mX11_where) 9 = .ok (.iload_n 2, 1) := by decide +kernel
theorem dX11_where_10 : decode (mC mX11_where) 10 = .ok (.invokevirtual 282, 3) := by decide +kernel
theorem dX11_where_13 : decode (mC mX11_where) 13 = .ok (.ifCond .eq 11, 3) := by decide +kernel
theorem dX11_where_16 : decode (mC mX11_where) 16 = .ok (.aload_n 0, 1) := by decide +kernel
theorem dX11_where_17 : decode (mC mX11_where) 17 = .ok (.iload_n 3, 1) := by decide +kernel
theorem dX11_where_18 : decode (mC mX11_where) 18 = .ok (.invokevirtual 285, 3) := by decide +kernel
theorem dX11_where_21 : decode (mC mX11_where) 21 = .ok (.ifCond .ne 6, 3) := by decide +kernel
theorem dX11_where_24 : decode (mC mX11_where) 24 = .ok (.bipush (-2), 2) := by decide +kernel
theorem dX11_where_26 : decode (mC mX11_where) 26 = .ok (.ireturn, 1) := by decide +kernel
theorem dX11_where_27 : decode (mC mX11_where) 27 = .ok (.aload_n 0, 1) := by decide +kernel
theorem dX11_where_28 : decode (mC mX11_where) 28 = .ok (.invokevirtual 276, 3) := by decide +kernel
theorem dX11_where_31 : decode (mC mX11_where) 31 = .ok (.aload_n 0, 1) := by decide +kernel
theorem dX11_where_32 : decode (mC mX11_where) 32 = .ok (.getfield 23, 3) := by decide +kernel
theorem dX11_where_35 : decode (mC mX11_where) 35 = .ok (.bipush 100, 2) := by decide +kernel
theorem dX11_where_37 : decode (mC mX11_where) 37 = .ok (.iload_n 2, 1) := by decide +kernel
theorem dX11_where_38 : decode (mC mX11_where) 38 = .ok (.imul, 1) := by decide +kernel
theorem dX11_where_39 : decode (mC mX11_where) 39 = .ok (.iload_n 3, 1) := by decide +kernel
theorem dX11_where_40 : decode (mC mX11_where) 40 = .ok (.iadd, 1) := by decide +kernel
theorem dX11_where_41 : decode (mC mX11_where) 41 = .ok (.iaload, 1) := by decide +kernel
theorem dX11_where_42 : decode (mC mX11_where) 42 = .ok (.ireturn, 1) := by decide +kernel
theorem dX11_over_0 : decode (mC mX11_over) 0 = .ok (.iconst 0, 1) := by decide +kernel
theorem dX11_over_1 : decode (mC mX11_over) 1 = .ok (.istore_n 2, 1) := by decide +kernel
theorem dX11_over_2 : decode (mC mX11_over) 2 = .ok (.iconst 0, 1) := by decide +kernel
theorem dX11_over_3 : decode (mC mX11_over) 3 = .ok (.istore_n 3, 1) := by decide +kernel
theorem dX11_over_4 : decode (mC mX11_over) 4 = .ok (.iload_n 3, 1) := by decide +kernel
theorem dX11_over_5 : decode (mC mX11_over) 5 = .ok (.iload_n 1, 1) := by decide +kernel
theorem dX11_over_6 : decode (mC mX11_over) 6 = .ok (.if_icmp .ge 32, 3) := by decide +kernel
theorem dX11_over_9 : decode (mC mX11_over) 9 = .ok (.iload_n 2, 1) := by decide +kernel
theorem dX11_over_10 : decode (mC mX11_over) 10 = .ok (.aload_n 0, 1) := by decide +kernel
theorem dX11_over_11 : decode (mC mX11_over) 11 = .ok (.getfield 29, 3) := by decide +kernel
theorem dX11_over_14 : decode (mC mX11_over) 14 = .ok (.iload_n 3, 1) := by decide +kernel
theorem dX11_over_15 : decode (mC mX11_over) 15 = .ok (.iaload, 1) := by decide +kernel
theorem dX11_over_16 : decode (mC mX11_over) 16 = .ok (.aload_n 0, 1) := by decide +kernel
theorem dX11_over_17 : decode (mC mX11_over) 17 = .ok (.getfield 29, 3) := by decide +kernel
theorem dX11_over_20 : decode (mC mX11_over) 20 = .ok (.iload_n 1, 1) := by decide +kernel
theorem dX11_over_21 : decode (mC mX11_over) 21 = .ok (.iaload, 1) := by decide +kernel
theorem dX11_over_22 : decode (mC mX11_over) 22 = .ok (.if_icmp .ne 7, 3) := by decide +kernel
theorem dX11_over_25 : decode (mC mX11_over) 25 = .ok (.iconst 1, 1) := by decide +kernel
theorem dX11_over_26 : decode (mC mX11_over) 26 = .ok (.goto 4, 3) := by decide +kernel
theorem dX11_over_29 : decode (mC mX11_over) 29 = .ok (.iconst 0, 1) := by decide +kernel
theorem dX11_over_30 : decode (mC mX11_over) 30 = .ok (.iadd, 1) := by decide +kernel
theorem dX11_over_31 : decode (mC mX11_over) 31 = .ok (.istore_n 2, 1) := by decide +kernel
theorem dX11_over_32 : decode (mC mX11_over) 32 = .ok (.iinc 3 1, 3) := by decide +kernel
theorem dX11_over_35 : decode (mC mX11_over) 35 = .ok (.goto (-31), 3) := by decide +kernel
theorem dX11_over_38 : decode (mC mX11_over) 38 = .ok (.iload_n 2, 1) := by decide +kernel
theorem dX11_over_39 : decode (mC mX11_over) 39 = .ok (.ireturn, 1) := by decide +kernel
theorem dX11_print_0 : decode (mC mX11_print) 0 = .ok (.aload_n 0, 1) := by decide +kernel
theorem dX11_print_1 : decode (mC mX11_print) 1 = .ok (.iload_n 1, 1) := by decide +kernel
theorem dX11_print_2 : decode (mC mX11_print) 2 = .ok (.invokevirtual 215, 3) := by decide +kernel
theorem dX11_print_5 : decode (mC mX11_print) 5 = .ok (.ifCond .eq 11, 3) := by decide +kernel
theorem dX11_print_8 : decode (mC mX11_print) 8 = .ok (.aload_n 0, 1) := by decide +kernel
theorem dX11_print_9 : decode (mC mX11_print) 9 = .ok (.iload_n 2, 1) := by decide +kernel
theorem dX11_print_10 : decode (mC mX11_print) 10 = .ok (.invokevirtual 285, 3) := by decide +kernel
theorem dX11_print_13 : decode (mC mX11_print) 13 = .ok (.ifCond .ne 6, 3) := by decide +kernel
theorem dX11_print_16 : decode (mC mX11_print) 16 = .ok (.bipush (-2), 2) := by decide +kernel
theorem dX11_print_18 : decode (mC mX11_print) 18 = .ok (.ireturn, 1) := by decide +kernel
theorem dX11_print_19 : decode (mC mX11_print) 19 = .ok (.aload_n 0, 1) := by decide +kernel
theorem dX11_print_20 : decode (mC mX11_print) 20 = .ok (.iload_n 2, 1) := by decide +kernel
theorem dX11_print_21 : decode (mC mX11_print) 21 = .ok (.invokevirtual 288, 3) := by decide +kernel
theorem dX11_print_24 : decode (mC mX11_print) 24 = .ok (.iload_n 3, 1) := by decide +kernel
theorem dX11_print_25 : decode (mC mX11_print) 25 = .ok (.iconst (-1), 1) := by decide +kernel
theorem dX11_print_26 : decode (mC mX11_print) 26 = .ok (.if_icmp .ne 18, 3) := by decide +kernel
theorem dX11_print_29 : decode (mC mX11_print) 29 = .ok (.iload 4, 2) := by decide +kernel
theorem dX11_print_31 : decode (mC mX11_print) 31 = .ok (.ifCond .ne 10, 3) := by decide +kernel
theorem dX11_print_34 : decode (mC mX11_print) 34 = .ok (.aload_n 0, 1) := by decide +kernel
theorem dX11_print_35 : decode (mC mX11_print) 35 = .ok (.getfield 264, 3) := by decide +kernel
theorem dX11_print_38 : decode (mC mX11_print) 38 = .ok (.goto 5, 3) := by decide +kernel
theorem dX11_print_41 : decode (mC mX11_print) 41 = .ok (.bipush (-2), 2) := by decide +kernel
theorem dX11_print_43 : decode (mC mX11_print) 43 = .ok (.ireturn, 1) := by decide +kernel
theorem dX11_print_44 : decode (mC mX11_print) 44 = .ok (.iload_n 3, 1) := by decide +kernel
theorem dX11_print_45 : decode (mC mX11_print) 45 = .ok (.iconst 0, 1) := by decide +kernel
theorem dX11_print_46 : decode (mC mX11_print) 46 = .ok (.aload_n 0, 1) := by decide +kernel
theorem dX11_print_47 : decode (mC mX11_print) 47 = .ok (.getfield 264, 3) := by decide +kernel
theorem dX11_print_50 : decode (mC mX11_print) 50 = .ok (.iconst 1, 1) := by decide +kernel
theorem dX11_print_51 : decode (mC mX11_print) 51 = .ok (.isub, 1) := by decide +kernel
theorem dX11_print_52 : decode (mC mX11_print) 52 = .ok (.invokestatic 140, 3) := by decide +kernel
theorem dX11_print_55 : decode (mC mX11_print) 55 = .ok (.ifCond .ne 6, 3) := by decide +kernel
theorem dX11_print_58 : decode (mC mX11_print) 58 = .ok (.bipush (-2), 2) := by decide +kernel
theorem dX11_print_60 : decode (mC mX11_print) 60 = .ok (.ireturn, 1) := by decide +kernel
theorem dX11_print_61 : decode (mC mX11_print) 61 = .ok (.iload 4, 2) := by decide +kernel
theorem dX11_print_63 : decode (mC mX11_print) 63 = .ok (.tableswitch 111 0 8 #[49, 56, 63, 70, 77, 84, 91, 98, 105], 49) := by decide +kernel
theorem dX11_print_112 : decode (mC mX11_print) 112 = .ok (.aload_n 0, 1) := by decide +kernel
theorem dX11_print_113 : decode (mC mX11_print) 113 = .ok (.getfield 29, 3) := by decide +kernel
theorem dX11_print_116 : decode (mC mX11_print) 116 = .ok (.iload_n 3, 1) := by decide +kernel
theorem dX11_print_117 : decode (mC mX11_print) 117 = .ok (.iaload, 1) := by decide +kernel
theorem dX11_print_118 : decode (mC mX11_print) 118 = .ok (.ireturn, 1) := by decide +kernel
theorem dX11_print_119 : decode (mC mX11_print) 119 = .ok (.aload_n 0, 1) := by decide +kernel
theorem dX11_print_120 : decode (mC mX11_print) 120 = .ok (.getfield 32, 3) := by decide +kernel
theorem dX11_print_123 : decode (mC mX11_print) 123 = .ok (.iload_n 3, 1) := by decide +kernel
theorem dX11_print_124 : decode (mC mX11_print) 124 = .ok (.iaload, 1) := by decide +kernel
theorem dX11_print_125 : decode (mC mX11_print) 125 = .ok (.ireturn, 1) := by decide +kernel
theorem dX11_print_126 : decode (mC mX11_print) 126 = .ok (.aload_n 0, 1) := by decide +kernel
theorem dX11_print_127 : decode (mC mX11_print) 127 = .ok (.getfield 35, 3) := by decide +kernel
theorem dX11_print_130 : decode (mC mX11_print) 130 = .ok (.iload_n 3, 1) := by decide +kernel
theorem dX11_print_131 : decode (mC mX11_print) 131 = .ok (.iaload, 1) := by decide +kernel
theorem dX11_print_132 : decode (mC mX11_print) 132 = .ok (.ireturn, 1) := by decide +kernel
theorem dX11_print_133 : decode (mC mX11_print) 133 = .ok (.aload_n 0, 1) := by decide +kernel
theorem dX11_print_134 : decode (mC mX11_print) 134 = .ok (.getfield 38, 3) := by decide +kernel
theorem dX11_print_137 : decode (mC mX11_print) 137 = .ok (.iload_n 3, 1) := by decide +kernel
theorem dX11_print_138 : decode (mC mX11_print) 138 = .ok (.iaload, 1) := by decide +kernel
theorem dX11_print_139 : decode (mC mX11_print) 139 = .ok (.ireturn, 1) := by decide +kernel
theorem dX11_print_140 : decode (mC mX11_print) 140 = .ok (.aload_n 0, 1) := by decide +kernel
theorem dX11_print_141 : decode (mC mX11_print) 141 = .ok (.getfield 41, 3) := by decide +kernel
theorem dX11_print_144 : decode (mC mX11_print) 144 = .ok (.iload_n 3, 1) := by decide +kernel
theorem dX11_print_145 : decode (mC mX11_print) 145 = .ok (.iaload, 1) := by decide +kernel
theorem dX11_print_146 : decode (mC mX11_print) 146 = .ok (.ireturn, 1) := by decide +kernel
theorem dX11_print_147 : decode (mC mX11_print) 147 = .ok (.aload_n 0, 1) := by decide +kernel
theorem dX11_print_148 : decode (mC mX11_print) 148 = .ok (.getfield 44, 3) := by decide +kernel
theorem dX11_print_151 : decode (mC mX11_print) 151 = .ok (.iload_n 3, 1) := by decide +kernel
theorem dX11_print_152 : decode (mC mX11_print) 152 = .ok (.iaload, 1) := by decide +kernel
theorem dX11_print_153 : decode (mC mX11_print) 153 = .ok (.ireturn, 1) := by decide +kernel
theorem dX11_print_154 : decode (mC mX11_print) 154 = .ok (.aload_n 0, 1) := by decide +kernel
theorem dX11_print_155 : decode (mC mX11_print) 155 = .ok (.getfield 47, 3) := by decide +kernel
theorem dX11_print_158 : decode (mC mX11_print) 158 = .ok (.iload_n 3, 1) := by decide +kernel
theorem dX11_print_159 : decode (mC mX11_print) 159 = .ok (.iaload, 1) := by decide +kernel
theorem dX11_print_160 : decode (mC mX11_print) 160 = .ok (.ireturn, 1) := by decide +kernel
theorem dX11_print_161 : decode (mC mX11_print) 161 = .ok (.aload_n 0, 1) := by decide +kernel
theorem dX11_print_162 : decode (mC mX11_print) 162 = .ok (.getfield 50, 3) := by decide +kernel
theorem dX11_print_165 : decode (mC mX11_print) 165 = .ok (.iload_n 3, 1) := by decide +kernel
theorem dX11_print_166 : decode (mC mX11_print) 166 = .ok (.iaload, 1) := by decide +kernel
theorem dX11_print_167 : decode (mC mX11_print) 167 = .ok (.ireturn, 1) := by decide +kernel
theorem dX11_print_168 : decode (mC mX11_print) 168 = .ok (.aload_n 0, 1) := by decide +kernel
theorem dX11_print_169 : decode (mC mX11_print) 169 = .ok (.iload_n 3, 1) := by decide +kernel
theorem dX11_print_170 : decode (mC mX11_print) 170 = .ok (.invokevirtual 291, 3) := by decide +kernel
theorem dX11_print_173 : decode (mC mX11_print) 173 = .ok (.ireturn, 1) := by decide +kernel
theorem dX11_print_174 : decode (mC mX11_print) 174 = .ok (.bipush (-2), 2) := by decide +kernel
theorem dX11_print_176 : decode (mC mX11_print) 176 = .ok (.ireturn, 1) := by decide +kernel
theorem dX11_isCell_0 : decode (mC mX11_isCell) 0 = .ok (.iload_n 1, 1) := by decide +kernel
theorem dX11_isCell_1 : decode (mC mX11_isCell) 1 = .ok (.iconst 0, 1) := by decide +kernel
theorem dX11_isCell_2 : decode (mC mX11_isCell) 2 = .ok (.aload_n 0, 1) := by decide +kernel
theorem dX11_isCell_3 : decode (mC mX11_isCell) 3 = .ok (.invokevirtual 294, 3) := by decide +kernel
theorem dX11_isCell_6 : decode (mC mX11_isCell) 6 = .ok (.iconst 1, 1) := by decide +kernel
theorem dX11_isCell_7 : decode (mC mX11_isCell) 7 = .ok (.isub, 1) := by decide +kernel
theorem dX11_isCell_8 : decode (mC mX11_isCell) 8 = .ok (.invokestatic 140, 3) := by decide +kernel
theorem dX11_isCell_11 : decode (mC mX11_isCell) 11 = .ok (.ireturn, 1) := by decide +kernel
theorem dX11_usersOf_0 : decode (mC mX11_usersOf) 0 = .ok (.iconst 0, 1) := by decide +kernel
theorem dX11_usersOf_1 : decode (mC mX11_usersOf) 1 = .ok (.istore_n 2, 1) := by decide +kernel
theorem dX11_usersOf_2 : decode (mC mX11_usersOf) 2 = .ok (.iconst 0, 1) := by decide +kernel
theorem dX11_usersOf_3 : decode (mC mX11_usersOf) 3 = .ok (.istore_n 3, 1) := by decide +kernel
theorem dX11_usersOf_4 : decode (mC mX11_usersOf) 4 = .ok (.iload_n 3, 1) := by decide +kernel
theorem dX11_usersOf_5 : decode (mC mX11_usersOf) 5 = .ok (.aload_n 0, 1) := by decide +kernel
theorem dX11_usersOf_6 : decode (mC mX11_usersOf) 6 = .ok (.getfield 264, 3) := by decide +kernel
theorem dX11_usersOf_9 : decode (mC mX11_usersOf) 9 = .ok (.if_icmp .ge 32, 3) := by decide +kernel
theorem dX11_usersOf_12 : decode (mC mX11_usersOf) 12 = .ok (.iload_n 2, 1) := by decide +kernel
theorem dX11_usersOf_13 : decode (mC mX11_usersOf) 13 = .ok (.aload_n 0, 1) := by decide +kernel
theorem dX11_usersOf_14 : decode (mC mX11_usersOf) 14 = .ok (.getfield 29, 3) := by decide +kernel
theorem dX11_usersOf_17 : decode (mC mX11_usersOf) 17 = .ok (.iload_n 3, 1) := by decide +kernel
theorem dX11_usersOf_18 : decode (mC mX11_usersOf) 18 = .ok (.iaload, 1) := by decide +kernel
theorem dX11_usersOf_19 : decode (mC mX11_usersOf) 19 = .ok (.iload_n 1, 1) := by decide +kernel
theorem dX11_usersOf_20 : decode (mC mX11_usersOf) 20 = .ok (.if_icmp .ne 12, 3) := by decide +kernel
theorem dX11_usersOf_23 : decode (mC mX11_usersOf) 23 = .ok (.aload_n 0, 1) := by decide +kernel
theorem dX11_usersOf_24 : decode (mC mX11_usersOf) 24 = .ok (.getfield 50, 3) := by decide +kernel
theorem dX11_usersOf_27 : decode (mC mX11_usersOf) 27 = .ok (.iload_n 3, 1) := by decide +kernel
theorem dX11_usersOf_28 : decode (mC mX11_usersOf) 28 = .ok (.iaload, 1) := by decide +kernel
theorem dX11_usersOf_29 : decode (mC mX11_usersOf) 29 = .ok (.goto 4, 3) := by decide +kernel
theorem dX11_usersOf_32 : decode (mC mX11_usersOf) 32 = .ok (.iconst 0, 1) := by decide +kernel
theorem dX11_usersOf_33 : decode (mC mX11_usersOf) 33 = .ok (.ior, 1) := by decide +kernel
theorem dX11_usersOf_34 : decode (mC mX11_usersOf) 34 = .ok (.istore_n 2, 1) := by decide +kernel
theorem dX11_usersOf_35 : decode (mC mX11_usersOf) 35 = .ok (.iinc 3 1, 3) := by decide +kernel
theorem dX11_usersOf_38 : decode (mC mX11_usersOf) 38 = .ok (.goto (-34), 3) := by decide +kernel
theorem dX11_usersOf_41 : decode (mC mX11_usersOf) 41 = .ok (.iload_n 2, 1) := by decide +kernel
theorem dX11_usersOf_42 : decode (mC mX11_usersOf) 42 = .ok (.ireturn, 1) := by decide +kernel
theorem dX11_cell_0 : decode (mC mX11_cell) 0 = .ok (.aload_n 0, 1) := by decide +kernel
theorem dX11_cell_1 : decode (mC mX11_cell) 1 = .ok (.iload_n 1, 1) := by decide +kernel
theorem dX11_cell_2 : decode (mC mX11_cell) 2 = .ok (.invokevirtual 215, 3) := by decide +kernel
theorem dX11_cell_5 : decode (mC mX11_cell) 5 = .ok (.ifCond .eq 29, 3) := by decide +kernel
theorem dX11_cell_8 : decode (mC mX11_cell) 8 = .ok (.aload_n 0, 1) := by decide +kernel
theorem dX11_cell_9 : decode (mC mX11_cell) 9 = .ok (.iload_n 2, 1) := by decide +kernel
theorem dX11_cell_10 : decode (mC mX11_cell) 10 = .ok (.invokevirtual 285, 3) := by decide +kernel
theorem dX11_cell_13 : decode (mC mX11_cell) 13 = .ok (.ifCond .eq 21, 3) := by decide +kernel
theorem dX11_cell_16 : decode (mC mX11_cell) 16 = .ok (.aload_n 0, 1) := by decide +kernel
theorem dX11_cell_17 : decode (mC mX11_cell) 17 = .ok (.iload_n 3, 1) := by decide +kernel
theorem dX11_cell_18 : decode (mC mX11_cell) 18 = .ok (.invokevirtual 297, 3) := by decide +kernel
theorem dX11_cell_21 : decode (mC mX11_cell) 21 = .ok (.ifCond .eq 13, 3) := by decide +kernel
theorem dX11_cell_24 : decode (mC mX11_cell) 24 = .ok (.iload 4, 2) := by decide +kernel
theorem dX11_cell_26 : decode (mC mX11_cell) 26 = .ok (.iconst 0, 1) := by decide +kernel
theorem dX11_cell_27 : decode (mC mX11_cell) 27 = .ok (.iconst 3, 1) := by decide +kernel
theorem dX11_cell_28 : decode (mC mX11_cell) 28 = .ok (.invokestatic 140, 3) := by decide +kernel
theorem dX11_cell_31 : decode (mC mX11_cell) 31 = .ok (.ifCond .ne 6, 3) := by decide +kernel
theorem dX11_cell_34 : decode (mC mX11_cell) 34 = .ok (.bipush (-2), 2) := by decide +kernel
theorem dX11_cell_36 : decode (mC mX11_cell) 36 = .ok (.ireturn, 1) := by decide +kernel
theorem dX11_cell_37 : decode (mC mX11_cell) 37 = .ok (.aload_n 0, 1) := by decide +kernel
theorem dX11_cell_38 : decode (mC mX11_cell) 38 = .ok (.iload_n 2, 1) := by decide +kernel
theorem dX11_cell_39 : decode (mC mX11_cell) 39 = .ok (.invokevirtual 288, 3) := by decide +kernel
theorem dX11_cell_42 : decode (mC mX11_cell) 42 = .ok (.iconst 0, 1) := by decide +kernel
theorem dX11_cell_43 : decode (mC mX11_cell) 43 = .ok (.istore 5, 2) := by decide +kernel
theorem dX11_cell_45 : decode (mC mX11_cell) 45 = .ok (.iconst 0, 1) := by decide +kernel
theorem dX11_cell_46 : decode (mC mX11_cell) 46 = .ok (.istore 6, 2) := by decide +kernel
theorem dX11_cell_48 : decode (mC mX11_cell) 48 = .ok (.iconst 0, 1) := by decide +kernel
theorem dX11_cell_49 : decode (mC mX11_cell) 49 = .ok (.istore 7, 2) := by decide +kernel
theorem dX11_cell_51 : decode (mC mX11_cell) 51 = .ok (.iload 7, 2) := by decide +kernel
theorem dX11_cell_53 : decode (mC mX11_cell) 53 = .ok (.aload_n 0, 1) := by decide +kernel
theorem dX11_cell_54 : decode (mC mX11_cell) 54 = .ok (.getfield 264, 3) := by decide +kernel
theorem dX11_cell_57 : decode (mC mX11_cell) 57 = .ok (.if_icmp .ge 57, 3) := by decide +kernel
theorem dX11_cell_60 : decode (mC mX11_cell) 60 = .ok (.iload 5, 2) := by decide +kernel
theorem dX11_cell_62 : decode (mC mX11_cell) 62 = .ok (.aload_n 0, 1) := by decide +kernel
theorem dX11_cell_63 : decode (mC mX11_cell) 63 = .ok (.getfield 29, 3) := by decide +kernel
theorem dX11_cell_66 : decode (mC mX11_cell) 66 = .ok (.iload 7, 2) := by decide +kernel
theorem dX11_cell_68 : decode (mC mX11_cell) 68 = .ok (.iaload, 1) := by decide +kernel
theorem dX11_cell_69 : decode (mC mX11_cell) 69 = .ok (.iload_n 3, 1) := by decide +kernel
theorem dX11_cell_70 : decode (mC mX11_cell) 70 = .ok (.if_icmp .ne 7, 3) := by decide +kernel
theorem dX11_cell_73 : decode (mC mX11_cell) 73 = .ok (.iconst 1, 1) := by decide +kernel
theorem dX11_cell_74 : decode (mC mX11_cell) 74 = .ok (.goto 4, 3) := by decide +kernel
theorem dX11_cell_77 : decode (mC mX11_cell) 77 = .ok (.iconst 0, 1) := by decide +kernel
theorem dX11_cell_78 : decode (mC mX11_cell) 78 = .ok (.iadd, 1) := by decide +kernel
theorem dX11_cell_79 : decode (mC mX11_cell) 79 = .ok (.istore 5, 2) := by decide +kernel
theorem dX11_cell_81 : decode (mC mX11_cell) 81 = .ok (.iload 6, 2) := by decide +kernel
theorem dX11_cell_83 : decode (mC mX11_cell) 83 = .ok (.aload_n 0, 1) := by decide +kernel
theorem dX11_cell_84 : decode (mC mX11_cell) 84 = .ok (.getfield 29, 3) := by decide +kernel
theorem dX11_cell_87 : decode (mC mX11_cell) 87 = .ok (.iload 7, 2) := by decide +kernel
theorem dX11_cell_89 : decode (mC mX11_cell) 89 = .ok (.iaload, 1) := by decide +kernel
theorem dX11_cell_90 : decode (mC mX11_cell) 90 = .ok (.iload_n 3, 1) := by decide +kernel
theorem dX11_cell_91 : decode (mC mX11_cell) 91 = .ok (.if_icmp .ne 13, 3) := by decide +kernel
theorem dX11_cell_94 : decode (mC mX11_cell) 94 = .ok (.aload_n 0, 1) := by decide +kernel
theorem dX11_cell_95 : decode (mC mX11_cell) 95 = .ok (.getfield 41, 3) := by decide +kernel
theorem dX11_cell_98 : decode (mC mX11_cell) 98 = .ok (.iload 7, 2) := by decide +kernel
theorem dX11_cell_100 : decode (mC mX11_cell) 100 = .ok (.iaload, 1) := by decide +kernel
theorem dX11_cell_101 : decode (mC mX11_cell) 101 = .ok (.goto 4, 3) := by decide +kernel
theorem dX11_cell_104 : decode (mC mX11_cell) 104 = .ok (.iconst 0, 1) := by decide +kernel
theorem dX11_cell_105 : decode (mC mX11_cell) 105 = .ok (.iadd, 1) := by decide +kernel
theorem dX11_cell_106 : decode (mC mX11_cell) 106 = .ok (.istore 6, 2) := by decide +kernel
theorem dX11_cell_108 : decode (mC mX11_cell) 108 = .ok (.iinc 7 1, 3) := by decide +kernel
theorem dX11_cell_111 : decode (mC mX11_cell) 111 = .ok (.goto (-60), 3) := by decide +kernel
theorem dX11_cell_114 : decode (mC mX11_cell) 114 = .ok (.iload 4, 2) := by decide +kernel
theorem dX11_cell_116 : decode (mC mX11_cell) 116 = .ok (.ifCond .ne 8, 3) := by decide +kernel
theorem dX11_cell_119 : decode (mC mX11_cell) 119 = .ok (.iload 5, 2) := by decide +kernel
theorem dX11_cell_121 : decode (mC mX11_cell) 121 = .ok (.goto 33, 3) := by decide +kernel
theorem dX11_cell_124 : decode (mC mX11_cell) 124 = .ok (.iload 4, 2) := by decide +kernel
theorem dX11_cell_126 : decode (mC mX11_cell) 126 = .ok (.iconst 1, 1) := by decide +kernel
theorem dX11_cell_127 : decode (mC mX11_cell) 127 = .ok (.if_icmp .ne 11, 3) := by decide +kernel
theorem dX11_cell_130 : decode (mC mX11_cell) 130 = .ok (.aload_n 0, 1) := by decide +kernel
theorem dX11_cell_131 : decode (mC mX11_cell) 131 = .ok (.iload_n 3, 1) := by decide +kernel
theorem dX11_cell_132 : decode (mC mX11_cell) 132 = .ok (.invokevirtual 273, 3) := by decide +kernel
theorem dX11_cell_135 : decode (mC mX11_cell) 135 = .ok (.goto 19, 3) := by decide +kernel
theorem dX11_cell_138 : decode (mC mX11_cell) 138 = .ok (.iload 4, 2) := by decide +kernel
theorem dX11_cell_140 : decode (mC mX11_cell) 140 = .ok (.iconst 2, 1) := by decide +kernel
theorem dX11_cell_141 : decode (mC mX11_cell) 141 = .ok (.if_icmp .ne 8, 3) := by decide +kernel
theorem dX11_cell_144 : decode (mC mX11_cell) 144 = .ok (.iload 6, 2) := by decide +kernel
theorem dX11_cell_146 : decode (mC mX11_cell) 146 = .ok (.goto 8, 3) := by decide +kernel
theorem dX11_cell_149 : decode (mC mX11_cell) 149 = .ok (.aload_n 0, 1) := by decide +kernel
theorem dX11_cell_150 : decode (mC mX11_cell) 150 = .ok (.iload_n 3, 1) := by decide +kernel
theorem dX11_cell_151 : decode (mC mX11_cell) 151 = .ok (.invokevirtual 300, 3) := by decide +kernel
theorem dX11_cell_154 : decode (mC mX11_cell) 154 = .ok (.ireturn, 1) := by decide +kernel
theorem dX11_gait_0 : decode (mC mX11_gait) 0 = .ok (.aload_n 0, 1) := by decide +kernel
theorem dX11_gait_1 : decode (mC mX11_gait) 1 = .ok (.iload_n 1, 1) := by decide +kernel
theorem dX11_gait_2 : decode (mC mX11_gait) 2 = .ok (.invokevirtual 215, 3) := by decide +kernel
theorem dX11_gait_5 : decode (mC mX11_gait) 5 = .ok (.ifCond .eq 20, 3) := by decide +kernel
theorem dX11_gait_8 : decode (mC mX11_gait) 8 = .ok (.aload_n 0, 1) := by decide +kernel
theorem dX11_gait_9 : decode (mC mX11_gait) 9 = .ok (.iload_n 2, 1) := by decide +kernel
theorem dX11_gait_10 : decode (mC mX11_gait) 10 = .ok (.invokevirtual 282, 3) := by decide +kernel
theorem dX11_gait_13 : decode (mC mX11_gait) 13 = .ok (.ifCond .eq 12, 3) := by decide +kernel
theorem dX11_gait_16 : decode (mC mX11_gait) 16 = .ok (.iload_n 3, 1) := by decide +kernel
theorem dX11_gait_17 : decode (mC mX11_gait) 17 = .ok (.iconst 0, 1) := by decide +kernel
theorem dX11_gait_18 : decode (mC mX11_gait) 18 = .ok (.iconst 3, 1) := by decide +kernel
theorem dX11_gait_19 : decode (mC mX11_gait) 19 = .ok (.invokestatic 140, 3) := by decide +kernel
theorem dX11_gait_22 : decode (mC mX11_gait) 22 = .ok (.ifCond .ne 6, 3) := by decide +kernel
theorem dX11_gait_25 : decode (mC mX11_gait) 25 = .ok (.bipush (-2), 2) := by decide +kernel
theorem dX11_gait_27 : decode (mC mX11_gait) 27 = .ok (.ireturn, 1) := by decide +kernel
theorem dX11_gait_28 : decode (mC mX11_gait) 28 = .ok (.aload_n 0, 1) := by decide +kernel
theorem dX11_gait_29 : decode (mC mX11_gait) 29 = .ok (.bipush 99, 2) := by decide +kernel
theorem dX11_gait_31 : decode (mC mX11_gait) 31 = .ok (.invokevirtual 288, 3) := by decide +kernel
theorem dX11_gait_34 : decode (mC mX11_gait) 34 = .ok (.aload_n 0, 1) := by decide +kernel
theorem dX11_gait_35 : decode (mC mX11_gait) 35 = .ok (.getfield 53, 3) := by decide +kernel
theorem dX11_gait_38 : decode (mC mX11_gait) 38 = .ok (.iconst 4, 1) := by decide +kernel
theorem dX11_gait_39 : decode (mC mX11_gait) 39 = .ok (.iload_n 2, 1) := by decide +kernel
theorem dX11_gait_40 : decode (mC mX11_gait) 40 = .ok (.imul, 1) := by decide +kernel
theorem dX11_gait_41 : decode (mC mX11_gait) 41 = .ok (.iload_n 3, 1) := by decide +kernel
theorem dX11_gait_42 : decode (mC mX11_gait) 42 = .ok (.iadd, 1) := by decide +kernel
theorem dX11_gait_43 : decode (mC mX11_gait) 43 = .ok (.iaload, 1) := by decide +kernel
theorem dX11_gait_44 : decode (mC mX11_gait) 44 = .ok (.ireturn, 1) := by decide +kernel
theorem dX11_taxOf_0 : decode (mC mX11_taxOf) 0 = .ok (.iconst 0, 1) := by decide +kernel
theorem dX11_taxOf_1 : decode (mC mX11_taxOf) 1 = .ok (.istore_n 3, 1) := by decide +kernel
theorem dX11_taxOf_2 : decode (mC mX11_taxOf) 2 = .ok (.iconst 0, 1) := by decide +kernel
theorem dX11_taxOf_3 : decode (mC mX11_taxOf) 3 = .ok (.istore 4, 2) := by decide +kernel
theorem dX11_taxOf_5 : decode (mC mX11_taxOf) 5 = .ok (.iload 4, 2) := by decide +kernel
theorem dX11_taxOf_7 : decode (mC mX11_taxOf) 7 = .ok (.aload_n 0, 1) := by decide +kernel
theorem dX11_taxOf_8 : decode (mC mX11_taxOf) 8 = .ok (.getfield 264, 3) := by decide +kernel
theorem dX11_taxOf_11 : decode (mC mX11_taxOf) 11 = .ok (.if_icmp .ge 66, 3) := by decide +kernel
theorem dX11_taxOf_14 : decode (mC mX11_taxOf) 14 = .ok (.iload_n 2, 1) := by decide +kernel
theorem dX11_taxOf_15 : decode (mC mX11_taxOf) 15 = .ok (.iconst (-1), 1) := by decide +kernel
theorem dX11_taxOf_16 : decode (mC mX11_taxOf) 16 = .ok (.if_icmp .eq 17, 3) := by decide +kernel
theorem dX11_taxOf_19 : decode (mC mX11_taxOf) 19 = .ok (.aload_n 0, 1) := by decide +kernel
theorem dX11_taxOf_20 : decode (mC mX11_taxOf) 20 = .ok (.getfield 47, 3) := by decide +kernel
theorem dX11_taxOf_23 : decode (mC mX11_taxOf) 23 = .ok (.iload 4, 2) := by decide +kernel
theorem dX11_taxOf_25 : decode (mC mX11_taxOf) 25 = .ok (.iaload, 1) := by decide +kernel
theorem dX11_taxOf_26 : decode (mC mX11_taxOf) 26 = .ok (.iload_n 2, 1) := by decide +kernel
theorem dX11_taxOf_27 : decode (mC mX11_taxOf) 27 = .ok (.if_icmp .eq 6, 3) := by decide +kernel
theorem dX11_taxOf_30 : decode (mC mX11_taxOf) 30 = .ok (.goto 41, 3) := by decide +kernel
theorem dX11_taxOf_33 : decode (mC mX11_taxOf) 33 = .ok (.iload_n 3, 1) := by decide +kernel
theorem dX11_taxOf_34 : decode (mC mX11_taxOf) 34 = .ok (.iload_n 1, 1) := by decide +kernel
theorem dX11_taxOf_35 : decode (mC mX11_taxOf) 35 = .ok (.ifCond .ne 7, 3) := by decide +kernel
theorem dX11_taxOf_38 : decode (mC mX11_taxOf) 38 = .ok (.iconst 1, 1) := by decide +kernel
theorem dX11_taxOf_39 : decode (mC mX11_taxOf) 39 = .ok (.goto 30, 3) := by decide +kernel
theorem dX11_taxOf_42 : decode (mC mX11_taxOf) 42 = .ok (.iload_n 1, 1) := by decide +kernel
theorem dX11_taxOf_43 : decode (mC mX11_taxOf) 43 = .ok (.iconst 1, 1) := by decide +kernel
theorem dX11_taxOf_44 : decode (mC mX11_taxOf) 44 = .ok (.if_icmp .ne 18, 3) := by decide +kernel
theorem dX11_taxOf_47 : decode (mC mX11_taxOf) 47 = .ok (.aload_n 0, 1) := by decide +kernel
theorem dX11_taxOf_48 : decode (mC mX11_taxOf) 48 = .ok (.aload_n 0, 1) := by decide +kernel
theorem dX11_taxOf_49 : decode (mC mX11_taxOf) 49 = .ok (.getfield 47, 3) := by decide +kernel
theorem dX11_taxOf_52 : decode (mC mX11_taxOf) 52 = .ok (.iload 4, 2) := by decide +kernel
theorem dX11_taxOf_54 : decode (mC mX11_taxOf) 54 = .ok (.iaload, 1) := by decide +kernel
theorem dX11_taxOf_55 : decode (mC mX11_taxOf) 55 = .ok (.iconst 1, 1) := by decide +kernel
theorem dX11_taxOf_56 : decode (mC mX11_taxOf) 56 = .ok (.invokevirtual 236, 3) := by decide +kernel
theorem dX11_taxOf_59 : decode (mC mX11_taxOf) 59 = .ok (.goto 10, 3) := by decide +kernel
theorem dX11_taxOf_62 : decode (mC mX11_taxOf) 62 = .ok (.aload_n 0, 1) := by decide +kernel
theorem dX11_taxOf_63 : decode (mC mX11_taxOf) 63 = .ok (.getfield 41, 3) := by decide +kernel
theorem dX11_taxOf_66 : decode (mC mX11_taxOf) 66 = .ok (.iload 4, 2) := by decide +kernel
theorem dX11_taxOf_68 : decode (mC mX11_taxOf) 68 = .ok (.iaload, 1) := by decide +kernel
theorem dX11_taxOf_69 : decode (mC mX11_taxOf) 69 = .ok (.iadd, 1) := by decide +kernel
theorem dX11_taxOf_70 : decode (mC mX11_taxOf) 70 = .ok (.istore_n 3, 1) := by decide +kernel
theorem dX11_taxOf_71 : decode (mC mX11_taxOf) 71 = .ok (.iinc 4 1, 3) := by decide +kernel
theorem dX11_taxOf_74 : decode (mC mX11_taxOf) 74 = .ok (.goto (-69), 3) := by decide +kernel
theorem dX11_taxOf_77 : decode (mC mX11_taxOf) 77 = .ok (.iload_n 3, 1) := by decide +kernel
theorem dX11_taxOf_78 : decode (mC mX11_taxOf) 78 = .ok (.ireturn, 1) := by decide +kernel
theorem dX11_tax_0 : decode (mC mX11_tax) 0 = .ok (.aload_n 0, 1) := by decide +kernel
theorem dX11_tax_1 : decode (mC mX11_tax) 1 = .ok (.iload_n 1, 1) := by decide +kernel
theorem dX11_tax_2 : decode (mC mX11_tax) 2 = .ok (.invokevirtual 215, 3) := by decide +kernel
theorem dX11_tax_5 : decode (mC mX11_tax) 5 = .ok (.ifCond .eq 25, 3) := by decide +kernel
theorem dX11_tax_8 : decode (mC mX11_tax) 8 = .ok (.iload_n 2, 1) := by decide +kernel
theorem dX11_tax_9 : decode (mC mX11_tax) 9 = .ok (.iconst 0, 1) := by decide +kernel
theorem dX11_tax_10 : decode (mC mX11_tax) 10 = .ok (.iconst 2, 1) := by decide +kernel
theorem dX11_tax_11 : decode (mC mX11_tax) 11 = .ok (.invokestatic 140, 3) := by decide +kernel
theorem dX11_tax_14 : decode (mC mX11_tax) 14 = .ok (.ifCond .eq 16, 3) := by decide +kernel
theorem dX11_tax_17 : decode (mC mX11_tax) 17 = .ok (.iload_n 3, 1) := by decide +kernel
theorem dX11_tax_18 : decode (mC mX11_tax) 18 = .ok (.iconst (-1), 1) := by decide +kernel
theorem dX11_tax_19 : decode (mC mX11_tax) 19 = .ok (.if_icmp .eq 13, 3) := by decide +kernel
theorem dX11_tax_22 : decode (mC mX11_tax) 22 = .ok (.aload_n 0, 1) := by decide +kernel
theorem dX11_tax_23 : decode (mC mX11_tax) 23 = .ok (.iload_n 3, 1) := by decide +kernel
theorem dX11_tax_24 : decode (mC mX11_tax) 24 = .ok (.invokevirtual 282, 3) := by decide +kernel
theorem dX11_tax_27 : decode (mC mX11_tax) 27 = .ok (.ifCond .ne 5, 3) := by decide +kernel
theorem dX11_tax_30 : decode (mC mX11_tax) 30 = .ok (.iconst (-1), 1) := by decide +kernel
theorem dX11_tax_31 : decode (mC mX11_tax) 31 = .ok (.ireturn, 1) := by decide +kernel
theorem dX11_tax_32 : decode (mC mX11_tax) 32 = .ok (.aload_n 0, 1) := by decide +kernel
theorem dX11_tax_33 : decode (mC mX11_tax) 33 = .ok (.bipush 99, 2) := by decide +kernel
theorem dX11_tax_35 : decode (mC mX11_tax) 35 = .ok (.invokevirtual 288, 3) := by decide +kernel
theorem dX11_tax_38 : decode (mC mX11_tax) 38 = .ok (.aload_n 0, 1) := by decide +kernel
theorem dX11_tax_39 : decode (mC mX11_tax) 39 = .ok (.iload_n 2, 1) := by decide +kernel
theorem dX11_tax_40 : decode (mC mX11_tax) 40 = .ok (.iload_n 3, 1) := by decide +kernel
theorem dX11_tax_41 : decode (mC mX11_tax) 41 = .ok (.invokevirtual 303, 3) := by decide +kernel
theorem dX11_tax_44 : decode (mC mX11_tax) 44 = .ok (.ireturn, 1) := by decide +kernel
theorem dX11_bits_0 : decode (mC mX11_bits) 0 = .ok (.iconst 0, 1) := by decide +kernel
theorem dX11_bits_1 : decode (mC mX11_bits) 1 = .ok (.istore_n 1, 1) := by decide +kernel
theorem dX11_bits_2 : decode (mC mX11_bits) 2 = .ok (.iconst 0, 1) := by decide +kernel
theorem dX11_bits_3 : decode (mC mX11_bits) 3 = .ok (.istore_n 2, 1) := by decide +kernel
theorem dX11_bits_4 : decode (mC mX11_bits) 4 = .ok (.iload_n 2, 1) := by decide +kernel
theorem dX11_bits_5 : decode (mC mX11_bits) 5 = .ok (.bipush 31, 2) := by decide +kernel
theorem dX11_bits_7 : decode (mC mX11_bits) 7 = .ok (.if_icmp .ge 17, 3) := by decide +kernel
theorem dX11_bits_10 : decode (mC mX11_bits) 10 = .ok (.iload_n 1, 1) := by decide +kernel
theorem dX11_bits_11 : decode (mC mX11_bits) 11 = .ok (.iload_n 0, 1) := by decide +kernel
theorem dX11_bits_12 : decode (mC mX11_bits) 12 = .ok (.iload_n 2, 1) := by decide +kernel
theorem dX11_bits_13 : decode (mC mX11_bits) 13 = .ok (.ishr, 1) := by decide +kernel
theorem dX11_bits_14 : decode (mC mX11_bits) 14 = .ok (.iconst 1, 1) := by decide +kernel
theorem dX11_bits_15 : decode (mC mX11_bits) 15 = .ok (.iand, 1) := by decide +kernel
theorem dX11_bits_16 : decode (mC mX11_bits) 16 = .ok (.iadd, 1) := by decide +kernel
theorem dX11_bits_17 : decode (mC mX11_bits) 17 = .ok (.istore_n 1, 1) := by decide +kernel
theorem dX11_bits_18 : decode (mC mX11_bits) 18 = .ok (.iinc 2 1, 3) := by decide +kernel
theorem dX11_bits_21 : decode (mC mX11_bits) 21 = .ok (.goto (-17), 3) := by decide +kernel
theorem dX11_bits_24 : decode (mC mX11_bits) 24 = .ok (.iload_n 1, 1) := by decide +kernel
theorem dX11_bits_25 : decode (mC mX11_bits) 25 = .ok (.ireturn, 1) := by decide +kernel
theorem dX11_common_0 : decode (mC mX11_common) 0 = .ok (.lload_n 0, 1) := by decide +kernel
theorem dX11_common_1 : decode (mC mX11_common) 1 = .ok (.lstore 4, 2) := by decide +kernel
theorem dX11_common_3 : decode (mC mX11_common) 3 = .ok (.lload_n 2, 1) := by decide +kernel
theorem dX11_common_4 : decode (mC mX11_common) 4 = .ok (.lstore 6, 2) := by decide +kernel
theorem dX11_common_6 : decode (mC mX11_common) 6 = .ok (.lload 6, 2) := by decide +kernel
theorem dX11_common_8 : decode (mC mX11_common) 8 = .ok (.lconst 0, 1) := by decide +kernel
theorem dX11_common_9 : decode (mC mX11_common) 9 = .ok (.lcmp, 1) := by decide +kernel
theorem dX11_common_10 : decode (mC mX11_common) 10 = .ok (.ifCond .eq 21, 3) := by decide +kernel
theorem dX11_common_13 : decode (mC mX11_common) 13 = .ok (.lload 4, 2) := by decide +kernel
theorem dX11_common_15 : decode (mC mX11_common) 15 = .ok (.lload 6, 2) := by decide +kernel
theorem dX11_common_17 : decode (mC mX11_common) 17 = .ok (.lrem, 1) := by decide +kernel
theorem dX11_common_18 : decode (mC mX11_common) 18 = .ok (.lstore 8, 2) := by decide +kernel
theorem dX11_common_20 : decode (mC mX11_common) 20 = .ok (.lload 6, 2) := by decide +kernel
theorem dX11_common_22 : decode (mC mX11_common) 22 = .ok (.lstore 4, 2) := by decide +kernel
theorem dX11_common_24 : decode (mC mX11_common) 24 = .ok (.lload 8, 2) := by decide +kernel
theorem dX11_common_26 : decode (mC mX11_common) 26 = .ok (.lstore 6, 2) := by decide +kernel
theorem dX11_common_28 : decode (mC mX11_common) 28 = .ok (.goto (-22), 3) := by decide +kernel
theorem dX11_common_31 : decode (mC mX11_common) 31 = .ok (.lload 4, 2) := by decide +kernel
theorem dX11_common_33 : decode (mC mX11_common) 33 = .ok (.lreturn, 1) := by decide +kernel
theorem dX11_fairOf_0 : decode (mC mX11_fairOf) 0 = .ok (.lconst 0, 1) := by decide +kernel
theorem dX11_fairOf_1 : decode (mC mX11_fairOf) 1 = .ok (.lstore_n 2, 1) := by decide +kernel
theorem dX11_fairOf_2 : decode (mC mX11_fairOf) 2 = .ok (.iconst 0, 1) := by decide +kernel
theorem dX11_fairOf_3 : decode (mC mX11_fairOf) 3 = .ok (.istore 4, 2) := by decide +kernel
theorem dX11_fairOf_5 : decode (mC mX11_fairOf) 5 = .ok (.iload 4, 2) := by decide +kernel
theorem dX11_fairOf_7 : decode (mC mX11_fairOf) 7 = .ok (.aload_n 0, 1) := by decide +kernel
theorem dX11_fairOf_8 : decode (mC mX11_fairOf) 8 = .ok (.getfield 264, 3) := by decide +kernel
theorem dX11_fairOf_11 : decode (mC mX11_fairOf) 11 = .ok (.if_icmp .ge 45, 3) := by decide +kernel
theorem dX11_fairOf_14 : decode (mC mX11_fairOf) 14 = .ok (.lload_n 2, 1) := by decide +kernel
theorem dX11_fairOf_15 : decode (mC mX11_fairOf) 15 = .ok (.aload_n 0, 1) := by decide +kernel
theorem dX11_fairOf_16 : decode (mC mX11_fairOf) 16 = .ok (.getfield 50, 3) := by decide +kernel
theorem dX11_fairOf_19 : decode (mC mX11_fairOf) 19 = .ok (.iload 4, 2) := by decide +kernel
theorem dX11_fairOf_21 : decode (mC mX11_fairOf) 21 = .ok (.iaload, 1) := by decide +kernel
theorem dX11_fairOf_22 : decode (mC mX11_fairOf) 22 = .ok (.iload_n 1, 1) := by decide +kernel
theorem dX11_fairOf_23 : decode (mC mX11_fairOf) 23 = .ok (.ishr, 1) := by decide +kernel
theorem dX11_fairOf_24 : decode (mC mX11_fairOf) 24 = .ok (.iconst 1, 1) := by decide +kernel
theorem dX11_fairOf_25 : decode (mC mX11_fairOf) 25 = .ok (.iand, 1) := by decide +kernel
theorem dX11_fairOf_26 : decode (mC mX11_fairOf) 26 = .ok (.iconst 1, 1) := by decide +kernel
theorem dX11_fairOf_27 : decode (mC mX11_fairOf) 27 = .ok (.if_icmp .ne 20, 3) := by decide +kernel
theorem dX11_fairOf_30 : decode (mC mX11_fairOf) 30 = .ok (.bipush 60, 2) := by decide +kernel
theorem dX11_fairOf_32 : decode (mC mX11_fairOf) 32 = .ok (.aload_n 0, 1) := by decide +kernel
theorem dX11_fairOf_33 : decode (mC mX11_fairOf) 33 = .ok (.getfield 50, 3) := by decide +kernel
theorem dX11_fairOf_36 : decode (mC mX11_fairOf) 36 = .ok (.iload 4, 2) := by decide +kernel
theorem dX11_fairOf_38 : decode (mC mX11_fairOf) 38 = .ok (.iaload, 1) := by decide +kernel
theorem dX11_fairOf_39 : decode (mC mX11_fairOf) 39 = .ok (.invokestatic 306, 3) := by decide +kernel
theorem dX11_fairOf_42 : decode (mC mX11_fairOf) 42 = .ok (.idiv, 1) := by decide +kernel
theorem dX11_fairOf_43 : decode (mC mX11_fairOf) 43 = .ok (.i2l, 1) := by decide +kernel
theorem dX11_fairOf_44 : decode (mC mX11_fairOf) 44 = .ok (.goto 4, 3) := by decide +kernel
theorem dX11_fairOf_47 : decode (mC mX11_fairOf) 47 = .ok (.lconst 0, 1) := by decide +kernel
theorem dX11_fairOf_48 : decode (mC mX11_fairOf) 48 = .ok (.ladd, 1) := by decide +kernel
theorem dX11_fairOf_49 : decode (mC mX11_fairOf) 49 = .ok (.lstore_n 2, 1) := by decide +kernel
theorem dX11_fairOf_50 : decode (mC mX11_fairOf) 50 = .ok (.iinc 4 1, 3) := by decide +kernel
theorem dX11_fairOf_53 : decode (mC mX11_fairOf) 53 = .ok (.goto (-48), 3) := by decide +kernel
theorem dX11_fairOf_56 : decode (mC mX11_fairOf) 56 = .ok (.lload_n 2, 1) := by decide +kernel
theorem dX11_fairOf_57 : decode (mC mX11_fairOf) 57 = .ok (.lreturn, 1) := by decide +kernel
theorem dX11_fair_0 : decode (mC mX11_fair) 0 = .ok (.aload_n 0, 1) := by decide +kernel
theorem dX11_fair_1 : decode (mC mX11_fair) 1 = .ok (.iload_n 1, 1) := by decide +kernel
theorem dX11_fair_2 : decode (mC mX11_fair) 2 = .ok (.invokevirtual 215, 3) := by decide +kernel
theorem dX11_fair_5 : decode (mC mX11_fair) 5 = .ok (.ifCond .eq 11, 3) := by decide +kernel
theorem dX11_fair_8 : decode (mC mX11_fair) 8 = .ok (.aload_n 0, 1) := by decide +kernel
theorem dX11_fair_9 : decode (mC mX11_fair) 9 = .ok (.iload_n 2, 1) := by decide +kernel
theorem dX11_fair_10 : decode (mC mX11_fair) 10 = .ok (.invokevirtual 282, 3) := by decide +kernel
theorem dX11_fair_13 : decode (mC mX11_fair) 13 = .ok (.ifCond .ne 7, 3) := by decide +kernel
theorem dX11_fair_16 : decode (mC mX11_fair) 16 = .ok (.ldc2_w 309, 3) := by decide +kernel
theorem dX11_fair_19 : decode (mC mX11_fair) 19 = .ok (.lreturn, 1) := by decide +kernel
theorem dX11_fair_20 : decode (mC mX11_fair) 20 = .ok (.aload_n 0, 1) := by decide +kernel
theorem dX11_fair_21 : decode (mC mX11_fair) 21 = .ok (.bipush 99, 2) := by decide +kernel
theorem dX11_fair_23 : decode (mC mX11_fair) 23 = .ok (.invokevirtual 288, 3) := by decide +kernel
theorem dX11_fair_26 : decode (mC mX11_fair) 26 = .ok (.aload_n 0, 1) := by decide +kernel
theorem dX11_fair_27 : decode (mC mX11_fair) 27 = .ok (.iload_n 2, 1) := by decide +kernel
theorem dX11_fair_28 : decode (mC mX11_fair) 28 = .ok (.invokevirtual 311, 3) := by decide +kernel
theorem dX11_fair_31 : decode (mC mX11_fair) 31 = .ok (.lstore 4, 2) := by decide +kernel
theorem dX11_fair_33 : decode (mC mX11_fair) 33 = .ok (.lload 4, 2) := by decide +kernel
theorem dX11_fair_35 : decode (mC mX11_fair) 35 = .ok (.ldc2_w 315, 3) := by decide +kernel
theorem dX11_fair_38 : decode (mC mX11_fair) 38 = .ok (.invokestatic 317, 3) := by decide +kernel
theorem dX11_fair_41 : decode (mC mX11_fair) 41 = .ok (.lstore 6, 2) := by decide +kernel
theorem dX11_fair_43 : decode (mC mX11_fair) 43 = .ok (.iload_n 3, 1) := by decide +kernel
theorem dX11_fair_44 : decode (mC mX11_fair) 44 = .ok (.ifCond .eq 9, 3) := by decide +kernel
theorem dX11_fair_47 : decode (mC mX11_fair) 47 = .ok (.ldc2_w 315, 3) := by decide +kernel
theorem dX11_fair_50 : decode (mC mX11_fair) 50 = .ok (.goto 5, 3) := by decide +kernel
theorem dX11_fair_53 : decode (mC mX11_fair) 53 = .ok (.lload 4, 2) := by decide +kernel
theorem dX11_fair_55 : decode (mC mX11_fair) 55 = .ok (.lload 6, 2) := by decide +kernel
theorem dX11_fair_57 : decode (mC mX11_fair) 57 = .ok (.ldiv, 1) := by decide +kernel
theorem dX11_fair_58 : decode (mC mX11_fair) 58 = .ok (.lreturn, 1) := by decide +kernel
theorem dX11_aloneOf_0 : decode (mC mX11_aloneOf) 0 = .ok (.aload_n 0, 1) := by decide +kernel
theorem dX11_aloneOf_1 : decode (mC mX11_aloneOf) 1 = .ok (.iload_n 1, 1) := by decide +kernel
theorem dX11_aloneOf_2 : decode (mC mX11_aloneOf) 2 = .ok (.putfield 221, 3) := by decide +kernel
theorem dX11_aloneOf_5 : decode (mC mX11_aloneOf) 5 = .ok (.aload_n 0, 1) := by decide +kernel
theorem dX11_aloneOf_6 : decode (mC mX11_aloneOf) 6 = .ok (.bipush 99, 2) := by decide +kernel
theorem dX11_aloneOf_8 : decode (mC mX11_aloneOf) 8 = .ok (.invokevirtual 288, 3) := by decide +kernel
theorem dX11_aloneOf_11 : decode (mC mX11_aloneOf) 11 = .ok (.aload_n 0, 1) := by decide +kernel
theorem dX11_aloneOf_12 : decode (mC mX11_aloneOf) 12 = .ok (.iconst (-1), 1) := by decide +kernel
theorem dX11_aloneOf_13 : decode (mC mX11_aloneOf) 13 = .ok (.putfield 221, 3) := by decide +kernel
theorem dX11_aloneOf_16 : decode (mC mX11_aloneOf) 16 = .ok (.aload_n 0, 1) := by decide +kernel
theorem dX11_aloneOf_17 : decode (mC mX11_aloneOf) 17 = .ok (.getfield 264, 3) := by decide +kernel
theorem dX11_aloneOf_20 : decode (mC mX11_aloneOf) 20 = .ok (.ireturn, 1) := by decide +kernel
theorem dX11_alone_0 : decode (mC mX11_alone) 0 = .ok (.aload_n 0, 1) := by decide +kernel
theorem dX11_alone_1 : decode (mC mX11_alone) 1 = .ok (.iload_n 1, 1) := by decide +kernel
theorem dX11_alone_2 : decode (mC mX11_alone) 2 = .ok (.invokevirtual 215, 3) := by decide +kernel
theorem dX11_alone_5 : decode (mC mX11_alone) 5 = .ok (.ifCond .eq 16, 3) := by decide +kernel
theorem dX11_alone_8 : decode (mC mX11_alone) 8 = .ok (.iload_n 2, 1) := by decide +kernel
theorem dX11_alone_9 : decode (mC mX11_alone) 9 = .ok (.iconst (-1), 1) := by decide +kernel
theorem dX11_alone_10 : decode (mC mX11_alone) 10 = .ok (.if_icmp .eq 14, 3) := by decide +kernel
theorem dX11_alone_13 : decode (mC mX11_alone) 13 = .ok (.aload_n 0, 1) := by decide +kernel
theorem dX11_alone_14 : decode (mC mX11_alone) 14 = .ok (.iload_n 2, 1) := by decide +kernel
theorem dX11_alone_15 : decode (mC mX11_alone) 15 = .ok (.invokevirtual 282, 3) := by decide +kernel
theorem dX11_alone_18 : decode (mC mX11_alone) 18 = .ok (.ifCond .ne 6, 3) := by decide +kernel
theorem dX11_alone_21 : decode (mC mX11_alone) 21 = .ok (.bipush (-2), 2) := by decide +kernel
theorem dX11_alone_23 : decode (mC mX11_alone) 23 = .ok (.ireturn, 1) := by decide +kernel
theorem dX11_alone_24 : decode (mC mX11_alone) 24 = .ok (.iload_n 2, 1) := by decide +kernel
theorem dX11_alone_25 : decode (mC mX11_alone) 25 = .ok (.iconst (-1), 1) := by decide +kernel
theorem dX11_alone_26 : decode (mC mX11_alone) 26 = .ok (.if_icmp .eq 9, 3) := by decide +kernel
theorem dX11_alone_29 : decode (mC mX11_alone) 29 = .ok (.aload_n 0, 1) := by decide +kernel
theorem dX11_alone_30 : decode (mC mX11_alone) 30 = .ok (.iload_n 2, 1) := by decide +kernel
theorem dX11_alone_31 : decode (mC mX11_alone) 31 = .ok (.invokevirtual 321, 3) := by decide +kernel
theorem dX11_alone_34 : decode (mC mX11_alone) 34 = .ok (.ireturn, 1) := by decide +kernel
theorem dX11_alone_35 : decode (mC mX11_alone) 35 = .ok (.iconst 0, 1) := by decide +kernel
theorem dX11_alone_36 : decode (mC mX11_alone) 36 = .ok (.istore_n 3, 1) := by decide +kernel
theorem dX11_alone_37 : decode (mC mX11_alone) 37 = .ok (.iconst 0, 1) := by decide +kernel
theorem dX11_alone_38 : decode (mC mX11_alone) 38 = .ok (.istore 4, 2) := by decide +kernel
theorem dX11_alone_40 : decode (mC mX11_alone) 40 = .ok (.iload 4, 2) := by decide +kernel
theorem dX11_alone_42 : decode (mC mX11_alone) 42 = .ok (.aload_n 0, 1) := by decide +kernel
theorem dX11_alone_43 : decode (mC mX11_alone) 43 = .ok (.invokevirtual 212, 3) := by decide +kernel
theorem dX11_alone_46 : decode (mC mX11_alone) 46 = .ok (.if_icmp .ge 51, 3) := by decide +kernel
theorem dX11_alone_49 : decode (mC mX11_alone) 49 = .ok (.aload_n 0, 1) := by decide +kernel
theorem dX11_alone_50 : decode (mC mX11_alone) 50 = .ok (.bipush 99, 2) := by decide +kernel
theorem dX11_alone_52 : decode (mC mX11_alone) 52 = .ok (.invokevirtual 288, 3) := by decide +kernel
theorem dX11_alone_55 : decode (mC mX11_alone) 55 = .ok (.aload_n 0, 1) := by decide +kernel
theorem dX11_alone_56 : decode (mC mX11_alone) 56 = .ok (.iload 4, 2) := by decide +kernel
theorem dX11_alone_58 : decode (mC mX11_alone) 58 = .ok (.invokevirtual 311, 3) := by decide +kernel
theorem dX11_alone_61 : decode (mC mX11_alone) 61 = .ok (.lstore 5, 2) := by decide +kernel
theorem dX11_alone_63 : decode (mC mX11_alone) 63 = .ok (.iload_n 3, 1) := by decide +kernel
theorem dX11_alone_64 : decode (mC mX11_alone) 64 = .ok (.ldc2_w 315, 3) := by decide +kernel
theorem dX11_alone_67 : decode (mC mX11_alone) 67 = .ok (.aload_n 0, 1) := by decide +kernel
theorem dX11_alone_68 : decode (mC mX11_alone) 68 = .ok (.iload 4, 2) := by decide +kernel
theorem dX11_alone_70 : decode (mC mX11_alone) 70 = .ok (.invokevirtual 321, 3) := by decide +kernel
theorem dX11_alone_73 : decode (mC mX11_alone) 73 = .ok (.i2l, 1) := by decide +kernel
theorem dX11_alone_74 : decode (mC mX11_alone) 74 = .ok (.lmul, 1) := by decide +kernel
theorem dX11_alone_75 : decode (mC mX11_alone) 75 = .ok (.lload 5, 2) := by decide +kernel
theorem dX11_alone_77 : decode (mC mX11_alone) 77 = .ok (.lcmp, 1) := by decide +kernel
theorem dX11_alone_78 : decode (mC mX11_alone) 78 = .ok (.ifCond .ge 10, 3) := by decide +kernel
theorem dX11_alone_81 : decode (mC mX11_alone) 81 = .ok (.iconst 1, 1) := by decide +kernel
theorem dX11_alone_82 : decode (mC mX11_alone) 82 = .ok (.iload 4, 2) := by decide +kernel
theorem dX11_alone_84 : decode (mC mX11_alone) 84 = .ok (.ishl, 1) := by decide +kernel
theorem dX11_alone_85 : decode (mC mX11_alone) 85 = .ok (.goto 4, 3) := by decide +kernel
theorem dX11_alone_88 : decode (mC mX11_alone) 88 = .ok (.iconst 0, 1) := by decide +kernel
theorem dX11_alone_89 : decode (mC mX11_alone) 89 = .ok (.ior, 1) := by decide +kernel
theorem dX11_alone_90 : decode (mC mX11_alone) 90 = .ok (.istore_n 3, 1) := by decide +kernel
theorem dX11_alone_91 : decode (mC mX11_alone) 91 = .ok (.iinc 4 1, 3) := by decide +kernel
theorem dX11_alone_94 : decode (mC mX11_alone) 94 = .ok (.goto (-54), 3) := by decide +kernel
theorem dX11_alone_97 : decode (mC mX11_alone) 97 = .ok (.iload_n 3, 1) := by decide +kernel
theorem dX11_alone_98 : decode (mC mX11_alone) 98 = .ok (.ireturn, 1) := by decide +kernel
theorem dX11_pays_0 : decode (mC mX11_pays) 0 = .ok (.aload_n 0, 1) := by decide +kernel
theorem dX11_pays_1 : decode (mC mX11_pays) 1 = .ok (.iload_n 1, 1) := by decide +kernel
theorem dX11_pays_2 : decode (mC mX11_pays) 2 = .ok (.invokevirtual 215, 3) := by decide +kernel
theorem dX11_pays_5 : decode (mC mX11_pays) 5 = .ok (.ifCond .eq 12, 3) := by decide +kernel
theorem dX11_pays_8 : decode (mC mX11_pays) 8 = .ok (.iload_n 2, 1) := by decide +kernel
theorem dX11_pays_9 : decode (mC mX11_pays) 9 = .ok (.iconst (-1), 1) := by decide +kernel
theorem dX11_pays_10 : decode (mC mX11_pays) 10 = .ok (.iconst 2, 1) := by decide +kernel
theorem dX11_pays_11 : decode (mC mX11_pays) 11 = .ok (.invokestatic 140, 3) := by decide +kernel
theorem dX11_pays_14 : decode (mC mX11_pays) 14 = .ok (.ifCond .ne 5, 3) := by decide +kernel
theorem dX11_pays_17 : decode (mC mX11_pays) 17 = .ok (.iconst (-1), 1) := by decide +kernel
theorem dX11_pays_18 : decode (mC mX11_pays) 18 = .ok (.ireturn, 1) := by decide +kernel
theorem dX11_pays_19 : decode (mC mX11_pays) 19 = .ok (.aload_n 0, 1) := by decide +kernel
theorem dX11_pays_20 : decode (mC mX11_pays) 20 = .ok (.bipush 99, 2) := by decide +kernel
theorem dX11_pays_22 : decode (mC mX11_pays) 22 = .ok (.invokevirtual 288, 3) := by decide +kernel
theorem dX11_pays_25 : decode (mC mX11_pays) 25 = .ok (.iconst (-1), 1) := by decide +kernel
theorem dX11_pays_26 : decode (mC mX11_pays) 26 = .ok (.istore_n 3, 1) := by decide +kernel
theorem dX11_pays_27 : decode (mC mX11_pays) 27 = .ok (.iconst 0, 1) := by decide +kernel
theorem dX11_pays_28 : decode (mC mX11_pays) 28 = .ok (.istore 4, 2) := by decide +kernel
theorem dX11_pays_30 : decode (mC mX11_pays) 30 = .ok (.iconst 0, 1) := by decide +kernel
theorem dX11_pays_31 : decode (mC mX11_pays) 31 = .ok (.istore 5, 2) := by decide +kernel
theorem dX11_pays_33 : decode (mC mX11_pays) 33 = .ok (.iload 5, 2) := by decide +kernel
theorem dX11_pays_35 : decode (mC mX11_pays) 35 = .ok (.iload_n 2, 1) := by decide +kernel
theorem dX11_pays_36 : decode (mC mX11_pays) 36 = .ok (.iconst (-1), 1) := by decide +kernel
theorem dX11_pays_37 : decode (mC mX11_pays) 37 = .ok (.if_icmp .ne 7, 3) := by decide +kernel
theorem dX11_pays_40 : decode (mC mX11_pays) 40 = .ok (.iconst 3, 1) := by decide +kernel
theorem dX11_pays_41 : decode (mC mX11_pays) 41 = .ok (.goto 7, 3) := by decide +kernel
theorem dX11_pays_44 : decode (mC mX11_pays) 44 = .ok (.aload_n 0, 1) := by decide +kernel
theorem dX11_pays_45 : decode (mC mX11_pays) 45 = .ok (.invokevirtual 212, 3) := by decide +kernel
theorem dX11_pays_48 : decode (mC mX11_pays) 48 = .ok (.if_icmp .ge 54, 3) := by decide +kernel
theorem dX11_pays_51 : decode (mC mX11_pays) 51 = .ok (.iload_n 2, 1) := by decide +kernel
theorem dX11_pays_52 : decode (mC mX11_pays) 52 = .ok (.iconst (-1), 1) := by decide +kernel
theorem dX11_pays_53 : decode (mC mX11_pays) 53 = .ok (.if_icmp .ne 13, 3) := by decide +kernel
theorem dX11_pays_56 : decode (mC mX11_pays) 56 = .ok (.aload_n 0, 1) := by decide +kernel
theorem dX11_pays_57 : decode (mC mX11_pays) 57 = .ok (.iload 5, 2) := by decide +kernel
theorem dX11_pays_59 : decode (mC mX11_pays) 59 = .ok (.iconst (-1), 1) := by decide +kernel
theorem dX11_pays_60 : decode (mC mX11_pays) 60 = .ok (.invokevirtual 303, 3) := by decide +kernel
theorem dX11_pays_63 : decode (mC mX11_pays) 63 = .ok (.goto 10, 3) := by decide +kernel
theorem dX11_pays_66 : decode (mC mX11_pays) 66 = .ok (.aload_n 0, 1) := by decide +kernel
theorem dX11_pays_67 : decode (mC mX11_pays) 67 = .ok (.iload_n 2, 1) := by decide +kernel
theorem dX11_pays_68 : decode (mC mX11_pays) 68 = .ok (.iload 5, 2) := by decide +kernel
theorem dX11_pays_70 : decode (mC mX11_pays) 70 = .ok (.invokevirtual 303, 3) := by decide +kernel
theorem dX11_pays_73 : decode (mC mX11_pays) 73 = .ok (.istore 6, 2) := by decide +kernel
theorem dX11_pays_75 : decode (mC mX11_pays) 75 = .ok (.iload_n 3, 1) := by decide +kernel
theorem dX11_pays_76 : decode (mC mX11_pays) 76 = .ok (.ifCond .lt 13, 3) := by decide +kernel
theorem dX11_pays_79 : decode (mC mX11_pays) 79 = .ok (.iload 6, 2) := by decide +kernel
theorem dX11_pays_81 : decode (mC mX11_pays) 81 = .ok (.iload 4, 2) := by decide +kernel
theorem dX11_pays_83 : decode (mC mX11_pays) 83 = .ok (.if_icmp .gt 6, 3) := by decide +kernel
theorem dX11_pays_86 : decode (mC mX11_pays) 86 = .ok (.goto 10, 3) := by decide +kernel
theorem dX11_pays_89 : decode (mC mX11_pays) 89 = .ok (.iload 5, 2) := by decide +kernel
theorem dX11_pays_91 : decode (mC mX11_pays) 91 = .ok (.istore_n 3, 1) := by decide +kernel
theorem dX11_pays_92 : decode (mC mX11_pays) 92 = .ok (.iload 6, 2) := by decide +kernel
theorem dX11_pays_94 : decode (mC mX11_pays) 94 = .ok (.istore 4, 2) := by decide +kernel
theorem dX11_pays_96 : decode (mC mX11_pays) 96 = .ok (.iinc 5 1, 3) := by decide +kernel
theorem dX11_pays_99 : decode (mC mX11_pays) 99 = .ok (.goto (-66), 3) := by decide +kernel
theorem dX11_pays_102 : decode (mC mX11_pays) 102 = .ok (.iload_n 3, 1) := by decide +kernel
theorem dX11_pays_103 : decode (mC mX11_pays) 103 = .ok (.ireturn, 1) := by decide +kernel
theorem dX11_traps_0 : decode (mC mX11_traps) 0 = .ok (.aload_n 0, 1) := by decide +kernel
theorem dX11_traps_1 : decode (mC mX11_traps) 1 = .ok (.iload_n 1, 1) := by decide +kernel
theorem dX11_traps_2 : decode (mC mX11_traps) 2 = .ok (.invokevirtual 215, 3) := by decide +kernel
theorem dX11_traps_5 : decode (mC mX11_traps) 5 = .ok (.ifCond .eq 21, 3) := by decide +kernel
theorem dX11_traps_8 : decode (mC mX11_traps) 8 = .ok (.iload_n 2, 1) := by decide +kernel
theorem dX11_traps_9 : decode (mC mX11_traps) 9 = .ok (.iconst 1, 1) := by decide +kernel
theorem dX11_traps_10 : decode (mC mX11_traps) 10 = .ok (.iconst 3, 1) := by decide +kernel
theorem dX11_traps_11 : decode (mC mX11_traps) 11 = .ok (.invokestatic 140, 3) := by decide +kernel
theorem dX11_traps_14 : decode (mC mX11_traps) 14 = .ok (.ifCond .eq 12, 3) := by decide +kernel
theorem dX11_traps_17 : decode (mC mX11_traps) 17 = .ok (.iload_n 3, 1) := by decide +kernel
theorem dX11_traps_18 : decode (mC mX11_traps) 18 = .ok (.iconst 0, 1) := by decide +kernel
theorem dX11_traps_19 : decode (mC mX11_traps) 19 = .ok (.iload_n 2, 1) := by decide +kernel
theorem dX11_traps_20 : decode (mC mX11_traps) 20 = .ok (.invokestatic 140, 3) := by decide +kernel
theorem dX11_traps_23 : decode (mC mX11_traps) 23 = .ok (.ifCond .ne 5, 3) := by decide +kernel
theorem dX11_traps_26 : decode (mC mX11_traps) 26 = .ok (.iconst (-1), 1) := by decide +kernel
theorem dX11_traps_27 : decode (mC mX11_traps) 27 = .ok (.ireturn, 1) := by decide +kernel
theorem dX11_traps_28 : decode (mC mX11_traps) 28 = .ok (.aload_n 0, 1) := by decide +kernel
theorem dX11_traps_29 : decode (mC mX11_traps) 29 = .ok (.bipush 99, 2) := by decide +kernel
theorem dX11_traps_31 : decode (mC mX11_traps) 31 = .ok (.invokevirtual 288, 3) := by decide +kernel
theorem dX11_traps_34 : decode (mC mX11_traps) 34 = .ok (.iconst 0, 1) := by decide +kernel
theorem dX11_traps_35 : decode (mC mX11_traps) 35 = .ok (.istore 4, 2) := by decide +kernel
theorem dX11_traps_37 : decode (mC mX11_traps) 37 = .ok (.iload 4, 2) := by decide +kernel
theorem dX11_traps_39 : decode (mC mX11_traps) 39 = .ok (.aload_n 0, 1) := by decide +kernel
theorem dX11_traps_40 : decode (mC mX11_traps) 40 = .ok (.invokevirtual 294, 3) := by decide +kernel
theorem dX11_traps_43 : decode (mC mX11_traps) 43 = .ok (.if_icmp .ge 22, 3) := by decide +kernel
theorem dX11_traps_46 : decode (mC mX11_traps) 46 = .ok (.aload_n 0, 1) := by decide +kernel
theorem dX11_traps_47 : decode (mC mX11_traps) 47 = .ok (.getfield 56, 3) := by decide +kernel
theorem dX11_traps_50 : decode (mC mX11_traps) 50 = .ok (.iload 4, 2) := by decide +kernel
theorem dX11_traps_52 : decode (mC mX11_traps) 52 = .ok (.aload_n 0, 1) := by decide +kernel
theorem dX11_traps_53 : decode (mC mX11_traps) 53 = .ok (.iload 4, 2) := by decide +kernel
theorem dX11_traps_55 : decode (mC mX11_traps) 55 = .ok (.invokevirtual 300, 3) := by decide +kernel
theorem dX11_traps_58 : decode (mC mX11_traps) 58 = .ok (.iastore, 1) := by decide +kernel
theorem dX11_traps_59 : decode (mC mX11_traps) 59 = .ok (.iinc 4 1, 3) := by decide +kernel
theorem dX11_traps_62 : decode (mC mX11_traps) 62 = .ok (.goto (-25), 3) := by decide +kernel
theorem dX11_traps_65 : decode (mC mX11_traps) 65 = .ok (.iconst (-1), 1) := by decide +kernel
theorem dX11_traps_66 : decode (mC mX11_traps) 66 = .ok (.istore 4, 2) := by decide +kernel
theorem dX11_traps_68 : decode (mC mX11_traps) 68 = .ok (.iconst (-1), 1) := by decide +kernel
theorem dX11_traps_69 : decode (mC mX11_traps) 69 = .ok (.istore 5, 2) := by decide +kernel
theorem dX11_traps_71 : decode (mC mX11_traps) 71 = .ok (.iconst 0, 1) := by decide +kernel
theorem dX11_traps_72 : decode (mC mX11_traps) 72 = .ok (.istore 6, 2) := by decide +kernel
theorem dX11_traps_74 : decode (mC mX11_traps) 74 = .ok (.iload 6, 2) := by decide +kernel
theorem dX11_traps_76 : decode (mC mX11_traps) 76 = .ok (.aload_n 0, 1) := by decide +kernel
theorem dX11_traps_77 : decode (mC mX11_traps) 77 = .ok (.invokevirtual 294, 3) := by decide +kernel
theorem dX11_traps_80 : decode (mC mX11_traps) 80 = .ok (.if_icmp .ge 164, 3) := by decide +kernel
theorem dX11_traps_83 : decode (mC mX11_traps) 83 = .ok (.iload_n 2, 1) := by decide +kernel
theorem dX11_traps_84 : decode (mC mX11_traps) 84 = .ok (.iconst 2, 1) := by decide +kernel
theorem dX11_traps_85 : decode (mC mX11_traps) 85 = .ok (.if_icmp .ge 7, 3) := by decide +kernel
theorem dX11_traps_88 : decode (mC mX11_traps) 88 = .ok (.iconst 0, 1) := by decide +kernel
theorem dX11_traps_89 : decode (mC mX11_traps) 89 = .ok (.goto 7, 3) := by decide +kernel
theorem dX11_traps_92 : decode (mC mX11_traps) 92 = .ok (.iload 6, 2) := by decide +kernel
theorem dX11_traps_94 : decode (mC mX11_traps) 94 = .ok (.iconst 1, 1) := by decide +kernel
theorem dX11_traps_95 : decode (mC mX11_traps) 95 = .ok (.iadd, 1) := by decide +kernel
theorem dX11_traps_96 : decode (mC mX11_traps) 96 = .ok (.istore 7, 2) := by decide +kernel
theorem dX11_traps_98 : decode (mC mX11_traps) 98 = .ok (.iload 7, 2) := by decide +kernel
theorem dX11_traps_100 : decode (mC mX11_traps) 100 = .ok (.iload_n 2, 1) := by decide +kernel
theorem dX11_traps_101 : decode (mC mX11_traps) 101 = .ok (.iconst 2, 1) := by decide +kernel
theorem dX11_traps_102 : decode (mC mX11_traps) 102 = .ok (.if_icmp .ge 7, 3) := by decide +kernel
theorem dX11_traps_105 : decode (mC mX11_traps) 105 = .ok (.iconst 1, 1) := by decide +kernel
theorem dX11_traps_106 : decode (mC mX11_traps) 106 = .ok (.goto 7, 3) := by decide +kernel
theorem dX11_traps_109 : decode (mC mX11_traps) 109 = .ok (.aload_n 0, 1) := by decide +kernel
theorem dX11_traps_110 : decode (mC mX11_traps) 110 = .ok (.invokevirtual 294, 3) := by decide +kernel
theorem dX11_traps_113 : decode (mC mX11_traps) 113 = .ok (.if_icmp .ge 125, 3) := by decide +kernel
theorem dX11_traps_116 : decode (mC mX11_traps) 116 = .ok (.iload_n 2, 1) := by decide +kernel
theorem dX11_traps_117 : decode (mC mX11_traps) 117 = .ok (.iconst 3, 1) := by decide +kernel
theorem dX11_traps_118 : decode (mC mX11_traps) 118 = .ok (.if_icmp .ge 7, 3) := by decide +kernel
theorem dX11_traps_121 : decode (mC mX11_traps) 121 = .ok (.iconst 0, 1) := by decide +kernel
theorem dX11_traps_122 : decode (mC mX11_traps) 122 = .ok (.goto 7, 3) := by decide +kernel
theorem dX11_traps_125 : decode (mC mX11_traps) 125 = .ok (.iload 7, 2) := by decide +kernel
theorem dX11_traps_127 : decode (mC mX11_traps) 127 = .ok (.iconst 1, 1) := by decide +kernel
theorem dX11_traps_128 : decode (mC mX11_traps) 128 = .ok (.iadd, 1) := by decide +kernel
theorem dX11_traps_129 : decode (mC mX11_traps) 129 = .ok (.istore 8, 2) := by decide +kernel
theorem dX11_traps_131 : decode (mC mX11_traps) 131 = .ok (.iload 8, 2) := by decide +kernel
theorem dX11_traps_133 : decode (mC mX11_traps) 133 = .ok (.iload_n 2, 1) := by decide +kernel
theorem dX11_traps_134 : decode (mC mX11_traps) 134 = .ok (.iconst 3, 1) := by decide +kernel
theorem dX11_traps_135 : decode (mC mX11_traps) 135 = .ok (.if_icmp .ge 7, 3) := by decide +kernel
theorem dX11_traps_138 : decode (mC mX11_traps) 138 = .ok (.iconst 1, 1) := by decide +kernel
theorem dX11_traps_139 : decode (mC mX11_traps) 139 = .ok (.goto 7, 3) := by decide +kernel
theorem dX11_traps_142 : decode (mC mX11_traps) 142 = .ok (.aload_n 0, 1) := by decide +kernel
theorem dX11_traps_143 : decode (mC mX11_traps) 143 = .ok (.invokevirtual 294, 3) := by decide +kernel
theorem dX11_traps_146 : decode (mC mX11_traps) 146 = .ok (.if_icmp .ge 86, 3) := by decide +kernel
theorem dX11_traps_149 : decode (mC mX11_traps) 149 = .ok (.aload_n 0, 1) := by decide +kernel
theorem dX11_traps_150 : decode (mC mX11_traps) 150 = .ok (.getfield 56, 3) := by decide +kernel
theorem dX11_traps_153 : decode (mC mX11_traps) 153 = .ok (.iload 6, 2) := by decide +kernel
theorem dX11_traps_155 : decode (mC mX11_traps) 155 = .ok (.iaload, 1) := by decide +kernel
theorem dX11_traps_156 : decode (mC mX11_traps) 156 = .ok (.iload_n 2, 1) := by decide +kernel
theorem dX11_traps_157 : decode (mC mX11_traps) 157 = .ok (.iconst 2, 1) := by decide +kernel
theorem dX11_traps_158 : decode (mC mX11_traps) 158 = .ok (.if_icmp .ge 7, 3) := by decide +kernel
theorem dX11_traps_161 : decode (mC mX11_traps) 161 = .ok (.iconst 0, 1) := by decide +kernel
theorem dX11_traps_162 : decode (mC mX11_traps) 162 = .ok (.goto 10, 3) := by decide +kernel
theorem dX11_traps_165 : decode (mC mX11_traps) 165 = .ok (.aload_n 0, 1) := by decide +kernel
theorem dX11_traps_166 : decode (mC mX11_traps) 166 = .ok (.getfield 56, 3) := by decide +kernel
theorem dX11_traps_169 : decode (mC mX11_traps) 169 = .ok (.iload 7, 2) := by decide +kernel
theorem dX11_traps_171 : decode (mC mX11_traps) 171 = .ok (.iaload, 1) := by decide +kernel
theorem dX11_traps_172 : decode (mC mX11_traps) 172 = .ok (.ior, 1) := by decide +kernel
theorem dX11_traps_173 : decode (mC mX11_traps) 173 = .ok (.iload_n 2, 1) := by decide +kernel
theorem dX11_traps_174 : decode (mC mX11_traps) 174 = .ok (.iconst 3, 1) := by decide +kernel
theorem dX11_traps_175 : decode (mC mX11_traps) 175 = .ok (.if_icmp .ge 7, 3) := by decide +kernel
theorem dX11_traps_178 : decode (mC mX11_traps) 178 = .ok (.iconst 0, 1) := by decide +kernel
theorem dX11_traps_179 : decode (mC mX11_traps) 179 = .ok (.goto 10, 3) := by decide +kernel
theorem dX11_traps_182 : decode (mC mX11_traps) 182 = .ok (.aload_n 0, 1) := by decide +kernel
theorem dX11_traps_183 : decode (mC mX11_traps) 183 = .ok (.getfield 56, 3) := by decide +kernel
theorem dX11_traps_186 : decode (mC mX11_traps) 186 = .ok (.iload 8, 2) := by decide +kernel
theorem dX11_traps_188 : decode (mC mX11_traps) 188 = .ok (.iaload, 1) := by decide +kernel
theorem dX11_traps_189 : decode (mC mX11_traps) 189 = .ok (.ior, 1) := by decide +kernel
theorem dX11_traps_190 : decode (mC mX11_traps) 190 = .ok (.invokestatic 306, 3) := by decide +kernel
theorem dX11_traps_193 : decode (mC mX11_traps) 193 = .ok (.istore 9, 2) := by decide +kernel
theorem dX11_traps_195 : decode (mC mX11_traps) 195 = .ok (.iload 9, 2) := by decide +kernel
theorem dX11_traps_197 : decode (mC mX11_traps) 197 = .ok (.iload 5, 2) := by decide +kernel
theorem dX11_traps_199 : decode (mC mX11_traps) 199 = .ok (.if_icmp .gt 6, 3) := by decide +kernel
theorem dX11_traps_202 : decode (mC mX11_traps) 202 = .ok (.goto 24, 3) := by decide +kernel
theorem dX11_traps_205 : decode (mC mX11_traps) 205 = .ok (.sipush 4096, 3) := by decide +kernel
theorem dX11_traps_208 : decode (mC mX11_traps) 208 = .ok (.iload 6, 2) := by decide +kernel
theorem dX11_traps_210 : decode (mC mX11_traps) 210 = .ok (.imul, 1) := by decide +kernel
theorem dX11_traps_211 : decode (mC mX11_traps) 211 = .ok (.bipush 64, 2) := by decide +kernel
theorem dX11_traps_213 : decode (mC mX11_traps) 213 = .ok (.iload 7, 2) := by decide +kernel
theorem dX11_traps_215 : decode (mC mX11_traps) 215 = .ok (.imul, 1) := by decide +kernel
theorem dX11_traps_216 : decode (mC mX11_traps) 216 = .ok (.iadd, 1) := by decide +kernel
theorem dX11_traps_217 : decode (mC mX11_traps) 217 = .ok (.iload 8, 2) := by decide +kernel
theorem dX11_traps_219 : decode (mC mX11_traps) 219 = .ok (.iadd, 1) := by decide +kernel
theorem dX11_traps_220 : decode (mC mX11_traps) 220 = .ok (.istore 4, 2) := by decide +kernel
theorem dX11_traps_222 : decode (mC mX11_traps) 222 = .ok (.iload 9, 2) := by decide +kernel
theorem dX11_traps_224 : decode (mC mX11_traps) 224 = .ok (.istore 5, 2) := by decide +kernel
theorem dX11_traps_226 : decode (mC mX11_traps) 226 = .ok (.iinc 8 1, 3) := by decide +kernel
theorem dX11_traps_229 : decode (mC mX11_traps) 229 = .ok (.goto (-98), 3) := by decide +kernel
theorem dX11_traps_232 : decode (mC mX11_traps) 232 = .ok (.iinc 7 1, 3) := by decide +kernel
theorem dX11_traps_235 : decode (mC mX11_traps) 235 = .ok (.goto (-137), 3) := by decide +kernel
theorem dX11_traps_238 : decode (mC mX11_traps) 238 = .ok (.iinc 6 1, 3) := by decide +kernel
theorem dX11_traps_241 : decode (mC mX11_traps) 241 = .ok (.goto (-167), 3) := by decide +kernel
theorem dX11_traps_244 : decode (mC mX11_traps) 244 = .ok (.iload 4, 2) := by decide +kernel
theorem dX11_traps_246 : decode (mC mX11_traps) 246 = .ok (.ifCond .ge 5, 3) := by decide +kernel
theorem dX11_traps_249 : decode (mC mX11_traps) 249 = .ok (.iconst (-1), 1) := by decide +kernel
theorem dX11_traps_250 : decode (mC mX11_traps) 250 = .ok (.ireturn, 1) := by decide +kernel
theorem dX11_traps_251 : decode (mC mX11_traps) 251 = .ok (.iload_n 3, 1) := by decide +kernel
theorem dX11_traps_252 : decode (mC mX11_traps) 252 = .ok (.ifCond .ne 8, 3) := by decide +kernel
theorem dX11_traps_255 : decode (mC mX11_traps) 255 = .ok (.iload 5, 2) := by decide +kernel
theorem dX11_traps_257 : decode (mC mX11_traps) 257 = .ok (.goto 38, 3) := by decide +kernel
theorem dX11_traps_260 : decode (mC mX11_traps) 260 = .ok (.iload_n 3, 1) := by decide +kernel
theorem dX11_traps_261 : decode (mC mX11_traps) 261 = .ok (.iconst 1, 1) := by decide +kernel
theorem dX11_traps_262 : decode (mC mX11_traps) 262 = .ok (.if_icmp .ne 12, 3) := by decide +kernel
theorem dX11_traps_265 : decode (mC mX11_traps) 265 = .ok (.iload 4, 2) := by decide +kernel
theorem dX11_traps_267 : decode (mC mX11_traps) 267 = .ok (.sipush 4096, 3) := by decide +kernel
theorem dX11_traps_270 : decode (mC mX11_traps) 270 = .ok (.idiv, 1) := by decide +kernel
theorem dX11_traps_271 : decode (mC mX11_traps) 271 = .ok (.goto 24, 3) := by decide +kernel
theorem dX11_traps_274 : decode (mC mX11_traps) 274 = .ok (.iload_n 3, 1) := by decide +kernel
theorem dX11_traps_275 : decode (mC mX11_traps) 275 = .ok (.iconst 2, 1) := by decide +kernel
theorem dX11_traps_276 : decode (mC mX11_traps) 276 = .ok (.if_icmp .ne 14, 3) := by decide +kernel
theorem dX11_traps_279 : decode (mC mX11_traps) 279 = .ok (.iload 4, 2) := by decide +kernel
theorem dX11_traps_281 : decode (mC mX11_traps) 281 = .ok (.bipush 64, 2) := by decide +kernel
theorem dX11_traps_283 : decode (mC mX11_traps) 283 = .ok (.idiv, 1) := by decide +kernel
theorem dX11_traps_284 : decode (mC mX11_traps) 284 = .ok (.bipush 64, 2) := by decide +kernel
theorem dX11_traps_286 : decode (mC mX11_traps) 286 = .ok (.irem, 1) := by decide +kernel
theorem dX11_traps_287 : decode (mC mX11_traps) 287 = .ok (.goto 8, 3) := by decide +kernel
theorem dX11_traps_290 : decode (mC mX11_traps) 290 = .ok (.iload 4, 2) := by decide +kernel
theorem dX11_traps_292 : decode (mC mX11_traps) 292 = .ok (.bipush 64, 2) := by decide +kernel
theorem dX11_traps_294 : decode (mC mX11_traps) 294 = .ok (.irem, 1) := by decide +kernel
theorem dX11_traps_295 : decode (mC mX11_traps) 295 = .ok (.ireturn, 1) := by decide +kernel
theorem dX11_apart_0 : decode (mC mX11_apart) 0 = .ok (.iload_n 0, 1) := by decide +kernel
theorem dX11_apart_1 : decode (mC mX11_apart) 1 = .ok (.iload_n 1, 1) := by decide +kernel
theorem dX11_apart_2 : decode (mC mX11_apart) 2 = .ok (.if_icmp .le 9, 3) := by decide +kernel
theorem dX11_apart_5 : decode (mC mX11_apart) 5 = .ok (.iload_n 0, 1) := by decide +kernel
theorem dX11_apart_6 : decode (mC mX11_apart) 6 = .ok (.iload_n 1, 1) := by decide +kernel
theorem dX11_apart_7 : decode (mC mX11_apart) 7 = .ok (.isub, 1) := by decide +kernel
theorem dX11_apart_8 : decode (mC mX11_apart) 8 = .ok (.goto 6, 3) := by decide +kernel
theorem dX11_apart_11 : decode (mC mX11_apart) 11 = .ok (.iload_n 1, 1) := by decide +kernel
theorem dX11_apart_12 : decode (mC mX11_apart) 12 = .ok (.iload_n 0, 1) := by decide +kernel
theorem dX11_apart_13 : decode (mC mX11_apart) 13 = .ok (.isub, 1) := by decide +kernel
theorem dX11_apart_14 : decode (mC mX11_apart) 14 = .ok (.ireturn, 1) := by decide +kernel
theorem dX11_near_0 : decode (mC mX11_near) 0 = .ok (.aload_n 0, 1) := by decide +kernel
theorem dX11_near_1 : decode (mC mX11_near) 1 = .ok (.iload_n 1, 1) := by decide +kernel
theorem dX11_near_2 : decode (mC mX11_near) 2 = .ok (.invokevirtual 215, 3) := by decide +kernel
theorem dX11_near_5 : decode (mC mX11_near) 5 = .ok (.ifCond .eq 30, 3) := by decide +kernel
theorem dX11_near_8 : decode (mC mX11_near) 8 = .ok (.aload_n 0, 1) := by decide +kernel
theorem dX11_near_9 : decode (mC mX11_near) 9 = .ok (.iload_n 2, 1) := by decide +kernel
theorem dX11_near_10 : decode (mC mX11_near) 10 = .ok (.invokevirtual 297, 3) := by decide +kernel
theorem dX11_near_13 : decode (mC mX11_near) 13 = .ok (.ifCond .eq 22, 3) := by decide +kernel
theorem dX11_near_16 : decode (mC mX11_near) 16 = .ok (.iload_n 3, 1) := by decide +kernel
theorem dX11_near_17 : decode (mC mX11_near) 17 = .ok (.iconst 0, 1) := by decide +kernel
theorem dX11_near_18 : decode (mC mX11_near) 18 = .ok (.bipush 14, 2) := by decide +kernel
theorem dX11_near_20 : decode (mC mX11_near) 20 = .ok (.invokestatic 140, 3) := by decide +kernel
theorem dX11_near_23 : decode (mC mX11_near) 23 = .ok (.ifCond .eq 12, 3) := by decide +kernel
theorem dX11_near_26 : decode (mC mX11_near) 26 = .ok (.aload_n 0, 1) := by decide +kernel
theorem dX11_near_27 : decode (mC mX11_near) 27 = .ok (.iload 4, 2) := by decide +kernel
theorem dX11_near_29 : decode (mC mX11_near) 29 = .ok (.invokevirtual 285, 3) := by decide +kernel
theorem dX11_near_32 : decode (mC mX11_near) 32 = .ok (.ifCond .ne 5, 3) := by decide +kernel
theorem dX11_near_35 : decode (mC mX11_near) 35 = .ok (.iconst (-1), 1) := by decide +kernel
theorem dX11_near_36 : decode (mC mX11_near) 36 = .ok (.ireturn, 1) := by decide +kernel
theorem dX11_near_37 : decode (mC mX11_near) 37 = .ok (.aload_n 0, 1) := by decide +kernel
theorem dX11_near_38 : decode (mC mX11_near) 38 = .ok (.invokevirtual 276, 3) := by decide +kernel
theorem dX11_near_41 : decode (mC mX11_near) 41 = .ok (.iconst 0, 1) := by decide +kernel
theorem dX11_near_42 : decode (mC mX11_near) 42 = .ok (.istore 5, 2) := by decide +kernel
theorem dX11_near_44 : decode (mC mX11_near) 44 = .ok (.iconst 0, 1) := by decide +kernel
theorem dX11_near_45 : decode (mC mX11_near) 45 = .ok (.istore 6, 2) := by decide +kernel
theorem dX11_near_47 : decode (mC mX11_near) 47 = .ok (.iload 6, 2) := by decide +kernel
theorem dX11_near_49 : decode (mC mX11_near) 49 = .ok (.aload_n 0, 1) := by decide +kernel
theorem dX11_near_50 : decode (mC mX11_near) 50 = .ok (.invokevirtual 212, 3) := by decide +kernel
theorem dX11_near_53 : decode (mC mX11_near) 53 = .ok (.if_icmp .ge 96, 3) := by decide +kernel
theorem dX11_near_56 : decode (mC mX11_near) 56 = .ok (.aload_n 0, 1) := by decide +kernel
theorem dX11_near_57 : decode (mC mX11_near) 57 = .ok (.getfield 23, 3) := by decide +kernel
theorem dX11_near_60 : decode (mC mX11_near) 60 = .ok (.bipush 100, 2) := by decide +kernel
theorem dX11_near_62 : decode (mC mX11_near) 62 = .ok (.iload 6, 2) := by decide +kernel
theorem dX11_near_64 : decode (mC mX11_near) 64 = .ok (.imul, 1) := by decide +kernel
theorem dX11_near_65 : decode (mC mX11_near) 65 = .ok (.iload 4, 2) := by decide +kernel
theorem dX11_near_67 : decode (mC mX11_near) 67 = .ok (.iadd, 1) := by decide +kernel
theorem dX11_near_68 : decode (mC mX11_near) 68 = .ok (.iaload, 1) := by decide +kernel
theorem dX11_near_69 : decode (mC mX11_near) 69 = .ok (.istore 7, 2) := by decide +kernel
theorem dX11_near_71 : decode (mC mX11_near) 71 = .ok (.iload 7, 2) := by decide +kernel
theorem dX11_near_73 : decode (mC mX11_near) 73 = .ok (.iconst (-1), 1) := by decide +kernel
theorem dX11_near_74 : decode (mC mX11_near) 74 = .ok (.if_icmp .eq 48, 3) := by decide +kernel
theorem dX11_near_77 : decode (mC mX11_near) 77 = .ok (.iload 7, 2) := by decide +kernel
theorem dX11_near_79 : decode (mC mX11_near) 79 = .ok (.aload_n 0, 1) := by decide +kernel
theorem dX11_near_80 : decode (mC mX11_near) 80 = .ok (.iconst 0, 1) := by decide +kernel
theorem dX11_near_81 : decode (mC mX11_near) 81 = .ok (.invokevirtual 209, 3) := by decide +kernel
theorem dX11_near_84 : decode (mC mX11_near) 84 = .ok (.irem, 1) := by decide +kernel
theorem dX11_near_85 : decode (mC mX11_near) 85 = .ok (.iload_n 2, 1) := by decide +kernel
theorem dX11_near_86 : decode (mC mX11_near) 86 = .ok (.aload_n 0, 1) := by decide +kernel
theorem dX11_near_87 : decode (mC mX11_near) 87 = .ok (.iconst 0, 1) := by decide +kernel
theorem dX11_near_88 : decode (mC mX11_near) 88 = .ok (.invokevirtual 209, 3) := by decide +kernel
theorem dX11_near_91 : decode (mC mX11_near) 91 = .ok (.irem, 1) := by decide +kernel
theorem dX11_near_92 : decode (mC mX11_near) 92 = .ok (.invokestatic 324, 3) := by decide +kernel
theorem dX11_near_95 : decode (mC mX11_near) 95 = .ok (.iload 7, 2) := by decide +kernel
theorem dX11_near_97 : decode (mC mX11_near) 97 = .ok (.aload_n 0, 1) := by decide +kernel
theorem dX11_near_98 : decode (mC mX11_near) 98 = .ok (.iconst 0, 1) := by decide +kernel
theorem dX11_near_99 : decode (mC mX11_near) 99 = .ok (.invokevirtual 209, 3) := by decide +kernel
theorem dX11_near_102 : decode (mC mX11_near) 102 = .ok (.idiv, 1) := by decide +kernel
theorem dX11_near_103 : decode (mC mX11_near) 103 = .ok (.iload_n 2, 1) := by decide +kernel
theorem dX11_near_104 : decode (mC mX11_near) 104 = .ok (.aload_n 0, 1) := by decide +kernel
theorem dX11_near_105 : decode (mC mX11_near) 105 = .ok (.iconst 0, 1) := by decide +kernel
theorem dX11_near_106 : decode (mC mX11_near) 106 = .ok (.invokevirtual 209, 3) := by decide +kernel
theorem dX11_near_109 : decode (mC mX11_near) 109 = .ok (.idiv, 1) := by decide +kernel
theorem dX11_near_110 : decode (mC mX11_near) 110 = .ok (.invokestatic 324, 3) := by decide +kernel
theorem dX11_near_113 : decode (mC mX11_near) 113 = .ok (.iadd, 1) := by decide +kernel
theorem dX11_near_114 : decode (mC mX11_near) 114 = .ok (.iload_n 3, 1) := by decide +kernel
theorem dX11_near_115 : decode (mC mX11_near) 115 = .ok (.if_icmp .gt 7, 3) := by decide +kernel
theorem dX11_near_118 : decode (mC mX11_near) 118 = .ok (.iconst 1, 1) := by decide +kernel
theorem dX11_near_119 : decode (mC mX11_near) 119 = .ok (.goto 4, 3) := by decide +kernel
theorem dX11_near_122 : decode (mC mX11_near) 122 = .ok (.iconst 0, 1) := by decide +kernel
theorem dX11_near_123 : decode (mC mX11_near) 123 = .ok (.istore 8, 2) := by decide +kernel
theorem dX11_near_125 : decode (mC mX11_near) 125 = .ok (.iload 5, 2) := by decide +kernel
theorem dX11_near_127 : decode (mC mX11_near) 127 = .ok (.iload 8, 2) := by decide +kernel
theorem dX11_near_129 : decode (mC mX11_near) 129 = .ok (.ifCond .eq 10, 3) := by decide +kernel
theorem dX11_near_132 : decode (mC mX11_near) 132 = .ok (.iconst 1, 1) := by decide +kernel
theorem dX11_near_133 : decode (mC mX11_near) 133 = .ok (.iload 6, 2) := by decide +kernel
theorem dX11_near_135 : decode (mC mX11_near) 135 = .ok (.ishl, 1) := by decide +kernel
theorem dX11_near_136 : decode (mC mX11_near) 136 = .ok (.goto 4, 3) := by decide +kernel
theorem dX11_near_139 : decode (mC mX11_near) 139 = .ok (.iconst 0, 1) := by decide +kernel
theorem dX11_near_140 : decode (mC mX11_near) 140 = .ok (.ior, 1) := by decide +kernel
theorem dX11_near_141 : decode (mC mX11_near) 141 = .ok (.istore 5, 2) := by decide +kernel
theorem dX11_near_143 : decode (mC mX11_near) 143 = .ok (.iinc 6 1, 3) := by decide +kernel
theorem dX11_near_146 : decode (mC mX11_near) 146 = .ok (.goto (-99), 3) := by decide +kernel
theorem dX11_near_149 : decode (mC mX11_near) 149 = .ok (.iload 5, 2) := by decide +kernel
theorem dX11_near_151 : decode (mC mX11_near) 151 = .ok (.ireturn, 1) := by decide +kernel
theorem dX11_topmosts_0 : decode (mC mX11_topmosts) 0 = .ok (.iconst 0, 1) := by decide +kernel
theorem dX11_topmosts_1 : decode (mC mX11_topmosts) 1 = .ok (.istore_n 1, 1) := by decide +kernel
theorem dX11_topmosts_2 : decode (mC mX11_topmosts) 2 = .ok (.iload_n 1, 1) := by decide +kernel
theorem dX11_topmosts_3 : decode (mC mX11_topmosts) 3 = .ok (.bipush 64, 2) := by decide +kernel
theorem dX11_topmosts_5 : decode (mC mX11_topmosts) 5 = .ok (.if_icmp .ge 55, 3) := by decide +kernel
theorem dX11_topmosts_8 : decode (mC mX11_topmosts) 8 = .ok (.aload_n 0, 1) := by decide +kernel
theorem dX11_topmosts_9 : decode (mC mX11_topmosts) 9 = .ok (.iload_n 1, 1) := by decide +kernel
theorem dX11_topmosts_10 : decode (mC mX11_topmosts) 10 = .ok (.invokevirtual 273, 3) := by decide +kernel
theorem dX11_topmosts_13 : decode (mC mX11_topmosts) 13 = .ok (.istore_n 2, 1) := by decide +kernel
theorem dX11_topmosts_14 : decode (mC mX11_topmosts) 14 = .ok (.aload_n 0, 1) := by decide +kernel
theorem dX11_topmosts_15 : decode (mC mX11_topmosts) 15 = .ok (.getfield 59, 3) := by decide +kernel
theorem dX11_topmosts_18 : decode (mC mX11_topmosts) 18 = .ok (.iload_n 1, 1) := by decide +kernel
theorem dX11_topmosts_19 : decode (mC mX11_topmosts) 19 = .ok (.iload_n 2, 1) := by decide +kernel
theorem dX11_topmosts_20 : decode (mC mX11_topmosts) 20 = .ok (.iconst (-1), 1) := by decide +kernel
theorem dX11_topmosts_21 : decode (mC mX11_topmosts) 21 = .ok (.if_icmp .ne 7, 3) := by decide +kernel
theorem dX11_topmosts_24 : decode (mC mX11_topmosts) 24 = .ok (.iconst (-1), 1) := by decide +kernel
theorem dX11_topmosts_25 : decode (mC mX11_topmosts) 25 = .ok (.goto 28, 3) := by decide +kernel
theorem dX11_topmosts_28 : decode (mC mX11_topmosts) 28 = .ok (.bipush 8, 2) := by decide +kernel
theorem dX11_topmosts_30 : decode (mC mX11_topmosts) 30 = .ok (.aload_n 0, 1) := by decide +kernel
theorem dX11_topmosts_31 : decode (mC mX11_topmosts) 31 = .ok (.getfield 32, 3) := by decide +kernel
theorem dX11_topmosts_34 : decode (mC mX11_topmosts) 34 = .ok (.iload_n 2, 1) := by decide +kernel
theorem dX11_topmosts_35 : decode (mC mX11_topmosts) 35 = .ok (.iaload, 1) := by decide +kernel
theorem dX11_topmosts_36 : decode (mC mX11_topmosts) 36 = .ok (.imul, 1) := by decide +kernel
theorem dX11_topmosts_37 : decode (mC mX11_topmosts) 37 = .ok (.iconst 4, 1) := by decide +kernel
theorem dX11_topmosts_38 : decode (mC mX11_topmosts) 38 = .ok (.aload_n 0, 1) := by decide +kernel
theorem dX11_topmosts_39 : decode (mC mX11_topmosts) 39 = .ok (.getfield 35, 3) := by decide +kernel
theorem dX11_topmosts_42 : decode (mC mX11_topmosts) 42 = .ok (.iload_n 2, 1) := by decide +kernel
theorem dX11_topmosts_43 : decode (mC mX11_topmosts) 43 = .ok (.iaload, 1) := by decide +kernel
theorem dX11_topmosts_44 : decode (mC mX11_topmosts) 44 = .ok (.imul, 1) := by decide +kernel
theorem dX11_topmosts_45 : decode (mC mX11_topmosts) 45 = .ok (.iadd, 1) := by decide +kernel
theorem dX11_topmosts_46 : decode (mC mX11_topmosts) 46 = .ok (.aload_n 0, 1) := by decide +kernel
theorem dX11_topmosts_47 : decode (mC mX11_topmosts) 47 = .ok (.getfield 38, 3) := by decide +kernel
theorem dX11_topmosts_50 : decode (mC mX11_topmosts) 50 = .ok (.iload_n 2, 1) := by decide +kernel
theorem dX11_topmosts_51 : decode (mC mX11_topmosts) 51 = .ok (.iaload, 1) := by decide +kernel
theorem dX11_topmosts_52 : decode (mC mX11_topmosts) 52 = .ok (.iadd, 1) := by decide +kernel
theorem dX11_topmosts_53 : decode (mC mX11_topmosts) 53 = .ok (.iastore, 1) := by decide +kernel
theorem dX11_topmosts_54 : decode (mC mX11_topmosts) 54 = .ok (.iinc 1 1, 3) := by decide +kernel
theorem dX11_topmosts_57 : decode (mC mX11_topmosts) 57 = .ok (.goto (-55), 3) := by decide +kernel
theorem dX11_topmosts_60 : decode (mC mX11_topmosts) 60 = .ok (.return_, 1) := by decide +kernel
theorem dX11_newAt_0 : decode (mC mX11_newAt) 0 = .ok (.aload_n 0, 1) := by decide +kernel
theorem dX11_newAt_1 : decode (mC mX11_newAt) 1 = .ok (.getfield 59, 3) := by decide +kernel
theorem dX11_newAt_4 : decode (mC mX11_newAt) 4 = .ok (.iload_n 1, 1) := by decide +kernel
theorem dX11_newAt_5 : decode (mC mX11_newAt) 5 = .ok (.iaload, 1) := by decide +kernel
theorem dX11_newAt_6 : decode (mC mX11_newAt) 6 = .ok (.bipush 8, 2) := by decide +kernel
theorem dX11_newAt_8 : decode (mC mX11_newAt) 8 = .ok (.aload_n 0, 1) := by decide +kernel
theorem dX11_newAt_9 : decode (mC mX11_newAt) 9 = .ok (.aload_n 0, 1) := by decide +kernel
theorem dX11_newAt_10 : decode (mC mX11_newAt) 10 = .ok (.getfield 327, 3) := by decide +kernel
theorem dX11_newAt_13 : decode (mC mX11_newAt) 13 = .ok (.iconst 0, 1) := by decide +kernel
theorem dX11_newAt_14 : decode (mC mX11_newAt) 14 = .ok (.invokevirtual 236, 3) := by decide +kernel
theorem dX11_newAt_17 : decode (mC mX11_newAt) 17 = .ok (.imul, 1) := by decide +kernel
theorem dX11_newAt_18 : decode (mC mX11_newAt) 18 = .ok (.iconst 4, 1) := by decide +kernel
theorem dX11_newAt_19 : decode (mC mX11_newAt) 19 = .ok (.iload_n 2, 1) := by decide +kernel
theorem dX11_newAt_20 : decode (mC mX11_newAt) 20 = .ok (.imul, 1) := by decide +kernel
theorem dX11_newAt_21 : decode (mC mX11_newAt) 21 = .ok (.iadd, 1) := by decide +kernel
theorem dX11_newAt_22 : decode (mC mX11_newAt) 22 = .ok (.iload_n 3, 1) := by decide +kernel
theorem dX11_newAt_23 : decode (mC mX11_newAt) 23 = .ok (.iadd, 1) := by decide +kernel
theorem dX11_newAt_24 : decode (mC mX11_newAt) 24 = .ok (.if_icmp .ne 7, 3) := by decide +kernel
theorem dX11_newAt_27 : decode (mC mX11_newAt) 27 = .ok (.iconst 0, 1) := by decide +kernel
theorem dX11_newAt_28 : decode (mC mX11_newAt) 28 = .ok (.goto 4, 3) := by decide +kernel
theorem dX11_newAt_31 : decode (mC mX11_newAt) 31 = .ok (.iconst 1, 1) := by decide +kernel
theorem dX11_newAt_32 : decode (mC mX11_newAt) 32 = .ok (.ireturn, 1) := by decide +kernel
theorem dX11_by_0 : decode (mC mX11_by) 0 = .ok (.aload_n 0, 1) := by decide +kernel
theorem dX11_by_1 : decode (mC mX11_by) 1 = .ok (.iload_n 2, 1) := by decide +kernel
theorem dX11_by_2 : decode (mC mX11_by) 2 = .ok (.iload 4, 2) := by decide +kernel
theorem dX11_by_4 : decode (mC mX11_by) 4 = .ok (.aload_n 0, 1) := by decide +kernel
theorem dX11_by_5 : decode (mC mX11_by) 5 = .ok (.aload_n 0, 1) := by decide +kernel
theorem dX11_by_6 : decode (mC mX11_by) 6 = .ok (.getfield 327, 3) := by decide +kernel
theorem dX11_by_9 : decode (mC mX11_by) 9 = .ok (.iconst 1, 1) := by decide +kernel
theorem dX11_by_10 : decode (mC mX11_by) 10 = .ok (.invokevirtual 236, 3) := by decide +kernel
theorem dX11_by_13 : decode (mC mX11_by) 13 = .ok (.invokevirtual 251, 3) := by decide +kernel
theorem dX11_by_16 : decode (mC mX11_by) 16 = .ok (.istore 5, 2) := by decide +kernel
theorem dX11_by_18 : decode (mC mX11_by) 18 = .ok (.iload 5, 2) := by decide +kernel
theorem dX11_by_20 : decode (mC mX11_by) 20 = .ok (.iconst (-1), 1) := by decide +kernel
theorem dX11_by_21 : decode (mC mX11_by) 21 = .ok (.if_icmp .ne 9, 3) := by decide +kernel
theorem dX11_by_24 : decode (mC mX11_by) 24 = .ok (.ldc_w 330, 3) := by decide +kernel
theorem dX11_by_27 : decode (mC mX11_by) 27 = .ok (.goto 34, 3) := by decide +kernel
theorem dX11_by_30 : decode (mC mX11_by) 30 = .ok (.aload_n 0, 1) := by decide +kernel
theorem dX11_by_31 : decode (mC mX11_by) 31 = .ok (.iload 5, 2) := by decide +kernel
theorem dX11_by_33 : decode (mC mX11_by) 33 = .ok (.iconst 1, 1) := by decide +kernel
theorem dX11_by_34 : decode (mC mX11_by) 34 = .ok (.iload_n 3, 1) := by decide +kernel
theorem dX11_by_35 : decode (mC mX11_by) 35 = .ok (.isub, 1) := by decide +kernel
theorem dX11_by_36 : decode (mC mX11_by) 36 = .ok (.iload 4, 2) := by decide +kernel
theorem dX11_by_38 : decode (mC mX11_by) 38 = .ok (.invokevirtual 331, 3) := by decide +kernel
theorem dX11_by_41 : decode (mC mX11_by) 41 = .ok (.aload_n 0, 1) := by decide +kernel
theorem dX11_by_42 : decode (mC mX11_by) 42 = .ok (.getfield 62, 3) := by decide +kernel
theorem dX11_by_45 : decode (mC mX11_by) 45 = .ok (.sipush 128, 3) := by decide +kernel
theorem dX11_by_48 : decode (mC mX11_by) 48 = .ok (.iload_n 1, 1) := by decide +kernel
theorem dX11_by_49 : decode (mC mX11_by) 49 = .ok (.imul, 1) := by decide +kernel
theorem dX11_by_50 : decode (mC mX11_by) 50 = .ok (.iconst 2, 1) := by decide +kernel
theorem dX11_by_51 : decode (mC mX11_by) 51 = .ok (.iload 5, 2) := by decide +kernel
theorem dX11_by_53 : decode (mC mX11_by) 53 = .ok (.imul, 1) := by decide +kernel
theorem dX11_by_54 : decode (mC mX11_by) 54 = .ok (.iadd, 1) := by decide +kernel
theorem dX11_by_55 : decode (mC mX11_by) 55 = .ok (.iconst 1, 1) := by decide +kernel
theorem dX11_by_56 : decode (mC mX11_by) 56 = .ok (.iadd, 1) := by decide +kernel
theorem dX11_by_57 : decode (mC mX11_by) 57 = .ok (.iload_n 3, 1) := by decide +kernel
theorem dX11_by_58 : decode (mC mX11_by) 58 = .ok (.isub, 1) := by decide +kernel
theorem dX11_by_59 : decode (mC mX11_by) 59 = .ok (.iaload, 1) := by decide +kernel
theorem dX11_by_60 : decode (mC mX11_by) 60 = .ok (.iadd, 1) := by decide +kernel
theorem dX11_by_61 : decode (mC mX11_by) 61 = .ok (.ireturn, 1) := by decide +kernel
