theorem d_R_has_8 : decode b_R_has 8 = .ok (.aload_n 0, 1) := by decide +kernel
theorem d_R_has_9 : decode b_R_has 9 = .ok (.getfield 123, 3) := by decide +kernel
theorem d_R_has_12 : decode b_R_has 12 = .ok (.if_icmp .ge 144, 3) := by decide +kernel
theorem d_R_has_15 : decode b_R_has 15 = .ok (.aload_n 0, 1) := by decide +kernel
theorem d_R_has_16 : decode b_R_has 16 = .ok (.getfield 28, 3) := by decide +kernel
theorem d_R_has_19 : decode b_R_has 19 = .ok (.iload 5, 2) := by decide +kernel
theorem d_R_has_21 : decode b_R_has 21 = .ok (.iaload, 1) := by decide +kernel
theorem d_R_has_22 : decode b_R_has 22 = .ok (.iload_n 1, 1) := by decide +kernel
theorem d_R_has_23 : decode b_R_has 23 = .ok (.if_icmp .ne 29, 3) := by decide +kernel
theorem d_R_has_26 : decode b_R_has 26 = .ok (.aload_n 0, 1) := by decide +kernel
theorem d_R_has_27 : decode b_R_has 27 = .ok (.getfield 31, 3) := by decide +kernel
theorem d_R_has_30 : decode b_R_has 30 = .ok (.iload 5, 2) := by decide +kernel
theorem d_R_has_32 : decode b_R_has 32 = .ok (.iaload, 1) := by decide +kernel
theorem d_R_has_33 : decode b_R_has 33 = .ok (.iload_n 2, 1) := by decide +kernel
theorem d_R_has_34 : decode b_R_has 34 = .ok (.if_icmp .ne 18, 3) := by decide +kernel
theorem d_R_has_37 : decode b_R_has 37 = .ok (.aload_n 0, 1) := by decide +kernel
theorem d_R_has_38 : decode b_R_has 38 = .ok (.getfield 34, 3) := by decide +kernel
theorem d_R_has_41 : decode b_R_has 41 = .ok (.iload 5, 2) := by decide +kernel
theorem d_R_has_43 : decode b_R_has 43 = .ok (.iaload, 1) := by decide +kernel
theorem d_R_has_44 : decode b_R_has 44 = .ok (.iload_n 3, 1) := by decide +kernel
theorem d_R_has_45 : decode b_R_has 45 = .ok (.if_icmp .ne 7, 3) := by decide +kernel
theorem d_R_has_48 : decode b_R_has 48 = .ok (.iconst 1, 1) := by decide +kernel
theorem d_R_has_49 : decode b_R_has 49 = .ok (.goto 4, 3) := by decide +kernel
theorem d_R_has_52 : decode b_R_has 52 = .ok (.iconst 0, 1) := by decide +kernel
theorem d_R_has_53 : decode b_R_has 53 = .ok (.istore 6, 2) := by decide +kernel
theorem d_R_has_55 : decode b_R_has 55 = .ok (.iload 6, 2) := by decide +kernel
theorem d_R_has_57 : decode b_R_has 57 = .ok (.ifCond .ne 36, 3) := by decide +kernel
theorem d_R_has_60 : decode b_R_has 60 = .ok (.aload_n 0, 1) := by decide +kernel
theorem d_R_has_61 : decode b_R_has 61 = .ok (.getfield 28, 3) := by decide +kernel
theorem d_R_has_64 : decode b_R_has 64 = .ok (.iload 5, 2) := by decide +kernel
theorem d_R_has_66 : decode b_R_has 66 = .ok (.iaload, 1) := by decide +kernel
theorem d_R_has_67 : decode b_R_has 67 = .ok (.iload_n 2, 1) := by decide +kernel
theorem d_R_has_68 : decode b_R_has 68 = .ok (.if_icmp .ne 29, 3) := by decide +kernel
theorem d_R_has_71 : decode b_R_has 71 = .ok (.aload_n 0, 1) := by decide +kernel
theorem d_R_has_72 : decode b_R_has 72 = .ok (.getfield 31, 3) := by decide +kernel
theorem d_R_has_75 : decode b_R_has 75 = .ok (.iload 5, 2) := by decide +kernel
theorem d_R_has_77 : decode b_R_has 77 = .ok (.iaload, 1) := by decide +kernel
theorem d_R_has_78 : decode b_R_has 78 = .ok (.iload_n 3, 1) := by decide +kernel
theorem d_R_has_79 : decode b_R_has 79 = .ok (.if_icmp .ne 18, 3) := by decide +kernel
theorem d_R_has_82 : decode b_R_has 82 = .ok (.aload_n 0, 1) := by decide +kernel
theorem d_R_has_83 : decode b_R_has 83 = .ok (.getfield 34, 3) := by decide +kernel
theorem d_R_has_86 : decode b_R_has 86 = .ok (.iload 5, 2) := by decide +kernel
theorem d_R_has_88 : decode b_R_has 88 = .ok (.iaload, 1) := by decide +kernel
theorem d_R_has_89 : decode b_R_has 89 = .ok (.iload_n 1, 1) := by decide +kernel
theorem d_R_has_90 : decode b_R_has 90 = .ok (.if_icmp .ne 7, 3) := by decide +kernel
theorem d_R_has_93 : decode b_R_has 93 = .ok (.iconst 1, 1) := by decide +kernel
theorem d_R_has_94 : decode b_R_has 94 = .ok (.goto 4, 3) := by decide +kernel
theorem d_R_has_97 : decode b_R_has 97 = .ok (.iconst 0, 1) := by decide +kernel
theorem d_R_has_98 : decode b_R_has 98 = .ok (.istore 6, 2) := by decide +kernel
theorem d_R_has_100 : decode b_R_has 100 = .ok (.iload 4, 2) := by decide +kernel
theorem d_R_has_102 : decode b_R_has 102 = .ok (.ifCond .ne 41, 3) := by decide +kernel
theorem d_R_has_105 : decode b_R_has 105 = .ok (.iload 6, 2) := by decide +kernel
theorem d_R_has_107 : decode b_R_has 107 = .ok (.ifCond .ne 36, 3) := by decide +kernel
theorem d_R_has_110 : decode b_R_has 110 = .ok (.aload_n 0, 1) := by decide +kernel
theorem d_R_has_111 : decode b_R_has 111 = .ok (.getfield 28, 3) := by decide +kernel
theorem d_R_has_114 : decode b_R_has 114 = .ok (.iload 5, 2) := by decide +kernel
theorem d_R_has_116 : decode b_R_has 116 = .ok (.iaload, 1) := by decide +kernel
theorem d_R_has_117 : decode b_R_has 117 = .ok (.iload_n 3, 1) := by decide +kernel
theorem d_R_has_118 : decode b_R_has 118 = .ok (.if_icmp .ne 29, 3) := by decide +kernel
theorem d_R_has_121 : decode b_R_has 121 = .ok (.aload_n 0, 1) := by decide +kernel
theorem d_R_has_122 : decode b_R_has 122 = .ok (.getfield 31, 3) := by decide +kernel
theorem d_R_has_125 : decode b_R_has 125 = .ok (.iload 5, 2) := by decide +kernel
theorem d_R_has_127 : decode b_R_has 127 = .ok (.iaload, 1) := by decide +kernel
theorem d_R_has_128 : decode b_R_has 128 = .ok (.iload_n 1, 1) := by decide +kernel
theorem d_R_has_129 : decode b_R_has 129 = .ok (.if_icmp .ne 18, 3) := by decide +kernel
theorem d_R_has_132 : decode b_R_has 132 = .ok (.aload_n 0, 1) := by decide +kernel
theorem d_R_has_133 : decode b_R_has 133 = .ok (.getfield 34, 3) := by decide +kernel
theorem d_R_has_136 : decode b_R_has 136 = .ok (.iload 5, 2) := by decide +kernel
theorem d_R_has_138 : decode b_R_has 138 = .ok (.iaload, 1) := by decide +kernel
theorem d_R_has_139 : decode b_R_has 139 = .ok (.iload_n 2, 1) := by decide +kernel
theorem d_R_has_140 : decode b_R_has 140 = .ok (.if_icmp .ne 7, 3) := by decide +kernel
theorem d_R_has_143 : decode b_R_has 143 = .ok (.iconst 1, 1) := by decide +kernel
theorem d_R_has_144 : decode b_R_has 144 = .ok (.goto 4, 3) := by decide +kernel
theorem d_R_has_147 : decode b_R_has 147 = .ok (.iconst 0, 1) := by decide +kernel
theorem d_R_has_148 : decode b_R_has 148 = .ok (.istore 4, 2) := by decide +kernel
theorem d_R_has_150 : decode b_R_has 150 = .ok (.iinc 5 1, 3) := by decide +kernel
theorem d_R_has_153 : decode b_R_has 153 = .ok (.goto (-147), 3) := by decide +kernel
theorem d_R_has_156 : decode b_R_has 156 = .ok (.iload 4, 2) := by decide +kernel
theorem d_R_has_158 : decode b_R_has 158 = .ok (.ireturn, 1) := by decide +kernel
theorem d_R_carve_0 : decode b_R_carve 0 = .ok (.iconst 0, 1) := by decide +kernel
theorem d_R_carve_1 : decode b_R_carve 1 = .ok (.istore_n 3, 1) := by decide +kernel
theorem d_R_carve_2 : decode b_R_carve 2 = .ok (.iload_n 3, 1) := by decide +kernel
theorem d_R_carve_3 : decode b_R_carve 3 = .ok (.aload_n 0, 1) := by decide +kernel
theorem d_R_carve_4 : decode b_R_carve 4 = .ok (.getfield 123, 3) := by decide +kernel
theorem d_R_carve_7 : decode b_R_carve 7 = .ok (.if_icmp .ge 173, 3) := by decide +kernel
theorem d_R_carve_10 : decode b_R_carve 10 = .ok (.iconst 0, 1) := by decide +kernel
theorem d_R_carve_11 : decode b_R_carve 11 = .ok (.istore 4, 2) := by decide +kernel
theorem d_R_carve_13 : decode b_R_carve 13 = .ok (.iload 4, 2) := by decide +kernel
theorem d_R_carve_15 : decode b_R_carve 15 = .ok (.aload_n 0, 1) := by decide +kernel
theorem d_R_carve_16 : decode b_R_carve 16 = .ok (.getfield 105, 3) := by decide +kernel
theorem d_R_carve_19 : decode b_R_carve 19 = .ok (.if_icmp .ge 74, 3) := by decide +kernel
theorem d_R_carve_22 : decode b_R_carve 22 = .ok (.iload_n 1, 1) := by decide +kernel
theorem d_R_carve_23 : decode b_R_carve 23 = .ok (.ifCond .eq 70, 3) := by decide +kernel
theorem d_R_carve_26 : decode b_R_carve 26 = .ok (.aload_n 0, 1) := by decide +kernel
theorem d_R_carve_27 : decode b_R_carve 27 = .ok (.getfield 37, 3) := by decide +kernel
theorem d_R_carve_30 : decode b_R_carve 30 = .ok (.iload_n 3, 1) := by decide +kernel
theorem d_R_carve_31 : decode b_R_carve 31 = .ok (.aload_n 0, 1) := by decide +kernel
theorem d_R_carve_32 : decode b_R_carve 32 = .ok (.getfield 37, 3) := by decide +kernel
theorem d_R_carve_35 : decode b_R_carve 35 = .ok (.iload_n 3, 1) := by decide +kernel
theorem d_R_carve_36 : decode b_R_carve 36 = .ok (.baload, 1) := by decide +kernel
theorem d_R_carve_37 : decode b_R_carve 37 = .ok (.ifCond .ne 44, 3) := by decide +kernel
theorem d_R_carve_40 : decode b_R_carve 40 = .ok (.aload_n 0, 1) := by decide +kernel
theorem d_R_carve_41 : decode b_R_carve 41 = .ok (.aload_n 0, 1) := by decide +kernel
theorem d_R_carve_42 : decode b_R_carve 42 = .ok (.getfield 28, 3) := by decide +kernel
theorem d_R_carve_45 : decode b_R_carve 45 = .ok (.iload_n 3, 1) := by decide +kernel
theorem d_R_carve_46 : decode b_R_carve 46 = .ok (.iaload, 1) := by decide +kernel
theorem d_R_carve_47 : decode b_R_carve 47 = .ok (.aload_n 0, 1) := by decide +kernel
theorem d_R_carve_48 : decode b_R_carve 48 = .ok (.getfield 31, 3) := by decide +kernel
theorem d_R_carve_51 : decode b_R_carve 51 = .ok (.iload_n 3, 1) := by decide +kernel
theorem d_R_carve_52 : decode b_R_carve 52 = .ok (.iaload, 1) := by decide +kernel
theorem d_R_carve_53 : decode b_R_carve 53 = .ok (.aload_n 0, 1) := by decide +kernel
theorem d_R_carve_54 : decode b_R_carve 54 = .ok (.getfield 34, 3) := by decide +kernel
theorem d_R_carve_57 : decode b_R_carve 57 = .ok (.iload_n 3, 1) := by decide +kernel
theorem d_R_carve_58 : decode b_R_carve 58 = .ok (.iaload, 1) := by decide +kernel
theorem d_R_carve_59 : decode b_R_carve 59 = .ok (.aload_n 0, 1) := by decide +kernel
theorem d_R_carve_60 : decode b_R_carve 60 = .ok (.getfield 22, 3) := by decide +kernel
theorem d_R_carve_63 : decode b_R_carve 63 = .ok (.iload 4, 2) := by decide +kernel
theorem d_R_carve_65 : decode b_R_carve 65 = .ok (.iaload, 1) := by decide +kernel
theorem d_R_carve_66 : decode b_R_carve 66 = .ok (.i2l, 1) := by decide +kernel
theorem d_R_carve_67 : decode b_R_carve 67 = .ok (.aload_n 0, 1) := by decide +kernel
theorem d_R_carve_68 : decode b_R_carve 68 = .ok (.getfield 25, 3) := by decide +kernel
theorem d_R_carve_71 : decode b_R_carve 71 = .ok (.iload 4, 2) := by decide +kernel
theorem d_R_carve_73 : decode b_R_carve 73 = .ok (.iaload, 1) := by decide +kernel
theorem d_R_carve_74 : decode b_R_carve 74 = .ok (.i2l, 1) := by decide +kernel
theorem d_R_carve_75 : decode b_R_carve 75 = .ok (.invokevirtual 143, 3) := by decide +kernel
theorem d_R_carve_78 : decode b_R_carve 78 = .ok (.ifCond .eq 7, 3) := by decide +kernel
theorem d_R_carve_81 : decode b_R_carve 81 = .ok (.iconst 1, 1) := by decide +kernel
theorem d_R_carve_82 : decode b_R_carve 82 = .ok (.goto 4, 3) := by decide +kernel
theorem d_R_carve_85 : decode b_R_carve 85 = .ok (.iconst 0, 1) := by decide +kernel
theorem d_R_carve_86 : decode b_R_carve 86 = .ok (.bastore, 1) := by decide +kernel
theorem d_R_carve_87 : decode b_R_carve 87 = .ok (.iinc 4 1, 3) := by decide +kernel
theorem d_R_carve_90 : decode b_R_carve 90 = .ok (.goto (-77), 3) := by decide +kernel
theorem d_R_carve_93 : decode b_R_carve 93 = .ok (.aload_n 0, 1) := by decide +kernel
theorem d_R_carve_94 : decode b_R_carve 94 = .ok (.getfield 37, 3) := by decide +kernel
theorem d_R_carve_97 : decode b_R_carve 97 = .ok (.iload_n 3, 1) := by decide +kernel
theorem d_R_carve_98 : decode b_R_carve 98 = .ok (.aload_n 0, 1) := by decide +kernel
theorem d_R_carve_99 : decode b_R_carve 99 = .ok (.getfield 37, 3) := by decide +kernel
theorem d_R_carve_102 : decode b_R_carve 102 = .ok (.iload_n 3, 1) := by decide +kernel
theorem d_R_carve_103 : decode b_R_carve 103 = .ok (.baload, 1) := by decide +kernel
theorem d_R_carve_104 : decode b_R_carve 104 = .ok (.ifCond .ne 64, 3) := by decide +kernel
theorem d_R_carve_107 : decode b_R_carve 107 = .ok (.iload_n 2, 1) := by decide +kernel
theorem d_R_carve_108 : decode b_R_carve 108 = .ok (.ifCond .eq 64, 3) := by decide +kernel
theorem d_R_carve_111 : decode b_R_carve 111 = .ok (.aload_n 0, 1) := by decide +kernel
theorem d_R_carve_112 : decode b_R_carve 112 = .ok (.aload_n 0, 1) := by decide +kernel
theorem d_R_carve_113 : decode b_R_carve 113 = .ok (.getfield 28, 3) := by decide +kernel
theorem d_R_carve_116 : decode b_R_carve 116 = .ok (.iload_n 3, 1) := by decide +kernel
theorem d_R_carve_117 : decode b_R_carve 117 = .ok (.iaload, 1) := by decide +kernel
theorem d_R_carve_118 : decode b_R_carve 118 = .ok (.aload_n 0, 1) := by decide +kernel
theorem d_R_carve_119 : decode b_R_carve 119 = .ok (.getfield 31, 3) := by decide +kernel
theorem d_R_carve_122 : decode b_R_carve 122 = .ok (.iload_n 3, 1) := by decide +kernel
theorem d_R_carve_123 : decode b_R_carve 123 = .ok (.iaload, 1) := by decide +kernel
theorem d_R_carve_124 : decode b_R_carve 124 = .ok (.invokevirtual 147, 3) := by decide +kernel
theorem d_R_carve_127 : decode b_R_carve 127 = .ok (.ifCond .ne 41, 3) := by decide +kernel
theorem d_R_carve_130 : decode b_R_carve 130 = .ok (.aload_n 0, 1) := by decide +kernel
theorem d_R_carve_131 : decode b_R_carve 131 = .ok (.aload_n 0, 1) := by decide +kernel
theorem d_R_carve_132 : decode b_R_carve 132 = .ok (.getfield 31, 3) := by decide +kernel
theorem d_R_carve_135 : decode b_R_carve 135 = .ok (.iload_n 3, 1) := by decide +kernel
theorem d_R_carve_136 : decode b_R_carve 136 = .ok (.iaload, 1) := by decide +kernel
theorem d_R_carve_137 : decode b_R_carve 137 = .ok (.aload_n 0, 1) := by decide +kernel
theorem d_R_carve_138 : decode b_R_carve 138 = .ok (.getfield 34, 3) := by decide +kernel
theorem d_R_carve_141 : decode b_R_carve 141 = .ok (.iload_n 3, 1) := by decide +kernel
theorem d_R_carve_142 : decode b_R_carve 142 = .ok (.iaload, 1) := by decide +kernel
theorem d_R_carve_143 : decode b_R_carve 143 = .ok (.invokevirtual 147, 3) := by decide +kernel
theorem d_R_carve_146 : decode b_R_carve 146 = .ok (.ifCond .ne 22, 3) := by decide +kernel
theorem d_R_carve_149 : decode b_R_carve 149 = .ok (.aload_n 0, 1) := by decide +kernel
theorem d_R_carve_150 : decode b_R_carve 150 = .ok (.aload_n 0, 1) := by decide +kernel
theorem d_R_carve_151 : decode b_R_carve 151 = .ok (.getfield 34, 3) := by decide +kernel
theorem d_R_carve_154 : decode b_R_carve 154 = .ok (.iload_n 3, 1) := by decide +kernel
theorem d_R_carve_155 : decode b_R_carve 155 = .ok (.iaload, 1) := by decide +kernel
theorem d_R_carve_156 : decode b_R_carve 156 = .ok (.aload_n 0, 1) := by decide +kernel
theorem d_R_carve_157 : decode b_R_carve 157 = .ok (.getfield 28, 3) := by decide +kernel
theorem d_R_carve_160 : decode b_R_carve 160 = .ok (.iload_n 3, 1) := by decide +kernel
theorem d_R_carve_161 : decode b_R_carve 161 = .ok (.iaload, 1) := by decide +kernel
theorem d_R_carve_162 : decode b_R_carve 162 = .ok (.invokevirtual 147, 3) := by decide +kernel
theorem d_R_carve_165 : decode b_R_carve 165 = .ok (.ifCond .eq 7, 3) := by decide +kernel
theorem d_R_carve_168 : decode b_R_carve 168 = .ok (.iconst 1, 1) := by decide +kernel
theorem d_R_carve_169 : decode b_R_carve 169 = .ok (.goto 4, 3) := by decide +kernel
theorem d_R_carve_172 : decode b_R_carve 172 = .ok (.iconst 0, 1) := by decide +kernel
theorem d_R_carve_173 : decode b_R_carve 173 = .ok (.bastore, 1) := by decide +kernel
theorem d_R_carve_174 : decode b_R_carve 174 = .ok (.iinc 3 1, 3) := by decide +kernel
theorem d_R_carve_177 : decode b_R_carve 177 = .ok (.goto (-175), 3) := by decide +kernel
theorem d_R_carve_180 : decode b_R_carve 180 = .ok (.iconst 0, 1) := by decide +kernel
theorem d_R_carve_181 : decode b_R_carve 181 = .ok (.istore_n 3, 1) := by decide +kernel
theorem d_R_carve_182 : decode b_R_carve 182 = .ok (.iload_n 3, 1) := by decide +kernel
theorem d_R_carve_183 : decode b_R_carve 183 = .ok (.aload_n 0, 1) := by decide +kernel
theorem d_R_carve_184 : decode b_R_carve 184 = .ok (.getfield 123, 3) := by decide +kernel
theorem d_R_carve_187 : decode b_R_carve 187 = .ok (.if_icmp .ge 112, 3) := by decide +kernel
theorem d_R_carve_190 : decode b_R_carve 190 = .ok (.iconst 0, 1) := by decide +kernel
theorem d_R_carve_191 : decode b_R_carve 191 = .ok (.istore 4, 2) := by decide +kernel
theorem d_R_carve_193 : decode b_R_carve 193 = .ok (.iload 4, 2) := by decide +kernel
theorem d_R_carve_195 : decode b_R_carve 195 = .ok (.aload_n 0, 1) := by decide +kernel
theorem d_R_carve_196 : decode b_R_carve 196 = .ok (.getfield 123, 3) := by decide +kernel
theorem d_R_carve_199 : decode b_R_carve 199 = .ok (.if_icmp .ge 94, 3) := by decide +kernel
theorem d_R_carve_202 : decode b_R_carve 202 = .ok (.aload_n 0, 1) := by decide +kernel
theorem d_R_carve_203 : decode b_R_carve 203 = .ok (.getfield 37, 3) := by decide +kernel
theorem d_R_carve_206 : decode b_R_carve 206 = .ok (.iload 4, 2) := by decide +kernel
theorem d_R_carve_208 : decode b_R_carve 208 = .ok (.aload_n 0, 1) := by decide +kernel
theorem d_R_carve_209 : decode b_R_carve 209 = .ok (.getfield 37, 3) := by decide +kernel
theorem d_R_carve_212 : decode b_R_carve 212 = .ok (.iload 4, 2) := by decide +kernel
theorem d_R_carve_214 : decode b_R_carve 214 = .ok (.baload, 1) := by decide +kernel
theorem d_R_carve_215 : decode b_R_carve 215 = .ok (.ifCond .ne 66, 3) := by decide +kernel
theorem d_R_carve_218 : decode b_R_carve 218 = .ok (.aload_n 0, 1) := by decide +kernel
theorem d_R_carve_219 : decode b_R_carve 219 = .ok (.aload_n 0, 1) := by decide +kernel
theorem d_R_carve_220 : decode b_R_carve 220 = .ok (.getfield 28, 3) := by decide +kernel
theorem d_R_carve_223 : decode b_R_carve 223 = .ok (.iload 4, 2) := by decide +kernel
theorem d_R_carve_225 : decode b_R_carve 225 = .ok (.iaload, 1) := by decide +kernel
theorem d_R_carve_226 : decode b_R_carve 226 = .ok (.aload_n 0, 1) := by decide +kernel
theorem d_R_carve_227 : decode b_R_carve 227 = .ok (.getfield 31, 3) := by decide +kernel
theorem d_R_carve_230 : decode b_R_carve 230 = .ok (.iload 4, 2) := by decide +kernel
theorem d_R_carve_232 : decode b_R_carve 232 = .ok (.iaload, 1) := by decide +kernel
theorem d_R_carve_233 : decode b_R_carve 233 = .ok (.invokevirtual 150, 3) := by decide +kernel
theorem d_R_carve_236 : decode b_R_carve 236 = .ok (.ifCond .ne 45, 3) := by decide +kernel
theorem d_R_carve_239 : decode b_R_carve 239 = .ok (.aload_n 0, 1) := by decide +kernel
theorem d_R_carve_240 : decode b_R_carve 240 = .ok (.aload_n 0, 1) := by decide +kernel
theorem d_R_carve_241 : decode b_R_carve 241 = .ok (.getfield 31, 3) := by decide +kernel
theorem d_R_carve_244 : decode b_R_carve 244 = .ok (.iload 4, 2) := by decide +kernel
theorem d_R_carve_246 : decode b_R_carve 246 = .ok (.iaload, 1) := by decide +kernel
theorem d_R_carve_247 : decode b_R_carve 247 = .ok (.aload_n 0, 1) := by decide +kernel
theorem d_R_carve_248 : decode b_R_carve 248 = .ok (.getfield 34, 3) := by decide +kernel
theorem d_R_carve_251 : decode b_R_carve 251 = .ok (.iload 4, 2) := by decide +kernel
theorem d_R_carve_253 : decode b_R_carve 253 = .ok (.iaload, 1) := by decide +kernel
theorem d_R_carve_254 : decode b_R_carve 254 = .ok (.invokevirtual 150, 3) := by decide +kernel
theorem d_R_carve_257 : decode b_R_carve 257 = .ok (.ifCond .ne 24, 3) := by decide +kernel
theorem d_R_carve_260 : decode b_R_carve 260 = .ok (.aload_n 0, 1) := by decide +kernel
theorem d_R_carve_261 : decode b_R_carve 261 = .ok (.aload_n 0, 1) := by decide +kernel
theorem d_R_carve_262 : decode b_R_carve 262 = .ok (.getfield 34, 3) := by decide +kernel
theorem d_R_carve_265 : decode b_R_carve 265 = .ok (.iload 4, 2) := by decide +kernel
theorem d_R_carve_267 : decode b_R_carve 267 = .ok (.iaload, 1) := by decide +kernel
theorem d_R_carve_268 : decode b_R_carve 268 = .ok (.aload_n 0, 1) := by decide +kernel
theorem d_R_carve_269 : decode b_R_carve 269 = .ok (.getfield 28, 3) := by decide +kernel
theorem d_R_carve_272 : decode b_R_carve 272 = .ok (.iload 4, 2) := by decide +kernel
theorem d_R_carve_274 : decode b_R_carve 274 = .ok (.iaload, 1) := by decide +kernel
theorem d_R_carve_275 : decode b_R_carve 275 = .ok (.invokevirtual 150, 3) := by decide +kernel
theorem d_R_carve_278 : decode b_R_carve 278 = .ok (.ifCond .eq 7, 3) := by decide +kernel
theorem d_R_carve_281 : decode b_R_carve 281 = .ok (.iconst 1, 1) := by decide +kernel
theorem d_R_carve_282 : decode b_R_carve 282 = .ok (.goto 4, 3) := by decide +kernel
theorem d_R_carve_285 : decode b_R_carve 285 = .ok (.iconst 0, 1) := by decide +kernel
theorem d_R_carve_286 : decode b_R_carve 286 = .ok (.bastore, 1) := by decide +kernel
theorem d_R_carve_287 : decode b_R_carve 287 = .ok (.iinc 4 1, 3) := by decide +kernel
theorem d_R_carve_290 : decode b_R_carve 290 = .ok (.goto (-97), 3) := by decide +kernel
theorem d_R_carve_293 : decode b_R_carve 293 = .ok (.iinc 3 1, 3) := by decide +kernel
theorem d_R_carve_296 : decode b_R_carve 296 = .ok (.goto (-114), 3) := by decide +kernel
theorem d_R_carve_299 : decode b_R_carve 299 = .ok (.return_, 1) := by decide +kernel
theorem d_R_inside_0 : decode b_R_inside 0 = .ok (.aload_n 0, 1) := by decide +kernel
theorem d_R_inside_1 : decode b_R_inside 1 = .ok (.iload_n 1, 1) := by decide +kernel
theorem d_R_inside_2 : decode b_R_inside 2 = .ok (.iload_n 2, 1) := by decide +kernel
theorem d_R_inside_3 : decode b_R_inside 3 = .ok (.lload 4, 2) := by decide +kernel
theorem d_R_inside_5 : decode b_R_inside 5 = .ok (.lload 6, 2) := by decide +kernel
theorem d_R_inside_7 : decode b_R_inside 7 = .ok (.invokevirtual 71, 3) := by decide +kernel
theorem d_R_inside_10 : decode b_R_inside 10 = .ok (.lconst 0, 1) := by decide +kernel
theorem d_R_inside_11 : decode b_R_inside 11 = .ok (.lcmp, 1) := by decide +kernel
theorem d_R_inside_12 : decode b_R_inside 12 = .ok (.ifCond .lt 37, 3) := by decide +kernel
theorem d_R_inside_15 : decode b_R_inside 15 = .ok (.aload_n 0, 1) := by decide +kernel
theorem d_R_inside_16 : decode b_R_inside 16 = .ok (.iload_n 2, 1) := by decide +kernel
theorem d_R_inside_17 : decode b_R_inside 17 = .ok (.iload_n 3, 1) := by decide +kernel
theorem d_R_inside_18 : decode b_R_inside 18 = .ok (.lload 4, 2) := by decide +kernel
theorem d_R_inside_20 : decode b_R_inside 20 = .ok (.lload 6, 2) := by decide +kernel
theorem d_R_inside_22 : decode b_R_inside 22 = .ok (.invokevirtual 71, 3) := by decide +kernel
theorem d_R_inside_25 : decode b_R_inside 25 = .ok (.lconst 0, 1) := by decide +kernel
theorem d_R_inside_26 : decode b_R_inside 26 = .ok (.lcmp, 1) := by decide +kernel
theorem d_R_inside_27 : decode b_R_inside 27 = .ok (.ifCond .lt 22, 3) := by decide +kernel
theorem d_R_inside_30 : decode b_R_inside 30 = .ok (.aload_n 0, 1) := by decide +kernel
theorem d_R_inside_31 : decode b_R_inside 31 = .ok (.iload_n 3, 1) := by decide +kernel
theorem d_R_inside_32 : decode b_R_inside 32 = .ok (.iload_n 1, 1) := by decide +kernel
theorem d_R_inside_33 : decode b_R_inside 33 = .ok (.lload 4, 2) := by decide +kernel
theorem d_R_inside_35 : decode b_R_inside 35 = .ok (.lload 6, 2) := by decide +kernel
theorem d_R_inside_37 : decode b_R_inside 37 = .ok (.invokevirtual 71, 3) := by decide +kernel
theorem d_R_inside_40 : decode b_R_inside 40 = .ok (.lconst 0, 1) := by decide +kernel
theorem d_R_inside_41 : decode b_R_inside 41 = .ok (.lcmp, 1) := by decide +kernel
theorem d_R_inside_42 : decode b_R_inside 42 = .ok (.ifCond .lt 7, 3) := by decide +kernel
theorem d_R_inside_45 : decode b_R_inside 45 = .ok (.iconst 1, 1) := by decide +kernel
theorem d_R_inside_46 : decode b_R_inside 46 = .ok (.goto 4, 3) := by decide +kernel
theorem d_R_inside_49 : decode b_R_inside 49 = .ok (.iconst 0, 1) := by decide +kernel
theorem d_R_inside_50 : decode b_R_inside 50 = .ok (.ireturn, 1) := by decide +kernel
theorem d_R_open_0 : decode b_R_open 0 = .ok (.aload_n 0, 1) := by decide +kernel
theorem d_R_open_1 : decode b_R_open 1 = .ok (.iload_n 1, 1) := by decide +kernel
theorem d_R_open_2 : decode b_R_open 2 = .ok (.iload_n 2, 1) := by decide +kernel
theorem d_R_open_3 : decode b_R_open 3 = .ok (.invokevirtual 98, 3) := by decide +kernel
theorem d_R_open_6 : decode b_R_open 6 = .ok (.ifCond .ne 16, 3) := by decide +kernel
theorem d_R_open_9 : decode b_R_open 9 = .ok (.aload_n 0, 1) := by decide +kernel
theorem d_R_open_10 : decode b_R_open 10 = .ok (.iload_n 2, 1) := by decide +kernel
theorem d_R_open_11 : decode b_R_open 11 = .ok (.iload_n 1, 1) := by decide +kernel
theorem d_R_open_12 : decode b_R_open 12 = .ok (.invokevirtual 140, 3) := by decide +kernel
theorem d_R_open_15 : decode b_R_open 15 = .ok (.ifCond .ge 7, 3) := by decide +kernel
theorem d_R_open_18 : decode b_R_open 18 = .ok (.iconst 1, 1) := by decide +kernel
theorem d_R_open_19 : decode b_R_open 19 = .ok (.goto 4, 3) := by decide +kernel
theorem d_R_open_22 : decode b_R_open 22 = .ok (.iconst 0, 1) := by decide +kernel
theorem d_R_open_23 : decode b_R_open 23 = .ok (.ireturn, 1) := by decide +kernel
theorem d_R_leftOf_0 : decode b_R_leftOf 0 = .ok (.iconst (-1), 1) := by decide +kernel
theorem d_R_leftOf_1 : decode b_R_leftOf 1 = .ok (.istore_n 3, 1) := by decide +kernel
theorem d_R_leftOf_2 : decode b_R_leftOf 2 = .ok (.iconst 0, 1) := by decide +kernel
theorem d_R_leftOf_3 : decode b_R_leftOf 3 = .ok (.istore 4, 2) := by decide +kernel
theorem d_R_leftOf_5 : decode b_R_leftOf 5 = .ok (.iload 4, 2) := by decide +kernel
theorem d_R_leftOf_7 : decode b_R_leftOf 7 = .ok (.aload_n 0, 1) := by decide +kernel
theorem d_R_leftOf_8 : decode b_R_leftOf 8 = .ok (.getfield 123, 3) := by decide +kernel
theorem d_R_leftOf_11 : decode b_R_leftOf 11 = .ok (.if_icmp .ge 94, 3) := by decide +kernel
theorem d_R_leftOf_14 : decode b_R_leftOf 14 = .ok (.aload_n 0, 1) := by decide +kernel
theorem d_R_leftOf_15 : decode b_R_leftOf 15 = .ok (.getfield 28, 3) := by decide +kernel
theorem d_R_leftOf_18 : decode b_R_leftOf 18 = .ok (.iload 4, 2) := by decide +kernel
theorem d_R_leftOf_20 : decode b_R_leftOf 20 = .ok (.iaload, 1) := by decide +kernel
theorem d_R_leftOf_21 : decode b_R_leftOf 21 = .ok (.iload_n 1, 1) := by decide +kernel
theorem d_R_leftOf_22 : decode b_R_leftOf 22 = .ok (.if_icmp .ne 14, 3) := by decide +kernel
theorem d_R_leftOf_25 : decode b_R_leftOf 25 = .ok (.aload_n 0, 1) := by decide +kernel
theorem d_R_leftOf_26 : decode b_R_leftOf 26 = .ok (.getfield 31, 3) := by decide +kernel
theorem d_R_leftOf_29 : decode b_R_leftOf 29 = .ok (.iload 4, 2) := by decide +kernel
theorem d_R_leftOf_31 : decode b_R_leftOf 31 = .ok (.iaload, 1) := by decide +kernel
theorem d_R_leftOf_32 : decode b_R_leftOf 32 = .ok (.iload_n 2, 1) := by decide +kernel
theorem d_R_leftOf_33 : decode b_R_leftOf 33 = .ok (.if_icmp .eq 47, 3) := by decide +kernel
theorem d_R_leftOf_36 : decode b_R_leftOf 36 = .ok (.aload_n 0, 1) := by decide +kernel
theorem d_R_leftOf_37 : decode b_R_leftOf 37 = .ok (.getfield 31, 3) := by decide +kernel
theorem d_R_leftOf_40 : decode b_R_leftOf 40 = .ok (.iload 4, 2) := by decide +kernel
theorem d_R_leftOf_42 : decode b_R_leftOf 42 = .ok (.iaload, 1) := by decide +kernel
theorem d_R_leftOf_43 : decode b_R_leftOf 43 = .ok (.iload_n 1, 1) := by decide +kernel
theorem d_R_leftOf_44 : decode b_R_leftOf 44 = .ok (.if_icmp .ne 14, 3) := by decide +kernel
theorem d_R_leftOf_47 : decode b_R_leftOf 47 = .ok (.aload_n 0, 1) := by decide +kernel
theorem d_R_leftOf_48 : decode b_R_leftOf 48 = .ok (.getfield 34, 3) := by decide +kernel
theorem d_R_leftOf_51 : decode b_R_leftOf 51 = .ok (.iload 4, 2) := by decide +kernel
theorem d_R_leftOf_53 : decode b_R_leftOf 53 = .ok (.iaload, 1) := by decide +kernel
theorem d_R_leftOf_54 : decode b_R_leftOf 54 = .ok (.iload_n 2, 1) := by decide +kernel
theorem d_R_leftOf_55 : decode b_R_leftOf 55 = .ok (.if_icmp .eq 25, 3) := by decide +kernel
theorem d_R_leftOf_58 : decode b_R_leftOf 58 = .ok (.aload_n 0, 1) := by decide +kernel
theorem d_R_leftOf_59 : decode b_R_leftOf 59 = .ok (.getfield 34, 3) := by decide +kernel
theorem d_R_leftOf_62 : decode b_R_leftOf 62 = .ok (.iload 4, 2) := by decide +kernel
theorem d_R_leftOf_64 : decode b_R_leftOf 64 = .ok (.iaload, 1) := by decide +kernel
theorem d_R_leftOf_65 : decode b_R_leftOf 65 = .ok (.iload_n 1, 1) := by decide +kernel
theorem d_R_leftOf_66 : decode b_R_leftOf 66 = .ok (.if_icmp .ne 18, 3) := by decide +kernel
theorem d_R_leftOf_69 : decode b_R_leftOf 69 = .ok (.aload_n 0, 1) := by decide +kernel
theorem d_R_leftOf_70 : decode b_R_leftOf 70 = .ok (.getfield 28, 3) := by decide +kernel
theorem d_R_leftOf_73 : decode b_R_leftOf 73 = .ok (.iload 4, 2) := by decide +kernel
theorem d_R_leftOf_75 : decode b_R_leftOf 75 = .ok (.iaload, 1) := by decide +kernel
theorem d_R_leftOf_76 : decode b_R_leftOf 76 = .ok (.iload_n 2, 1) := by decide +kernel
theorem d_R_leftOf_77 : decode b_R_leftOf 77 = .ok (.if_icmp .ne 7, 3) := by decide +kernel
theorem d_R_leftOf_80 : decode b_R_leftOf 80 = .ok (.iconst 1, 1) := by decide +kernel
theorem d_R_leftOf_81 : decode b_R_leftOf 81 = .ok (.goto 4, 3) := by decide +kernel
theorem d_R_leftOf_84 : decode b_R_leftOf 84 = .ok (.iconst 0, 1) := by decide +kernel
theorem d_R_leftOf_85 : decode b_R_leftOf 85 = .ok (.istore 5, 2) := by decide +kernel
theorem d_R_leftOf_87 : decode b_R_leftOf 87 = .ok (.iload 5, 2) := by decide +kernel
theorem d_R_leftOf_89 : decode b_R_leftOf 89 = .ok (.ifCond .eq 8, 3) := by decide +kernel
theorem d_R_leftOf_92 : decode b_R_leftOf 92 = .ok (.iload 4, 2) := by decide +kernel
theorem d_R_leftOf_94 : decode b_R_leftOf 94 = .ok (.goto 4, 3) := by decide +kernel
theorem d_R_leftOf_97 : decode b_R_leftOf 97 = .ok (.iload_n 3, 1) := by decide +kernel
theorem d_R_leftOf_98 : decode b_R_leftOf 98 = .ok (.istore_n 3, 1) := by decide +kernel
theorem d_R_leftOf_99 : decode b_R_leftOf 99 = .ok (.iinc 4 1, 3) := by decide +kernel
theorem d_R_leftOf_102 : decode b_R_leftOf 102 = .ok (.goto (-97), 3) := by decide +kernel
theorem d_R_leftOf_105 : decode b_R_leftOf 105 = .ok (.iload_n 3, 1) := by decide +kernel
theorem d_R_leftOf_106 : decode b_R_leftOf 106 = .ok (.ireturn, 1) := by decide +kernel
theorem d_R_next_0 : decode b_R_next 0 = .ok (.aload_n 0, 1) := by decide +kernel
theorem d_R_next_1 : decode b_R_next 1 = .ok (.iload_n 2, 1) := by decide +kernel
theorem d_R_next_2 : decode b_R_next 2 = .ok (.iload_n 1, 1) := by decide +kernel
theorem d_R_next_3 : decode b_R_next 3 = .ok (.invokevirtual 140, 3) := by decide +kernel
theorem d_R_next_6 : decode b_R_next 6 = .ok (.istore_n 3, 1) := by decide +kernel
theorem d_R_next_7 : decode b_R_next 7 = .ok (.aload_n 0, 1) := by decide +kernel
theorem d_R_next_8 : decode b_R_next 8 = .ok (.iload_n 1, 1) := by decide +kernel
theorem d_R_next_9 : decode b_R_next 9 = .ok (.iload_n 2, 1) := by decide +kernel
theorem d_R_next_10 : decode b_R_next 10 = .ok (.invokevirtual 98, 3) := by decide +kernel
theorem d_R_next_13 : decode b_R_next 13 = .ok (.ifCond .ne 20, 3) := by decide +kernel
theorem d_R_next_16 : decode b_R_next 16 = .ok (.iload_n 3, 1) := by decide +kernel
theorem d_R_next_17 : decode b_R_next 17 = .ok (.ifCond .lt 16, 3) := by decide +kernel
theorem d_R_next_20 : decode b_R_next 20 = .ok (.aload_n 0, 1) := by decide +kernel
theorem d_R_next_21 : decode b_R_next 21 = .ok (.getfield 37, 3) := by decide +kernel
theorem d_R_next_24 : decode b_R_next 24 = .ok (.iload_n 3, 1) := by decide +kernel
theorem d_R_next_25 : decode b_R_next 25 = .ok (.baload, 1) := by decide +kernel
theorem d_R_next_26 : decode b_R_next 26 = .ok (.ifCond .eq 7, 3) := by decide +kernel
theorem d_R_next_29 : decode b_R_next 29 = .ok (.iconst 1, 1) := by decide +kernel
theorem d_R_next_30 : decode b_R_next 30 = .ok (.goto 4, 3) := by decide +kernel
theorem d_R_next_33 : decode b_R_next 33 = .ok (.iconst 0, 1) := by decide +kernel
theorem d_R_next_34 : decode b_R_next 34 = .ok (.ireturn, 1) := by decide +kernel
theorem d_R_keep_0 : decode b_R_keep 0 = .ok (.iload_n 1, 1) := by decide +kernel
theorem d_R_keep_1 : decode b_R_keep 1 = .ok (.iload_n 2, 1) := by decide +kernel
theorem d_R_keep_2 : decode b_R_keep 2 = .ok (.if_icmp .gt 8, 3) := by decide +kernel
theorem d_R_keep_5 : decode b_R_keep 5 = .ok (.iload_n 1, 1) := by decide +kernel
theorem d_R_keep_6 : decode b_R_keep 6 = .ok (.iload_n 3, 1) := by decide +kernel
theorem d_R_keep_7 : decode b_R_keep 7 = .ok (.if_icmp .le 4, 3) := by decide +kernel
theorem d_R_keep_10 : decode b_R_keep 10 = .ok (.return_, 1) := by decide +kernel
theorem d_R_keep_11 : decode b_R_keep 11 = .ok (.aload_n 0, 1) := by decide +kernel
theorem d_R_keep_12 : decode b_R_keep 12 = .ok (.getfield 41, 3) := by decide +kernel
theorem d_R_keep_15 : decode b_R_keep 15 = .ok (.iconst 3, 1) := by decide +kernel
theorem d_R_keep_16 : decode b_R_keep 16 = .ok (.aload_n 0, 1) := by decide +kernel
theorem d_R_keep_17 : decode b_R_keep 17 = .ok (.getfield 160, 3) := by decide +kernel
theorem d_R_keep_20 : decode b_R_keep 20 = .ok (.imul, 1) := by decide +kernel
theorem d_R_keep_21 : decode b_R_keep 21 = .ok (.iload_n 1, 1) := by decide +kernel
theorem d_R_keep_22 : decode b_R_keep 22 = .ok (.iastore, 1) := by decide +kernel
theorem d_R_keep_23 : decode b_R_keep 23 = .ok (.aload_n 0, 1) := by decide +kernel
theorem d_R_keep_24 : decode b_R_keep 24 = .ok (.getfield 41, 3) := by decide +kernel
theorem d_R_keep_27 : decode b_R_keep 27 = .ok (.iconst 3, 1) := by decide +kernel
theorem d_R_keep_28 : decode b_R_keep 28 = .ok (.aload_n 0, 1) := by decide +kernel
theorem d_R_keep_29 : decode b_R_keep 29 = .ok (.getfield 160, 3) := by decide +kernel
theorem d_R_keep_32 : decode b_R_keep 32 = .ok (.imul, 1) := by decide +kernel
theorem d_R_keep_33 : decode b_R_keep 33 = .ok (.iconst 1, 1) := by decide +kernel
theorem d_R_keep_34 : decode b_R_keep 34 = .ok (.iadd, 1) := by decide +kernel
theorem d_R_keep_35 : decode b_R_keep 35 = .ok (.iload_n 2, 1) := by decide +kernel
theorem d_R_keep_36 : decode b_R_keep 36 = .ok (.iastore, 1) := by decide +kernel
theorem d_R_keep_37 : decode b_R_keep 37 = .ok (.aload_n 0, 1) := by decide +kernel
theorem d_R_keep_38 : decode b_R_keep 38 = .ok (.getfield 41, 3) := by decide +kernel
theorem d_R_keep_41 : decode b_R_keep 41 = .ok (.iconst 3, 1) := by decide +kernel
theorem d_R_keep_42 : decode b_R_keep 42 = .ok (.aload_n 0, 1) := by decide +kernel
theorem d_R_keep_43 : decode b_R_keep 43 = .ok (.getfield 160, 3) := by decide +kernel
theorem d_R_keep_46 : decode b_R_keep 46 = .ok (.imul, 1) := by decide +kernel
theorem d_R_keep_47 : decode b_R_keep 47 = .ok (.iconst 2, 1) := by decide +kernel
theorem d_R_keep_48 : decode b_R_keep 48 = .ok (.iadd, 1) := by decide +kernel
theorem d_R_keep_49 : decode b_R_keep 49 = .ok (.iload_n 3, 1) := by decide +kernel
theorem d_R_keep_50 : decode b_R_keep 50 = .ok (.iastore, 1) := by decide +kernel
theorem d_R_keep_51 : decode b_R_keep 51 = .ok (.aload_n 0, 1) := by decide +kernel
theorem d_R_keep_52 : decode b_R_keep 52 = .ok (.getfield 44, 3) := by decide +kernel
theorem d_R_keep_55 : decode b_R_keep 55 = .ok (.iconst 3, 1) := by decide +kernel
theorem d_R_keep_56 : decode b_R_keep 56 = .ok (.aload_n 0, 1) := by decide +kernel
theorem d_R_keep_57 : decode b_R_keep 57 = .ok (.getfield 160, 3) := by decide +kernel
theorem d_R_keep_60 : decode b_R_keep 60 = .ok (.imul, 1) := by decide +kernel
theorem d_R_keep_61 : decode b_R_keep 61 = .ok (.aload_n 0, 1) := by decide +kernel
theorem d_R_keep_62 : decode b_R_keep 62 = .ok (.iload_n 1, 1) := by decide +kernel
theorem d_R_keep_63 : decode b_R_keep 63 = .ok (.iload_n 2, 1) := by decide +kernel
theorem d_R_keep_64 : decode b_R_keep 64 = .ok (.invokevirtual 98, 3) := by decide +kernel
theorem d_R_keep_67 : decode b_R_keep 67 = .ok (.bastore, 1) := by decide +kernel
theorem d_R_keep_68 : decode b_R_keep 68 = .ok (.aload_n 0, 1) := by decide +kernel
theorem d_R_keep_69 : decode b_R_keep 69 = .ok (.getfield 44, 3) := by decide +kernel
theorem d_R_keep_72 : decode b_R_keep 72 = .ok (.iconst 3, 1) := by decide +kernel
theorem d_R_keep_73 : decode b_R_keep 73 = .ok (.aload_n 0, 1) := by decide +kernel
theorem d_R_keep_74 : decode b_R_keep 74 = .ok (.getfield 160, 3) := by decide +kernel
theorem d_R_keep_77 : decode b_R_keep 77 = .ok (.imul, 1) := by decide +kernel
theorem d_R_keep_78 : decode b_R_keep 78 = .ok (.iconst 1, 1) := by decide +kernel
theorem d_R_keep_79 : decode b_R_keep 79 = .ok (.iadd, 1) := by decide +kernel
theorem d_R_keep_80 : decode b_R_keep 80 = .ok (.aload_n 0, 1) := by decide +kernel
theorem d_R_keep_81 : decode b_R_keep 81 = .ok (.iload_n 2, 1) := by decide +kernel
theorem d_R_keep_82 : decode b_R_keep 82 = .ok (.iload_n 3, 1) := by decide +kernel
theorem d_R_keep_83 : decode b_R_keep 83 = .ok (.invokevirtual 98, 3) := by decide +kernel
theorem d_R_keep_86 : decode b_R_keep 86 = .ok (.bastore, 1) := by decide +kernel
theorem d_R_keep_87 : decode b_R_keep 87 = .ok (.aload_n 0, 1) := by decide +kernel
theorem d_R_keep_88 : decode b_R_keep 88 = .ok (.getfield 44, 3) := by decide +kernel
theorem d_R_keep_91 : decode b_R_keep 91 = .ok (.iconst 3, 1) := by decide +kernel
theorem d_R_keep_92 : decode b_R_keep 92 = .ok (.aload_n 0, 1) := by decide +kernel
theorem d_R_keep_93 : decode b_R_keep 93 = .ok (.getfield 160, 3) := by decide +kernel
theorem d_R_keep_96 : decode b_R_keep 96 = .ok (.imul, 1) := by decide +kernel
theorem d_R_keep_97 : decode b_R_keep 97 = .ok (.iconst 2, 1) := by decide +kernel
theorem d_R_keep_98 : decode b_R_keep 98 = .ok (.iadd, 1) := by decide +kernel
theorem d_R_keep_99 : decode b_R_keep 99 = .ok (.aload_n 0, 1) := by decide +kernel
theorem d_R_keep_100 : decode b_R_keep 100 = .ok (.iload_n 3, 1) := by decide +kernel
theorem d_R_keep_101 : decode b_R_keep 101 = .ok (.iload_n 1, 1) := by decide +kernel
theorem d_R_keep_102 : decode b_R_keep 102 = .ok (.invokevirtual 98, 3) := by decide +kernel
theorem d_R_keep_105 : decode b_R_keep 105 = .ok (.bastore, 1) := by decide +kernel
theorem d_R_keep_106 : decode b_R_keep 106 = .ok (.aload_n 0, 1) := by decide +kernel
theorem d_R_keep_107 : decode b_R_keep 107 = .ok (.dup, 1) := by decide +kernel
theorem d_R_keep_108 : decode b_R_keep 108 = .ok (.getfield 160, 3) := by decide +kernel
theorem d_R_keep_111 : decode b_R_keep 111 = .ok (.iconst 1, 1) := by decide +kernel
theorem d_R_keep_112 : decode b_R_keep 112 = .ok (.iadd, 1) := by decide +kernel
theorem d_R_keep_113 : decode b_R_keep 113 = .ok (.putfield 160, 3) := by decide +kernel
theorem d_R_keep_116 : decode b_R_keep 116 = .ok (.return_, 1) := by decide +kernel
theorem d_R_triangles_0 : decode b_R_triangles 0 = .ok (.aload_n 0, 1) := by decide +kernel
theorem d_R_triangles_1 : decode b_R_triangles 1 = .ok (.getfield 160, 3) := by decide +kernel
theorem d_R_triangles_4 : decode b_R_triangles 4 = .ok (.ireturn, 1) := by decide +kernel
theorem d_R_corner_0 : decode b_R_corner 0 = .ok (.aload_n 0, 1) := by decide +kernel
theorem d_R_corner_1 : decode b_R_corner 1 = .ok (.iload_n 1, 1) := by decide +kernel
theorem d_R_corner_2 : decode b_R_corner 2 = .ok (.iload_n 2, 1) := by decide +kernel
theorem d_R_corner_3 : decode b_R_corner 3 = .ok (.invokevirtual 167, 3) := by decide +kernel
theorem d_R_corner_6 : decode b_R_corner 6 = .ok (.ifCond .eq 16, 3) := by decide +kernel
theorem d_R_corner_9 : decode b_R_corner 9 = .ok (.aload_n 0, 1) := by decide +kernel
theorem d_R_corner_10 : decode b_R_corner 10 = .ok (.getfield 41, 3) := by decide +kernel
theorem d_R_corner_13 : decode b_R_corner 13 = .ok (.iconst 3, 1) := by decide +kernel
theorem d_R_corner_14 : decode b_R_corner 14 = .ok (.iload_n 1, 1) := by decide +kernel
theorem d_R_corner_15 : decode b_R_corner 15 = .ok (.imul, 1) := by decide +kernel
theorem d_R_corner_16 : decode b_R_corner 16 = .ok (.iload_n 2, 1) := by decide +kernel
theorem d_R_corner_17 : decode b_R_corner 17 = .ok (.iadd, 1) := by decide +kernel
theorem d_R_corner_18 : decode b_R_corner 18 = .ok (.iaload, 1) := by decide +kernel
theorem d_R_corner_19 : decode b_R_corner 19 = .ok (.goto 4, 3) := by decide +kernel
theorem d_R_corner_22 : decode b_R_corner 22 = .ok (.iconst (-1), 1) := by decide +kernel
theorem d_R_corner_23 : decode b_R_corner 23 = .ok (.ireturn, 1) := by decide +kernel
theorem d_R_isCorner_0 : decode b_R_isCorner 0 = .ok (.iload_n 1, 1) := by decide +kernel
theorem d_R_isCorner_1 : decode b_R_isCorner 1 = .ok (.ifCond .lt 24, 3) := by decide +kernel
theorem d_R_isCorner_4 : decode b_R_isCorner 4 = .ok (.iload_n 1, 1) := by decide +kernel
theorem d_R_isCorner_5 : decode b_R_isCorner 5 = .ok (.aload_n 0, 1) := by decide +kernel
theorem d_R_isCorner_6 : decode b_R_isCorner 6 = .ok (.getfield 160, 3) := by decide +kernel
theorem d_R_isCorner_9 : decode b_R_isCorner 9 = .ok (.if_icmp .ge 16, 3) := by decide +kernel
theorem d_R_isCorner_12 : decode b_R_isCorner 12 = .ok (.iload_n 2, 1) := by decide +kernel
theorem d_R_isCorner_13 : decode b_R_isCorner 13 = .ok (.ifCond .lt 12, 3) := by decide +kernel
theorem d_R_isCorner_16 : decode b_R_isCorner 16 = .ok (.iload_n 2, 1) := by decide +kernel
theorem d_R_isCorner_17 : decode b_R_isCorner 17 = .ok (.iconst 2, 1) := by decide +kernel
theorem d_R_isCorner_18 : decode b_R_isCorner 18 = .ok (.if_icmp .gt 7, 3) := by decide +kernel
theorem d_R_isCorner_21 : decode b_R_isCorner 21 = .ok (.iconst 1, 1) := by decide +kernel
theorem d_R_isCorner_22 : decode b_R_isCorner 22 = .ok (.goto 4, 3) := by decide +kernel
theorem d_R_isCorner_25 : decode b_R_isCorner 25 = .ok (.iconst 0, 1) := by decide +kernel
theorem d_R_isCorner_26 : decode b_R_isCorner 26 = .ok (.ireturn, 1) := by decide +kernel
theorem d_R_across_0 : decode b_R_across 0 = .ok (.aload_n 0, 1) := by decide +kernel
theorem d_R_across_1 : decode b_R_across 1 = .ok (.iload_n 1, 1) := by decide +kernel
theorem d_R_across_2 : decode b_R_across 2 = .ok (.iload_n 2, 1) := by decide +kernel
theorem d_R_across_3 : decode b_R_across 3 = .ok (.invokevirtual 167, 3) := by decide +kernel
theorem d_R_across_6 : decode b_R_across 6 = .ok (.ifCond .ne 5, 3) := by decide +kernel
theorem d_R_across_9 : decode b_R_across 9 = .ok (.iconst (-1), 1) := by decide +kernel
theorem d_R_across_10 : decode b_R_across 10 = .ok (.ireturn, 1) := by decide +kernel
theorem d_R_across_11 : decode b_R_across 11 = .ok (.aload_n 0, 1) := by decide +kernel
theorem d_R_across_12 : decode b_R_across 12 = .ok (.getfield 41, 3) := by decide +kernel
theorem d_R_across_15 : decode b_R_across 15 = .ok (.iconst 3, 1) := by decide +kernel
theorem d_R_across_16 : decode b_R_across 16 = .ok (.iload_n 1, 1) := by decide +kernel
theorem d_R_across_17 : decode b_R_across 17 = .ok (.imul, 1) := by decide +kernel
theorem d_R_across_18 : decode b_R_across 18 = .ok (.iload_n 2, 1) := by decide +kernel
theorem d_R_across_19 : decode b_R_across 19 = .ok (.iadd, 1) := by decide +kernel
theorem d_R_across_20 : decode b_R_across 20 = .ok (.iaload, 1) := by decide +kernel
theorem d_R_across_21 : decode b_R_across 21 = .ok (.istore_n 3, 1) := by decide +kernel
theorem d_R_across_22 : decode b_R_across 22 = .ok (.aload_n 0, 1) := by decide +kernel
theorem d_R_across_23 : decode b_R_across 23 = .ok (.getfield 41, 3) := by decide +kernel
theorem d_R_across_26 : decode b_R_across 26 = .ok (.iconst 3, 1) := by decide +kernel
theorem d_R_across_27 : decode b_R_across 27 = .ok (.iload_n 1, 1) := by decide +kernel
theorem d_R_across_28 : decode b_R_across 28 = .ok (.imul, 1) := by decide +kernel
theorem d_R_across_29 : decode b_R_across 29 = .ok (.iload_n 2, 1) := by decide +kernel
theorem d_R_across_30 : decode b_R_across 30 = .ok (.iconst 1, 1) := by decide +kernel
theorem d_R_across_31 : decode b_R_across 31 = .ok (.iadd, 1) := by decide +kernel
theorem d_R_across_32 : decode b_R_across 32 = .ok (.iconst 3, 1) := by decide +kernel
theorem d_R_across_33 : decode b_R_across 33 = .ok (.irem, 1) := by decide +kernel
theorem d_R_across_34 : decode b_R_across 34 = .ok (.iadd, 1) := by decide +kernel
theorem d_R_across_35 : decode b_R_across 35 = .ok (.iaload, 1) := by decide +kernel
theorem d_R_across_36 : decode b_R_across 36 = .ok (.istore 4, 2) := by decide +kernel
theorem d_R_across_38 : decode b_R_across 38 = .ok (.iconst 0, 1) := by decide +kernel
theorem d_R_across_39 : decode b_R_across 39 = .ok (.istore 5, 2) := by decide +kernel
theorem d_R_across_41 : decode b_R_across 41 = .ok (.iload 5, 2) := by decide +kernel
theorem d_R_across_43 : decode b_R_across 43 = .ok (.aload_n 0, 1) := by decide +kernel
theorem d_R_across_44 : decode b_R_across 44 = .ok (.getfield 160, 3) := by decide +kernel
theorem d_R_across_47 : decode b_R_across 47 = .ok (.if_icmp .ge 64, 3) := by decide +kernel
theorem d_R_across_50 : decode b_R_across 50 = .ok (.iconst 0, 1) := by decide +kernel
theorem d_R_across_51 : decode b_R_across 51 = .ok (.istore 6, 2) := by decide +kernel
theorem d_R_across_53 : decode b_R_across 53 = .ok (.iload 6, 2) := by decide +kernel
theorem d_R_across_55 : decode b_R_across 55 = .ok (.iconst 3, 1) := by decide +kernel
theorem d_R_across_56 : decode b_R_across 56 = .ok (.if_icmp .ge 49, 3) := by decide +kernel
theorem d_R_across_59 : decode b_R_across 59 = .ok (.aload_n 0, 1) := by decide +kernel
theorem d_R_across_60 : decode b_R_across 60 = .ok (.getfield 41, 3) := by decide +kernel
theorem d_R_across_63 : decode b_R_across 63 = .ok (.iconst 3, 1) := by decide +kernel
theorem d_R_across_64 : decode b_R_across 64 = .ok (.iload 5, 2) := by decide +kernel
theorem d_R_across_66 : decode b_R_across 66 = .ok (.imul, 1) := by decide +kernel
theorem d_R_across_67 : decode b_R_across 67 = .ok (.iload 6, 2) := by decide +kernel
theorem d_R_across_69 : decode b_R_across 69 = .ok (.iadd, 1) := by decide +kernel
theorem d_R_across_70 : decode b_R_across 70 = .ok (.iaload, 1) := by decide +kernel
theorem d_R_across_71 : decode b_R_across 71 = .ok (.iload 4, 2) := by decide +kernel
theorem d_R_across_73 : decode b_R_across 73 = .ok (.if_icmp .ne 26, 3) := by decide +kernel
theorem d_R_across_76 : decode b_R_across 76 = .ok (.aload_n 0, 1) := by decide +kernel
theorem d_R_across_77 : decode b_R_across 77 = .ok (.getfield 41, 3) := by decide +kernel
theorem d_R_across_80 : decode b_R_across 80 = .ok (.iconst 3, 1) := by decide +kernel
theorem d_R_across_81 : decode b_R_across 81 = .ok (.iload 5, 2) := by decide +kernel
theorem d_R_across_83 : decode b_R_across 83 = .ok (.imul, 1) := by decide +kernel
theorem d_R_across_84 : decode b_R_across 84 = .ok (.iload 6, 2) := by decide +kernel
theorem d_R_across_86 : decode b_R_across 86 = .ok (.iconst 1, 1) := by decide +kernel
theorem d_R_across_87 : decode b_R_across 87 = .ok (.iadd, 1) := by decide +kernel
theorem d_R_across_88 : decode b_R_across 88 = .ok (.iconst 3, 1) := by decide +kernel
theorem d_R_across_89 : decode b_R_across 89 = .ok (.irem, 1) := by decide +kernel
theorem d_R_across_90 : decode b_R_across 90 = .ok (.iadd, 1) := by decide +kernel
theorem d_R_across_91 : decode b_R_across 91 = .ok (.iaload, 1) := by decide +kernel
theorem d_R_across_92 : decode b_R_across 92 = .ok (.iload_n 3, 1) := by decide +kernel
theorem d_R_across_93 : decode b_R_across 93 = .ok (.if_icmp .ne 6, 3) := by decide +kernel
theorem d_R_across_96 : decode b_R_across 96 = .ok (.iload 5, 2) := by decide +kernel
theorem d_R_across_98 : decode b_R_across 98 = .ok (.ireturn, 1) := by decide +kernel
theorem d_R_across_99 : decode b_R_across 99 = .ok (.iinc 6 1, 3) := by decide +kernel
theorem d_R_across_102 : decode b_R_across 102 = .ok (.goto (-49), 3) := by decide +kernel
theorem d_R_across_105 : decode b_R_across 105 = .ok (.iinc 5 1, 3) := by decide +kernel
theorem d_R_across_108 : decode b_R_across 108 = .ok (.goto (-67), 3) := by decide +kernel
theorem d_R_across_111 : decode b_R_across 111 = .ok (.iconst (-1), 1) := by decide +kernel
theorem d_R_across_112 : decode b_R_across 112 = .ok (.ireturn, 1) := by decide +kernel
theorem d_R_fixed_0 : decode b_R_fixed 0 = .ok (.aload_n 0, 1) := by decide +kernel
theorem d_R_fixed_1 : decode b_R_fixed 1 = .ok (.iload_n 1, 1) := by decide +kernel
theorem d_R_fixed_2 : decode b_R_fixed 2 = .ok (.iload_n 2, 1) := by decide +kernel
theorem d_R_fixed_3 : decode b_R_fixed 3 = .ok (.invokevirtual 167, 3) := by decide +kernel
theorem d_R_fixed_6 : decode b_R_fixed 6 = .ok (.ifCond .eq 20, 3) := by decide +kernel
theorem d_R_fixed_9 : decode b_R_fixed 9 = .ok (.aload_n 0, 1) := by decide +kernel
theorem d_R_fixed_10 : decode b_R_fixed 10 = .ok (.getfield 44, 3) := by decide +kernel
theorem d_R_fixed_13 : decode b_R_fixed 13 = .ok (.iconst 3, 1) := by decide +kernel
theorem d_R_fixed_14 : decode b_R_fixed 14 = .ok (.iload_n 1, 1) := by decide +kernel
theorem d_R_fixed_15 : decode b_R_fixed 15 = .ok (.imul, 1) := by decide +kernel
theorem d_R_fixed_16 : decode b_R_fixed 16 = .ok (.iload_n 2, 1) := by decide +kernel
theorem d_R_fixed_17 : decode b_R_fixed 17 = .ok (.iadd, 1) := by decide +kernel
theorem d_R_fixed_18 : decode b_R_fixed 18 = .ok (.baload, 1) := by decide +kernel
theorem d_R_fixed_19 : decode b_R_fixed 19 = .ok (.ifCond .eq 7, 3) := by decide +kernel
theorem d_R_fixed_22 : decode b_R_fixed 22 = .ok (.iconst 1, 1) := by decide +kernel
theorem d_R_fixed_23 : decode b_R_fixed 23 = .ok (.goto 4, 3) := by decide +kernel
theorem d_R_fixed_26 : decode b_R_fixed 26 = .ok (.iconst 0, 1) := by decide +kernel
theorem d_R_fixed_27 : decode b_R_fixed 27 = .ok (.ireturn, 1) := by decide +kernel
theorem d_R_locate_0 : decode b_R_locate 0 = .ok (.iconst 0, 1) := by decide +kernel
theorem d_R_locate_1 : decode b_R_locate 1 = .ok (.istore_n 3, 1) := by decide +kernel
theorem d_R_locate_2 : decode b_R_locate 2 = .ok (.iload_n 3, 1) := by decide +kernel
theorem d_R_locate_3 : decode b_R_locate 3 = .ok (.aload_n 0, 1) := by decide +kernel
theorem d_R_locate_4 : decode b_R_locate 4 = .ok (.getfield 160, 3) := by decide +kernel
theorem d_R_locate_7 : decode b_R_locate 7 = .ok (.if_icmp .ge 50, 3) := by decide +kernel
theorem d_R_locate_10 : decode b_R_locate 10 = .ok (.aload_n 0, 1) := by decide +kernel
theorem d_R_locate_11 : decode b_R_locate 11 = .ok (.aload_n 0, 1) := by decide +kernel
theorem d_R_locate_12 : decode b_R_locate 12 = .ok (.getfield 41, 3) := by decide +kernel
theorem d_R_locate_15 : decode b_R_locate 15 = .ok (.iconst 3, 1) := by decide +kernel
theorem d_R_locate_16 : decode b_R_locate 16 = .ok (.iload_n 3, 1) := by decide +kernel
theorem d_R_locate_17 : decode b_R_locate 17 = .ok (.imul, 1) := by decide +kernel
theorem d_R_locate_18 : decode b_R_locate 18 = .ok (.iaload, 1) := by decide +kernel
theorem d_R_locate_19 : decode b_R_locate 19 = .ok (.aload_n 0, 1) := by decide +kernel
theorem d_R_locate_20 : decode b_R_locate 20 = .ok (.getfield 41, 3) := by decide +kernel
theorem d_R_locate_23 : decode b_R_locate 23 = .ok (.iconst 3, 1) := by decide +kernel
theorem d_R_locate_24 : decode b_R_locate 24 = .ok (.iload_n 3, 1) := by decide +kernel
theorem d_R_locate_25 : decode b_R_locate 25 = .ok (.imul, 1) := by decide +kernel
theorem d_R_locate_26 : decode b_R_locate 26 = .ok (.iconst 1, 1) := by decide +kernel
theorem d_R_locate_27 : decode b_R_locate 27 = .ok (.iadd, 1) := by decide +kernel
theorem d_R_locate_28 : decode b_R_locate 28 = .ok (.iaload, 1) := by decide +kernel
theorem d_R_locate_29 : decode b_R_locate 29 = .ok (.aload_n 0, 1) := by decide +kernel
theorem d_R_locate_30 : decode b_R_locate 30 = .ok (.getfield 41, 3) := by decide +kernel
theorem d_R_locate_33 : decode b_R_locate 33 = .ok (.iconst 3, 1) := by decide +kernel
theorem d_R_locate_34 : decode b_R_locate 34 = .ok (.iload_n 3, 1) := by decide +kernel
theorem d_R_locate_35 : decode b_R_locate 35 = .ok (.imul, 1) := by decide +kernel
theorem d_R_locate_36 : decode b_R_locate 36 = .ok (.iconst 2, 1) := by decide +kernel
theorem d_R_locate_37 : decode b_R_locate 37 = .ok (.iadd, 1) := by decide +kernel
theorem d_R_locate_38 : decode b_R_locate 38 = .ok (.iaload, 1) := by decide +kernel
theorem d_R_locate_39 : decode b_R_locate 39 = .ok (.iload_n 1, 1) := by decide +kernel
theorem d_R_locate_40 : decode b_R_locate 40 = .ok (.i2l, 1) := by decide +kernel
theorem d_R_locate_41 : decode b_R_locate 41 = .ok (.iload_n 2, 1) := by decide +kernel
theorem d_R_locate_42 : decode b_R_locate 42 = .ok (.i2l, 1) := by decide +kernel
theorem d_R_locate_43 : decode b_R_locate 43 = .ok (.invokevirtual 143, 3) := by decide +kernel
theorem d_R_locate_46 : decode b_R_locate 46 = .ok (.ifCond .eq 5, 3) := by decide +kernel
theorem d_R_locate_49 : decode b_R_locate 49 = .ok (.iload_n 3, 1) := by decide +kernel
theorem d_R_locate_50 : decode b_R_locate 50 = .ok (.ireturn, 1) := by decide +kernel
theorem d_R_locate_51 : decode b_R_locate 51 = .ok (.iinc 3 1, 3) := by decide +kernel
theorem d_R_locate_54 : decode b_R_locate 54 = .ok (.goto (-52), 3) := by decide +kernel
theorem d_R_locate_57 : decode b_R_locate 57 = .ok (.iconst (-1), 1) := by decide +kernel
theorem d_R_locate_58 : decode b_R_locate 58 = .ok (.ireturn, 1) := by decide +kernel
theorem d_R_degree_0 : decode b_R_degree 0 = .ok (.aload_n 0, 1) := by decide +kernel
theorem d_R_degree_1 : decode b_R_degree 1 = .ok (.iload_n 1, 1) := by decide +kernel
theorem d_R_degree_2 : decode b_R_degree 2 = .ok (.invokevirtual 94, 3) := by decide +kernel
theorem d_R_degree_5 : decode b_R_degree 5 = .ok (.ifCond .ne 5, 3) := by decide +kernel
theorem d_R_degree_8 : decode b_R_degree 8 = .ok (.iconst (-1), 1) := by decide +kernel
theorem d_R_degree_9 : decode b_R_degree 9 = .ok (.ireturn, 1) := by decide +kernel
theorem d_R_degree_10 : decode b_R_degree 10 = .ok (.iconst 0, 1) := by decide +kernel
theorem d_R_degree_11 : decode b_R_degree 11 = .ok (.istore_n 2, 1) := by decide +kernel
theorem d_R_degree_12 : decode b_R_degree 12 = .ok (.iconst 0, 1) := by decide +kernel
theorem d_R_degree_13 : decode b_R_degree 13 = .ok (.istore_n 3, 1) := by decide +kernel
theorem d_R_degree_14 : decode b_R_degree 14 = .ok (.iload_n 3, 1) := by decide +kernel
theorem d_R_degree_15 : decode b_R_degree 15 = .ok (.iconst 3, 1) := by decide +kernel
theorem d_R_degree_16 : decode b_R_degree 16 = .ok (.aload_n 0, 1) := by decide +kernel
theorem d_R_degree_17 : decode b_R_degree 17 = .ok (.getfield 160, 3) := by decide +kernel
theorem d_R_degree_20 : decode b_R_degree 20 = .ok (.imul, 1) := by decide +kernel
theorem d_R_degree_21 : decode b_R_degree 21 = .ok (.if_icmp .ge 27, 3) := by decide +kernel
theorem d_R_degree_24 : decode b_R_degree 24 = .ok (.aload_n 0, 1) := by decide +kernel
theorem d_R_degree_25 : decode b_R_degree 25 = .ok (.getfield 41, 3) := by decide +kernel
theorem d_R_degree_28 : decode b_R_degree 28 = .ok (.iload_n 3, 1) := by decide +kernel
theorem d_R_degree_29 : decode b_R_degree 29 = .ok (.iaload, 1) := by decide +kernel
theorem d_R_degree_30 : decode b_R_degree 30 = .ok (.iload_n 1, 1) := by decide +kernel
theorem d_R_degree_31 : decode b_R_degree 31 = .ok (.if_icmp .ne 9, 3) := by decide +kernel
theorem d_R_degree_34 : decode b_R_degree 34 = .ok (.iload_n 2, 1) := by decide +kernel
theorem d_R_degree_35 : decode b_R_degree 35 = .ok (.iconst 1, 1) := by decide +kernel
theorem d_R_degree_36 : decode b_R_degree 36 = .ok (.iadd, 1) := by decide +kernel
theorem d_R_degree_37 : decode b_R_degree 37 = .ok (.goto 4, 3) := by decide +kernel
theorem d_R_degree_40 : decode b_R_degree 40 = .ok (.iload_n 2, 1) := by decide +kernel
theorem d_R_degree_41 : decode b_R_degree 41 = .ok (.istore_n 2, 1) := by decide +kernel
theorem d_R_degree_42 : decode b_R_degree 42 = .ok (.iinc 3 1, 3) := by decide +kernel
