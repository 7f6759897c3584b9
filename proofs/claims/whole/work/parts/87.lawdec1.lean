theorem d_W_0 : decode code 0 = .ok (.new 7, 3) := by decide +kernel
theorem d_W_3 : decode code 3 = .ok (.dup, 1) := by decide +kernel
theorem d_W_4 : decode code 4 = .ok (.invokespecial 9, 3) := by decide +kernel
theorem d_W_7 : decode code 7 = .ok (.astore_n 1, 1) := by decide +kernel
theorem d_W_8 : decode code 8 = .ok (.new 10, 3) := by decide +kernel
theorem d_W_11 : decode code 11 = .ok (.dup, 1) := by decide +kernel
theorem d_W_12 : decode code 12 = .ok (.invokespecial 12, 3) := by decide +kernel
theorem d_W_15 : decode code 15 = .ok (.astore_n 2, 1) := by decide +kernel
theorem d_W_16 : decode code 16 = .ok (.iconst 0, 1) := by decide +kernel
theorem d_W_17 : decode code 17 = .ok (.istore_n 3, 1) := by decide +kernel
theorem d_W_18 : decode code 18 = .ok (.iload_n 3, 1) := by decide +kernel
theorem d_W_19 : decode code 19 = .ok (.aload_n 0, 1) := by decide +kernel
theorem d_W_20 : decode code 20 = .ok (.arraylength, 1) := by decide +kernel
theorem d_W_21 : decode code 21 = .ok (.iconst 5, 1) := by decide +kernel
theorem d_W_22 : decode code 22 = .ok (.isub, 1) := by decide +kernel
theorem d_W_23 : decode code 23 = .ok (.if_icmp .gt 613, 3) := by decide +kernel
theorem d_W_26 : decode code 26 = .ok (.aload_n 0, 1) := by decide +kernel
theorem d_W_27 : decode code 27 = .ok (.iload_n 3, 1) := by decide +kernel
theorem d_W_28 : decode code 28 = .ok (.iaload, 1) := by decide +kernel
theorem d_W_29 : decode code 29 = .ok (.bipush 31, 2) := by decide +kernel
theorem d_W_31 : decode code 31 = .ok (.iand, 1) := by decide +kernel
theorem d_W_32 : decode code 32 = .ok (.tableswitch 598 0 16 #[84, 117, 150, 183, 226, 279, 344, 357, 390, 423, 456, 489, 512, 526, 539, 552, 565], 84) := by decide +kernel
theorem d_W_116 : decode code 116 = .ok (.aload_n 1, 1) := by decide +kernel
theorem d_W_117 : decode code 117 = .ok (.aload_n 0, 1) := by decide +kernel
theorem d_W_118 : decode code 118 = .ok (.iload_n 3, 1) := by decide +kernel
theorem d_W_119 : decode code 119 = .ok (.iconst 1, 1) := by decide +kernel
theorem d_W_120 : decode code 120 = .ok (.iadd, 1) := by decide +kernel
theorem d_W_121 : decode code 121 = .ok (.iaload, 1) := by decide +kernel
theorem d_W_122 : decode code 122 = .ok (.aload_n 0, 1) := by decide +kernel
theorem d_W_123 : decode code 123 = .ok (.iload_n 3, 1) := by decide +kernel
theorem d_W_124 : decode code 124 = .ok (.iconst 2, 1) := by decide +kernel
theorem d_W_125 : decode code 125 = .ok (.iadd, 1) := by decide +kernel
theorem d_W_126 : decode code 126 = .ok (.iaload, 1) := by decide +kernel
theorem d_W_127 : decode code 127 = .ok (.invokevirtual 13, 3) := by decide +kernel
theorem d_W_130 : decode code 130 = .ok (.aload_n 2, 1) := by decide +kernel
theorem d_W_131 : decode code 131 = .ok (.aload_n 0, 1) := by decide +kernel
theorem d_W_132 : decode code 132 = .ok (.iload_n 3, 1) := by decide +kernel
theorem d_W_133 : decode code 133 = .ok (.iconst 1, 1) := by decide +kernel
theorem d_W_134 : decode code 134 = .ok (.iadd, 1) := by decide +kernel
theorem d_W_135 : decode code 135 = .ok (.iaload, 1) := by decide +kernel
theorem d_W_136 : decode code 136 = .ok (.aload_n 0, 1) := by decide +kernel
theorem d_W_137 : decode code 137 = .ok (.iload_n 3, 1) := by decide +kernel
theorem d_W_138 : decode code 138 = .ok (.iconst 2, 1) := by decide +kernel
theorem d_W_139 : decode code 139 = .ok (.iadd, 1) := by decide +kernel
theorem d_W_140 : decode code 140 = .ok (.iaload, 1) := by decide +kernel
theorem d_W_141 : decode code 141 = .ok (.invokevirtual 17, 3) := by decide +kernel
theorem d_W_144 : decode code 144 = .ok (.if_icmp .eq 486, 3) := by decide +kernel
theorem d_W_147 : decode code 147 = .ok (.iconst 0, 1) := by decide +kernel
theorem d_W_148 : decode code 148 = .ok (.ireturn, 1) := by decide +kernel
theorem d_W_149 : decode code 149 = .ok (.aload_n 1, 1) := by decide +kernel
theorem d_W_150 : decode code 150 = .ok (.aload_n 0, 1) := by decide +kernel
theorem d_W_151 : decode code 151 = .ok (.iload_n 3, 1) := by decide +kernel
theorem d_W_152 : decode code 152 = .ok (.iconst 1, 1) := by decide +kernel
theorem d_W_153 : decode code 153 = .ok (.iadd, 1) := by decide +kernel
theorem d_W_154 : decode code 154 = .ok (.iaload, 1) := by decide +kernel
theorem d_W_155 : decode code 155 = .ok (.aload_n 0, 1) := by decide +kernel
theorem d_W_156 : decode code 156 = .ok (.iload_n 3, 1) := by decide +kernel
theorem d_W_157 : decode code 157 = .ok (.iconst 2, 1) := by decide +kernel
theorem d_W_158 : decode code 158 = .ok (.iadd, 1) := by decide +kernel
theorem d_W_159 : decode code 159 = .ok (.iaload, 1) := by decide +kernel
theorem d_W_160 : decode code 160 = .ok (.invokevirtual 18, 3) := by decide +kernel
theorem d_W_163 : decode code 163 = .ok (.aload_n 2, 1) := by decide +kernel
theorem d_W_164 : decode code 164 = .ok (.aload_n 0, 1) := by decide +kernel
theorem d_W_165 : decode code 165 = .ok (.iload_n 3, 1) := by decide +kernel
theorem d_W_166 : decode code 166 = .ok (.iconst 1, 1) := by decide +kernel
theorem d_W_167 : decode code 167 = .ok (.iadd, 1) := by decide +kernel
theorem d_W_168 : decode code 168 = .ok (.iaload, 1) := by decide +kernel
theorem d_W_169 : decode code 169 = .ok (.aload_n 0, 1) := by decide +kernel
theorem d_W_170 : decode code 170 = .ok (.iload_n 3, 1) := by decide +kernel
theorem d_W_171 : decode code 171 = .ok (.iconst 2, 1) := by decide +kernel
theorem d_W_172 : decode code 172 = .ok (.iadd, 1) := by decide +kernel
theorem d_W_173 : decode code 173 = .ok (.iaload, 1) := by decide +kernel
theorem d_W_174 : decode code 174 = .ok (.invokevirtual 21, 3) := by decide +kernel
theorem d_W_177 : decode code 177 = .ok (.if_icmp .eq 453, 3) := by decide +kernel
theorem d_W_180 : decode code 180 = .ok (.iconst 0, 1) := by decide +kernel
theorem d_W_181 : decode code 181 = .ok (.ireturn, 1) := by decide +kernel
theorem d_W_182 : decode code 182 = .ok (.aload_n 1, 1) := by decide +kernel
theorem d_W_183 : decode code 183 = .ok (.aload_n 0, 1) := by decide +kernel
theorem d_W_184 : decode code 184 = .ok (.iload_n 3, 1) := by decide +kernel
theorem d_W_185 : decode code 185 = .ok (.iconst 1, 1) := by decide +kernel
theorem d_W_186 : decode code 186 = .ok (.iadd, 1) := by decide +kernel
theorem d_W_187 : decode code 187 = .ok (.iaload, 1) := by decide +kernel
theorem d_W_188 : decode code 188 = .ok (.aload_n 0, 1) := by decide +kernel
theorem d_W_189 : decode code 189 = .ok (.iload_n 3, 1) := by decide +kernel
theorem d_W_190 : decode code 190 = .ok (.iconst 2, 1) := by decide +kernel
theorem d_W_191 : decode code 191 = .ok (.iadd, 1) := by decide +kernel
theorem d_W_192 : decode code 192 = .ok (.iaload, 1) := by decide +kernel
theorem d_W_193 : decode code 193 = .ok (.invokevirtual 22, 3) := by decide +kernel
theorem d_W_196 : decode code 196 = .ok (.aload_n 2, 1) := by decide +kernel
theorem d_W_197 : decode code 197 = .ok (.aload_n 0, 1) := by decide +kernel
theorem d_W_198 : decode code 198 = .ok (.iload_n 3, 1) := by decide +kernel
theorem d_W_199 : decode code 199 = .ok (.iconst 1, 1) := by decide +kernel
theorem d_W_200 : decode code 200 = .ok (.iadd, 1) := by decide +kernel
theorem d_W_201 : decode code 201 = .ok (.iaload, 1) := by decide +kernel
theorem d_W_202 : decode code 202 = .ok (.aload_n 0, 1) := by decide +kernel
theorem d_W_203 : decode code 203 = .ok (.iload_n 3, 1) := by decide +kernel
theorem d_W_204 : decode code 204 = .ok (.iconst 2, 1) := by decide +kernel
theorem d_W_205 : decode code 205 = .ok (.iadd, 1) := by decide +kernel
theorem d_W_206 : decode code 206 = .ok (.iaload, 1) := by decide +kernel
theorem d_W_207 : decode code 207 = .ok (.invokevirtual 25, 3) := by decide +kernel
theorem d_W_210 : decode code 210 = .ok (.if_icmp .eq 420, 3) := by decide +kernel
theorem d_W_213 : decode code 213 = .ok (.iconst 0, 1) := by decide +kernel
theorem d_W_214 : decode code 214 = .ok (.ireturn, 1) := by decide +kernel
theorem d_W_215 : decode code 215 = .ok (.aload_n 1, 1) := by decide +kernel
theorem d_W_216 : decode code 216 = .ok (.aload_n 0, 1) := by decide +kernel
theorem d_W_217 : decode code 217 = .ok (.iload_n 3, 1) := by decide +kernel
