/-! MAKING THE FIRST WORLD: the class's constructor, decoded (printed by wip/whole/mk.py). -/
theorem zX11_0 : decode (byI 11) 0 = .ok (.aload_n 0, 1) := by decide +kernel
theorem zX11_1 : decode (byI 11) 1 = .ok (.invokespecial 3, 3) := by decide +kernel
theorem zX11_4 : decode (byI 11) 4 = .ok (.aload_n 0, 1) := by decide +kernel
theorem zX11_5 : decode (byI 11) 5 = .ok (.new 9, 3) := by decide +kernel
theorem zX11_8 : decode (byI 11) 8 = .ok (.dup, 1) := by decide +kernel
theorem zX11_9 : decode (byI 11) 9 = .ok (.invokespecial 11, 3) := by decide +kernel
theorem zX11_12 : decode (byI 11) 12 = .ok (.putfield 12, 3) := by decide +kernel
theorem zX11_15 : decode (byI 11) 15 = .ok (.aload_n 0, 1) := by decide +kernel
theorem zX11_16 : decode (byI 11) 16 = .ok (.new 16, 3) := by decide +kernel
theorem zX11_19 : decode (byI 11) 19 = .ok (.dup, 1) := by decide +kernel
theorem zX11_20 : decode (byI 11) 20 = .ok (.invokespecial 18, 3) := by decide +kernel
theorem zX11_23 : decode (byI 11) 23 = .ok (.putfield 19, 3) := by decide +kernel
theorem zX11_26 : decode (byI 11) 26 = .ok (.aload_n 0, 1) := by decide +kernel
theorem zX11_27 : decode (byI 11) 27 = .ok (.new 23, 3) := by decide +kernel
theorem zX11_30 : decode (byI 11) 30 = .ok (.dup, 1) := by decide +kernel
theorem zX11_31 : decode (byI 11) 31 = .ok (.invokespecial 25, 3) := by decide +kernel
theorem zX11_34 : decode (byI 11) 34 = .ok (.putfield 26, 3) := by decide +kernel
theorem zX11_37 : decode (byI 11) 37 = .ok (.aload_n 0, 1) := by decide +kernel
theorem zX11_38 : decode (byI 11) 38 = .ok (.new 30, 3) := by decide +kernel
theorem zX11_41 : decode (byI 11) 41 = .ok (.dup, 1) := by decide +kernel
theorem zX11_42 : decode (byI 11) 42 = .ok (.invokespecial 32, 3) := by decide +kernel
theorem zX11_45 : decode (byI 11) 45 = .ok (.putfield 33, 3) := by decide +kernel
theorem zX11_48 : decode (byI 11) 48 = .ok (.aload_n 0, 1) := by decide +kernel
theorem zX11_49 : decode (byI 11) 49 = .ok (.new 37, 3) := by decide +kernel
theorem zX11_52 : decode (byI 11) 52 = .ok (.dup, 1) := by decide +kernel
theorem zX11_53 : decode (byI 11) 53 = .ok (.invokespecial 39, 3) := by decide +kernel
theorem zX11_56 : decode (byI 11) 56 = .ok (.putfield 40, 3) := by decide +kernel
theorem zX11_59 : decode (byI 11) 59 = .ok (.aload_n 0, 1) := by decide +kernel
theorem zX11_60 : decode (byI 11) 60 = .ok (.new 44, 3) := by decide +kernel
theorem zX11_63 : decode (byI 11) 63 = .ok (.dup, 1) := by decide +kernel
theorem zX11_64 : decode (byI 11) 64 = .ok (.invokespecial 46, 3) := by decide +kernel
theorem zX11_67 : decode (byI 11) 67 = .ok (.putfield 47, 3) := by decide +kernel
theorem zX11_70 : decode (byI 11) 70 = .ok (.aload_n 0, 1) := by decide +kernel
theorem zX11_71 : decode (byI 11) 71 = .ok (.new 51, 3) := by decide +kernel
theorem zX11_74 : decode (byI 11) 74 = .ok (.dup, 1) := by decide +kernel
theorem zX11_75 : decode (byI 11) 75 = .ok (.invokespecial 53, 3) := by decide +kernel
theorem zX11_78 : decode (byI 11) 78 = .ok (.putfield 54, 3) := by decide +kernel
theorem zX11_81 : decode (byI 11) 81 = .ok (.aload_n 0, 1) := by decide +kernel
theorem zX11_82 : decode (byI 11) 82 = .ok (.new 58, 3) := by decide +kernel
theorem zX11_85 : decode (byI 11) 85 = .ok (.dup, 1) := by decide +kernel
theorem zX11_86 : decode (byI 11) 86 = .ok (.invokespecial 60, 3) := by decide +kernel
theorem zX11_89 : decode (byI 11) 89 = .ok (.putfield 61, 3) := by decide +kernel
theorem zX11_92 : decode (byI 11) 92 = .ok (.aload_n 0, 1) := by decide +kernel
theorem zX11_93 : decode (byI 11) 93 = .ok (.new 65, 3) := by decide +kernel
theorem zX11_96 : decode (byI 11) 96 = .ok (.dup, 1) := by decide +kernel
theorem zX11_97 : decode (byI 11) 97 = .ok (.invokespecial 67, 3) := by decide +kernel
theorem zX11_100 : decode (byI 11) 100 = .ok (.putfield 68, 3) := by decide +kernel
theorem zX11_103 : decode (byI 11) 103 = .ok (.aload_n 0, 1) := by decide +kernel
theorem zX11_104 : decode (byI 11) 104 = .ok (.new 72, 3) := by decide +kernel
theorem zX11_107 : decode (byI 11) 107 = .ok (.dup, 1) := by decide +kernel
theorem zX11_108 : decode (byI 11) 108 = .ok (.invokespecial 74, 3) := by decide +kernel
theorem zX11_111 : decode (byI 11) 111 = .ok (.putfield 75, 3) := by decide +kernel
theorem zX11_114 : decode (byI 11) 114 = .ok (.aload_n 0, 1) := by decide +kernel
theorem zX11_115 : decode (byI 11) 115 = .ok (.new 72, 3) := by decide +kernel
theorem zX11_118 : decode (byI 11) 118 = .ok (.dup, 1) := by decide +kernel
theorem zX11_119 : decode (byI 11) 119 = .ok (.invokespecial 74, 3) := by decide +kernel
theorem zX11_122 : decode (byI 11) 122 = .ok (.putfield 79, 3) := by decide +kernel
theorem zX11_125 : decode (byI 11) 125 = .ok (.aload_n 0, 1) := by decide +kernel
theorem zX11_126 : decode (byI 11) 126 = .ok (.bipush 10, 2) := by decide +kernel
theorem zX11_128 : decode (byI 11) 128 = .ok (.anewarray 72, 3) := by decide +kernel
theorem zX11_131 : decode (byI 11) 131 = .ok (.putfield 82, 3) := by decide +kernel
theorem zX11_134 : decode (byI 11) 134 = .ok (.aload_n 0, 1) := by decide +kernel
theorem zX11_135 : decode (byI 11) 135 = .ok (.iconst 4, 1) := by decide +kernel
theorem zX11_136 : decode (byI 11) 136 = .ok (.anewarray 86, 3) := by decide +kernel
theorem zX11_139 : decode (byI 11) 139 = .ok (.putfield 88, 3) := by decide +kernel
theorem zX11_142 : decode (byI 11) 142 = .ok (.aload_n 0, 1) := by decide +kernel
theorem zX11_143 : decode (byI 11) 143 = .ok (.iconst 2, 1) := by decide +kernel
theorem zX11_144 : decode (byI 11) 144 = .ok (.anewarray 65, 3) := by decide +kernel
theorem zX11_147 : decode (byI 11) 147 = .ok (.putfield 92, 3) := by decide +kernel
theorem zX11_150 : decode (byI 11) 150 = .ok (.aload_n 0, 1) := by decide +kernel
theorem zX11_151 : decode (byI 11) 151 = .ok (.iconst 2, 1) := by decide +kernel
theorem zX11_152 : decode (byI 11) 152 = .ok (.anewarray 72, 3) := by decide +kernel
theorem zX11_155 : decode (byI 11) 155 = .ok (.putfield 96, 3) := by decide +kernel
theorem zX11_158 : decode (byI 11) 158 = .ok (.iconst 0, 1) := by decide +kernel
theorem zX11_159 : decode (byI 11) 159 = .ok (.istore_n 1, 1) := by decide +kernel
theorem zX11_160 : decode (byI 11) 160 = .ok (.iload_n 1, 1) := by decide +kernel
theorem zX11_161 : decode (byI 11) 161 = .ok (.bipush 10, 2) := by decide +kernel
theorem zX11_163 : decode (byI 11) 163 = .ok (.if_icmp .ge 22, 3) := by decide +kernel
theorem zX11_166 : decode (byI 11) 166 = .ok (.aload_n 0, 1) := by decide +kernel
theorem zX11_167 : decode (byI 11) 167 = .ok (.getfield 82, 3) := by decide +kernel
theorem zX11_170 : decode (byI 11) 170 = .ok (.iload_n 1, 1) := by decide +kernel
theorem zX11_171 : decode (byI 11) 171 = .ok (.new 72, 3) := by decide +kernel
theorem zX11_174 : decode (byI 11) 174 = .ok (.dup, 1) := by decide +kernel
theorem zX11_175 : decode (byI 11) 175 = .ok (.invokespecial 74, 3) := by decide +kernel
theorem zX11_178 : decode (byI 11) 178 = .ok (.aastore, 1) := by decide +kernel
theorem zX11_179 : decode (byI 11) 179 = .ok (.iinc 1 1, 3) := by decide +kernel
theorem zX11_182 : decode (byI 11) 182 = .ok (.goto (-22), 3) := by decide +kernel
theorem zX11_185 : decode (byI 11) 185 = .ok (.iconst 0, 1) := by decide +kernel
theorem zX11_186 : decode (byI 11) 186 = .ok (.istore_n 1, 1) := by decide +kernel
theorem zX11_187 : decode (byI 11) 187 = .ok (.iload_n 1, 1) := by decide +kernel
theorem zX11_188 : decode (byI 11) 188 = .ok (.iconst 4, 1) := by decide +kernel
theorem zX11_189 : decode (byI 11) 189 = .ok (.if_icmp .ge 22, 3) := by decide +kernel
theorem zX11_192 : decode (byI 11) 192 = .ok (.aload_n 0, 1) := by decide +kernel
theorem zX11_193 : decode (byI 11) 193 = .ok (.getfield 88, 3) := by decide +kernel
theorem zX11_196 : decode (byI 11) 196 = .ok (.iload_n 1, 1) := by decide +kernel
theorem zX11_197 : decode (byI 11) 197 = .ok (.new 86, 3) := by decide +kernel
theorem zX11_200 : decode (byI 11) 200 = .ok (.dup, 1) := by decide +kernel
theorem zX11_201 : decode (byI 11) 201 = .ok (.invokespecial 99, 3) := by decide +kernel
theorem zX11_204 : decode (byI 11) 204 = .ok (.aastore, 1) := by decide +kernel
theorem zX11_205 : decode (byI 11) 205 = .ok (.iinc 1 1, 3) := by decide +kernel
theorem zX11_208 : decode (byI 11) 208 = .ok (.goto (-21), 3) := by decide +kernel
theorem zX11_211 : decode (byI 11) 211 = .ok (.iconst 0, 1) := by decide +kernel
theorem zX11_212 : decode (byI 11) 212 = .ok (.istore_n 1, 1) := by decide +kernel
theorem zX11_213 : decode (byI 11) 213 = .ok (.iload_n 1, 1) := by decide +kernel
theorem zX11_214 : decode (byI 11) 214 = .ok (.iconst 2, 1) := by decide +kernel
theorem zX11_215 : decode (byI 11) 215 = .ok (.if_icmp .ge 35, 3) := by decide +kernel
theorem zX11_218 : decode (byI 11) 218 = .ok (.aload_n 0, 1) := by decide +kernel
theorem zX11_219 : decode (byI 11) 219 = .ok (.getfield 92, 3) := by decide +kernel
theorem zX11_222 : decode (byI 11) 222 = .ok (.iload_n 1, 1) := by decide +kernel
theorem zX11_223 : decode (byI 11) 223 = .ok (.new 65, 3) := by decide +kernel
theorem zX11_226 : decode (byI 11) 226 = .ok (.dup, 1) := by decide +kernel
theorem zX11_227 : decode (byI 11) 227 = .ok (.invokespecial 67, 3) := by decide +kernel
theorem zX11_230 : decode (byI 11) 230 = .ok (.aastore, 1) := by decide +kernel
theorem zX11_231 : decode (byI 11) 231 = .ok (.aload_n 0, 1) := by decide +kernel
theorem zX11_232 : decode (byI 11) 232 = .ok (.getfield 96, 3) := by decide +kernel
theorem zX11_235 : decode (byI 11) 235 = .ok (.iload_n 1, 1) := by decide +kernel
theorem zX11_236 : decode (byI 11) 236 = .ok (.new 72, 3) := by decide +kernel
theorem zX11_239 : decode (byI 11) 239 = .ok (.dup, 1) := by decide +kernel
theorem zX11_240 : decode (byI 11) 240 = .ok (.invokespecial 74, 3) := by decide +kernel
theorem zX11_243 : decode (byI 11) 243 = .ok (.aastore, 1) := by decide +kernel
theorem zX11_244 : decode (byI 11) 244 = .ok (.iinc 1 1, 3) := by decide +kernel
theorem zX11_247 : decode (byI 11) 247 = .ok (.goto (-34), 3) := by decide +kernel
theorem zX11_250 : decode (byI 11) 250 = .ok (.return_, 1) := by decide +kernel
