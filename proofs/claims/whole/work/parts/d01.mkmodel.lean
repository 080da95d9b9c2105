/-! MAKING THE FIRST WORLD: the reference's constructor, decoded (printed by wip/whole/mk.py). -/
def wI12 (cA : Nat → ClassId) (h0 : Nat) (q : Nat → Nat) : va_W := [(h0, .inr (12, [.int 0, .ref (q 0), .ref (q 1), .ref (q 2), .ref (q 3), .int 0, .int 0, .int 0, .int 0, .int 0, .int 0, .int 0, .int 0, .int 0, .int (-1), .ref (q 4), .ref (q 5), .int 0, .int 0, .ref (q 6), .ref (q 7), .ref (q 8), .ref (q 9), .ref (q 10), .ref (q 11), .ref (q 12), .ref (q 13), .ref (q 14), .ref (q 15), .ref (q 16), .ref (q 17), .ref (q 18), .ref (q 19), .int 0, .ref (q 20), .ref (q 21), .ref (q 22)]))] ++ ([(q 0, .inl (cA 0, zA 0 4932))] ++ ([(q 1, .inl (cA 3, zA 3 2))] ++ ([(q 2, .inl (cA 0, zA 0 900))] ++ ([(q 3, .inl (cA 0, zA 0 1644))] ++ ([(q 4, .inl (cA 0, zA 0 900))] ++ ([(q 5, .inl (cA 0, zA 0 59))] ++ ([(q 6, .inl (cA 0, zA 0 1024))] ++ ([(q 7, .inl (cA 0, zA 0 1024))] ++ ([(q 8, .inl (cA 0, zA 0 1024))] ++ ([(q 9, .inl (cA 0, zA 0 1024))] ++ ([(q 10, .inl (cA 0, zA 0 41984))] ++ ([(q 11, .inl (cA 0, zA 0 10))] ++ ([(q 12, .inl (cA 0, zA 0 100))] ++ ([(q 13, .inl (cA 0, zA 0 10))] ++ ([(q 14, .inl (cA 0, zA 0 1024))] ++ ([(q 15, .inl (cA 0, zA 0 1024))] ++ ([(q 16, .inl (cA 0, zA 0 10))] ++ ([(q 17, .inl (cA 0, zA 0 30))] ++ ([(q 18, .inl (cA 0, zA 0 30))] ++ ([(q 19, .inl (cA 0, zA 0 2400))] ++ ([(q 20, .inl (cA 0, 4, .inl (upd (upd (upd (upd (fun _ => Int32.ofInt 0) 0 (-1)) 1 (-1)) 2 (-1)) 3 (-1))))] ++ ([(q 21, .inl (cA 0, zA 0 4))] ++ ([(q 22, .inl (cA 1, zA 1 160))])))))))))))))))))))))))
theorem zX12_0 : decode (byI 12) 0 = .ok (.aload_n 0, 1) := by decide +kernel
theorem zX12_1 : decode (byI 12) 1 = .ok (.invokespecial 7, 3) := by decide +kernel
theorem zX12_4 : decode (byI 12) 4 = .ok (.aload_n 0, 1) := by decide +kernel
theorem zX12_5 : decode (byI 12) 5 = .ok (.sipush 4932, 3) := by decide +kernel
theorem zX12_8 : decode (byI 12) 8 = .ok (.newarray .int, 2) := by decide +kernel
theorem zX12_10 : decode (byI 12) 10 = .ok (.putfield 13, 3) := by decide +kernel
theorem zX12_13 : decode (byI 12) 13 = .ok (.aload_n 0, 1) := by decide +kernel
theorem zX12_14 : decode (byI 12) 14 = .ok (.iconst 2, 1) := by decide +kernel
theorem zX12_15 : decode (byI 12) 15 = .ok (.newarray .boolean, 2) := by decide +kernel
theorem zX12_17 : decode (byI 12) 17 = .ok (.putfield 17, 3) := by decide +kernel
theorem zX12_20 : decode (byI 12) 20 = .ok (.aload_n 0, 1) := by decide +kernel
theorem zX12_21 : decode (byI 12) 21 = .ok (.sipush 900, 3) := by decide +kernel
theorem zX12_24 : decode (byI 12) 24 = .ok (.newarray .int, 2) := by decide +kernel
theorem zX12_26 : decode (byI 12) 26 = .ok (.putfield 21, 3) := by decide +kernel
theorem zX12_29 : decode (byI 12) 29 = .ok (.aload_n 0, 1) := by decide +kernel
theorem zX12_30 : decode (byI 12) 30 = .ok (.sipush 1644, 3) := by decide +kernel
theorem zX12_33 : decode (byI 12) 33 = .ok (.newarray .int, 2) := by decide +kernel
theorem zX12_35 : decode (byI 12) 35 = .ok (.putfield 24, 3) := by decide +kernel
theorem zX12_38 : decode (byI 12) 38 = .ok (.aload_n 0, 1) := by decide +kernel
theorem zX12_39 : decode (byI 12) 39 = .ok (.iconst (-1), 1) := by decide +kernel
theorem zX12_40 : decode (byI 12) 40 = .ok (.putfield 27, 3) := by decide +kernel
theorem zX12_43 : decode (byI 12) 43 = .ok (.aload_n 0, 1) := by decide +kernel
theorem zX12_44 : decode (byI 12) 44 = .ok (.sipush 900, 3) := by decide +kernel
theorem zX12_47 : decode (byI 12) 47 = .ok (.newarray .int, 2) := by decide +kernel
theorem zX12_49 : decode (byI 12) 49 = .ok (.putfield 30, 3) := by decide +kernel
theorem zX12_52 : decode (byI 12) 52 = .ok (.aload_n 0, 1) := by decide +kernel
theorem zX12_53 : decode (byI 12) 53 = .ok (.bipush 59, 2) := by decide +kernel
theorem zX12_55 : decode (byI 12) 55 = .ok (.newarray .int, 2) := by decide +kernel
theorem zX12_57 : decode (byI 12) 57 = .ok (.putfield 33, 3) := by decide +kernel
theorem zX12_60 : decode (byI 12) 60 = .ok (.aload_n 0, 1) := by decide +kernel
theorem zX12_61 : decode (byI 12) 61 = .ok (.sipush 1024, 3) := by decide +kernel
theorem zX12_64 : decode (byI 12) 64 = .ok (.newarray .int, 2) := by decide +kernel
theorem zX12_66 : decode (byI 12) 66 = .ok (.putfield 36, 3) := by decide +kernel
theorem zX12_69 : decode (byI 12) 69 = .ok (.aload_n 0, 1) := by decide +kernel
theorem zX12_70 : decode (byI 12) 70 = .ok (.sipush 1024, 3) := by decide +kernel
theorem zX12_73 : decode (byI 12) 73 = .ok (.newarray .int, 2) := by decide +kernel
theorem zX12_75 : decode (byI 12) 75 = .ok (.putfield 39, 3) := by decide +kernel
theorem zX12_78 : decode (byI 12) 78 = .ok (.aload_n 0, 1) := by decide +kernel
theorem zX12_79 : decode (byI 12) 79 = .ok (.sipush 1024, 3) := by decide +kernel
theorem zX12_82 : decode (byI 12) 82 = .ok (.newarray .int, 2) := by decide +kernel
theorem zX12_84 : decode (byI 12) 84 = .ok (.putfield 42, 3) := by decide +kernel
theorem zX12_87 : decode (byI 12) 87 = .ok (.aload_n 0, 1) := by decide +kernel
theorem zX12_88 : decode (byI 12) 88 = .ok (.sipush 1024, 3) := by decide +kernel
theorem zX12_91 : decode (byI 12) 91 = .ok (.newarray .int, 2) := by decide +kernel
theorem zX12_93 : decode (byI 12) 93 = .ok (.putfield 45, 3) := by decide +kernel
theorem zX12_96 : decode (byI 12) 96 = .ok (.aload_n 0, 1) := by decide +kernel
theorem zX12_97 : decode (byI 12) 97 = .ok (.ldc 48, 2) := by decide +kernel
theorem zX12_99 : decode (byI 12) 99 = .ok (.newarray .int, 2) := by decide +kernel
theorem zX12_101 : decode (byI 12) 101 = .ok (.putfield 49, 3) := by decide +kernel
theorem zX12_104 : decode (byI 12) 104 = .ok (.aload_n 0, 1) := by decide +kernel
theorem zX12_105 : decode (byI 12) 105 = .ok (.bipush 10, 2) := by decide +kernel
theorem zX12_107 : decode (byI 12) 107 = .ok (.newarray .int, 2) := by decide +kernel
theorem zX12_109 : decode (byI 12) 109 = .ok (.putfield 52, 3) := by decide +kernel
theorem zX12_112 : decode (byI 12) 112 = .ok (.aload_n 0, 1) := by decide +kernel
theorem zX12_113 : decode (byI 12) 113 = .ok (.bipush 100, 2) := by decide +kernel
theorem zX12_115 : decode (byI 12) 115 = .ok (.newarray .int, 2) := by decide +kernel
theorem zX12_117 : decode (byI 12) 117 = .ok (.putfield 55, 3) := by decide +kernel
theorem zX12_120 : decode (byI 12) 120 = .ok (.aload_n 0, 1) := by decide +kernel
theorem zX12_121 : decode (byI 12) 121 = .ok (.bipush 10, 2) := by decide +kernel
theorem zX12_123 : decode (byI 12) 123 = .ok (.newarray .int, 2) := by decide +kernel
theorem zX12_125 : decode (byI 12) 125 = .ok (.putfield 58, 3) := by decide +kernel
theorem zX12_128 : decode (byI 12) 128 = .ok (.aload_n 0, 1) := by decide +kernel
theorem zX12_129 : decode (byI 12) 129 = .ok (.sipush 1024, 3) := by decide +kernel
theorem zX12_132 : decode (byI 12) 132 = .ok (.newarray .int, 2) := by decide +kernel
theorem zX12_134 : decode (byI 12) 134 = .ok (.putfield 61, 3) := by decide +kernel
theorem zX12_137 : decode (byI 12) 137 = .ok (.aload_n 0, 1) := by decide +kernel
theorem zX12_138 : decode (byI 12) 138 = .ok (.sipush 1024, 3) := by decide +kernel
theorem zX12_141 : decode (byI 12) 141 = .ok (.newarray .int, 2) := by decide +kernel
theorem zX12_143 : decode (byI 12) 143 = .ok (.putfield 64, 3) := by decide +kernel
theorem zX12_146 : decode (byI 12) 146 = .ok (.aload_n 0, 1) := by decide +kernel
theorem zX12_147 : decode (byI 12) 147 = .ok (.bipush 10, 2) := by decide +kernel
theorem zX12_149 : decode (byI 12) 149 = .ok (.newarray .int, 2) := by decide +kernel
theorem zX12_151 : decode (byI 12) 151 = .ok (.putfield 67, 3) := by decide +kernel
theorem zX12_154 : decode (byI 12) 154 = .ok (.aload_n 0, 1) := by decide +kernel
theorem zX12_155 : decode (byI 12) 155 = .ok (.bipush 30, 2) := by decide +kernel
theorem zX12_157 : decode (byI 12) 157 = .ok (.newarray .int, 2) := by decide +kernel
theorem zX12_159 : decode (byI 12) 159 = .ok (.putfield 70, 3) := by decide +kernel
theorem zX12_162 : decode (byI 12) 162 = .ok (.aload_n 0, 1) := by decide +kernel
theorem zX12_163 : decode (byI 12) 163 = .ok (.bipush 30, 2) := by decide +kernel
theorem zX12_165 : decode (byI 12) 165 = .ok (.newarray .int, 2) := by decide +kernel
theorem zX12_167 : decode (byI 12) 167 = .ok (.putfield 73, 3) := by decide +kernel
theorem zX12_170 : decode (byI 12) 170 = .ok (.aload_n 0, 1) := by decide +kernel
theorem zX12_171 : decode (byI 12) 171 = .ok (.sipush 2400, 3) := by decide +kernel
theorem zX12_174 : decode (byI 12) 174 = .ok (.newarray .int, 2) := by decide +kernel
theorem zX12_176 : decode (byI 12) 176 = .ok (.putfield 76, 3) := by decide +kernel
theorem zX12_179 : decode (byI 12) 179 = .ok (.aload_n 0, 1) := by decide +kernel
theorem zX12_180 : decode (byI 12) 180 = .ok (.iconst 4, 1) := by decide +kernel
theorem zX12_181 : decode (byI 12) 181 = .ok (.newarray .int, 2) := by decide +kernel
theorem zX12_183 : decode (byI 12) 183 = .ok (.dup, 1) := by decide +kernel
theorem zX12_184 : decode (byI 12) 184 = .ok (.iconst 0, 1) := by decide +kernel
theorem zX12_185 : decode (byI 12) 185 = .ok (.iconst (-1), 1) := by decide +kernel
theorem zX12_186 : decode (byI 12) 186 = .ok (.iastore, 1) := by decide +kernel
theorem zX12_187 : decode (byI 12) 187 = .ok (.dup, 1) := by decide +kernel
theorem zX12_188 : decode (byI 12) 188 = .ok (.iconst 1, 1) := by decide +kernel
theorem zX12_189 : decode (byI 12) 189 = .ok (.iconst (-1), 1) := by decide +kernel
theorem zX12_190 : decode (byI 12) 190 = .ok (.iastore, 1) := by decide +kernel
theorem zX12_191 : decode (byI 12) 191 = .ok (.dup, 1) := by decide +kernel
theorem zX12_192 : decode (byI 12) 192 = .ok (.iconst 2, 1) := by decide +kernel
theorem zX12_193 : decode (byI 12) 193 = .ok (.iconst (-1), 1) := by decide +kernel
theorem zX12_194 : decode (byI 12) 194 = .ok (.iastore, 1) := by decide +kernel
theorem zX12_195 : decode (byI 12) 195 = .ok (.dup, 1) := by decide +kernel
theorem zX12_196 : decode (byI 12) 196 = .ok (.iconst 3, 1) := by decide +kernel
theorem zX12_197 : decode (byI 12) 197 = .ok (.iconst (-1), 1) := by decide +kernel
theorem zX12_198 : decode (byI 12) 198 = .ok (.iastore, 1) := by decide +kernel
theorem zX12_199 : decode (byI 12) 199 = .ok (.putfield 79, 3) := by decide +kernel
theorem zX12_202 : decode (byI 12) 202 = .ok (.aload_n 0, 1) := by decide +kernel
theorem zX12_203 : decode (byI 12) 203 = .ok (.iconst 4, 1) := by decide +kernel
theorem zX12_204 : decode (byI 12) 204 = .ok (.newarray .int, 2) := by decide +kernel
theorem zX12_206 : decode (byI 12) 206 = .ok (.putfield 82, 3) := by decide +kernel
theorem zX12_209 : decode (byI 12) 209 = .ok (.aload_n 0, 1) := by decide +kernel
theorem zX12_210 : decode (byI 12) 210 = .ok (.sipush 160, 3) := by decide +kernel
theorem zX12_213 : decode (byI 12) 213 = .ok (.newarray .long, 2) := by decide +kernel
theorem zX12_215 : decode (byI 12) 215 = .ok (.putfield 85, 3) := by decide +kernel
theorem zX12_218 : decode (byI 12) 218 = .ok (.return_, 1) := by decide +kernel
