theorem dX11_init_0 : decode cX11_init 0 = .ok (.aload_n 0, 1) := by decide +kernel
theorem dX11_init_1 : decode cX11_init 1 = .ok (.invokespecial 1, 3) := by decide +kernel
theorem dX11_init_4 : decode cX11_init 4 = .ok (.aload_n 0, 1) := by decide +kernel
theorem dX11_init_5 : decode cX11_init 5 = .ok (.new 7, 3) := by decide +kernel
theorem dX11_init_8 : decode cX11_init 8 = .ok (.dup, 1) := by decide +kernel
theorem dX11_init_9 : decode cX11_init 9 = .ok (.invokespecial 9, 3) := by decide +kernel
theorem dX11_init_12 : decode cX11_init 12 = .ok (.putfield 10, 3) := by decide +kernel
theorem dX11_init_15 : decode cX11_init 15 = .ok (.aload_n 0, 1) := by decide +kernel
theorem dX11_init_16 : decode cX11_init 16 = .ok (.new 16, 3) := by decide +kernel
theorem dX11_init_19 : decode cX11_init 19 = .ok (.dup, 1) := by decide +kernel
theorem dX11_init_20 : decode cX11_init 20 = .ok (.invokespecial 18, 3) := by decide +kernel
theorem dX11_init_23 : decode cX11_init 23 = .ok (.putfield 19, 3) := by decide +kernel
theorem dX11_init_26 : decode cX11_init 26 = .ok (.aload_n 0, 1) := by decide +kernel
theorem dX11_init_27 : decode cX11_init 27 = .ok (.new 23, 3) := by decide +kernel
theorem dX11_init_30 : decode cX11_init 30 = .ok (.dup, 1) := by decide +kernel
theorem dX11_init_31 : decode cX11_init 31 = .ok (.invokespecial 25, 3) := by decide +kernel
theorem dX11_init_34 : decode cX11_init 34 = .ok (.putfield 26, 3) := by decide +kernel
theorem dX11_init_37 : decode cX11_init 37 = .ok (.aload_n 0, 1) := by decide +kernel
theorem dX11_init_38 : decode cX11_init 38 = .ok (.new 30, 3) := by decide +kernel
theorem dX11_init_41 : decode cX11_init 41 = .ok (.dup, 1) := by decide +kernel
theorem dX11_init_42 : decode cX11_init 42 = .ok (.aload_n 0, 1) := by decide +kernel
theorem dX11_init_43 : decode cX11_init 43 = .ok (.getfield 10, 3) := by decide +kernel
theorem dX11_init_46 : decode cX11_init 46 = .ok (.aload_n 0, 1) := by decide +kernel
theorem dX11_init_47 : decode cX11_init 47 = .ok (.getfield 19, 3) := by decide +kernel
theorem dX11_init_50 : decode cX11_init 50 = .ok (.invokespecial 32, 3) := by decide +kernel
theorem dX11_init_53 : decode cX11_init 53 = .ok (.putfield 35, 3) := by decide +kernel
theorem dX11_init_56 : decode cX11_init 56 = .ok (.aload_n 0, 1) := by decide +kernel
theorem dX11_init_57 : decode cX11_init 57 = .ok (.new 39, 3) := by decide +kernel
theorem dX11_init_60 : decode cX11_init 60 = .ok (.dup, 1) := by decide +kernel
theorem dX11_init_61 : decode cX11_init 61 = .ok (.aload_n 0, 1) := by decide +kernel
theorem dX11_init_62 : decode cX11_init 62 = .ok (.getfield 10, 3) := by decide +kernel
theorem dX11_init_65 : decode cX11_init 65 = .ok (.aload_n 0, 1) := by decide +kernel
theorem dX11_init_66 : decode cX11_init 66 = .ok (.getfield 35, 3) := by decide +kernel
theorem dX11_init_69 : decode cX11_init 69 = .ok (.invokespecial 41, 3) := by decide +kernel
theorem dX11_init_72 : decode cX11_init 72 = .ok (.putfield 44, 3) := by decide +kernel
theorem dX11_init_75 : decode cX11_init 75 = .ok (.aload_n 0, 1) := by decide +kernel
theorem dX11_init_76 : decode cX11_init 76 = .ok (.new 48, 3) := by decide +kernel
theorem dX11_init_79 : decode cX11_init 79 = .ok (.dup, 1) := by decide +kernel
theorem dX11_init_80 : decode cX11_init 80 = .ok (.aload_n 0, 1) := by decide +kernel
theorem dX11_init_81 : decode cX11_init 81 = .ok (.getfield 10, 3) := by decide +kernel
theorem dX11_init_84 : decode cX11_init 84 = .ok (.aload_n 0, 1) := by decide +kernel
theorem dX11_init_85 : decode cX11_init 85 = .ok (.getfield 35, 3) := by decide +kernel
theorem dX11_init_88 : decode cX11_init 88 = .ok (.invokespecial 50, 3) := by decide +kernel
theorem dX11_init_91 : decode cX11_init 91 = .ok (.putfield 51, 3) := by decide +kernel
theorem dX11_init_94 : decode cX11_init 94 = .ok (.aload_n 0, 1) := by decide +kernel
theorem dX11_init_95 : decode cX11_init 95 = .ok (.new 55, 3) := by decide +kernel
theorem dX11_init_98 : decode cX11_init 98 = .ok (.dup, 1) := by decide +kernel
theorem dX11_init_99 : decode cX11_init 99 = .ok (.aload_n 0, 1) := by decide +kernel
theorem dX11_init_100 : decode cX11_init 100 = .ok (.getfield 10, 3) := by decide +kernel
theorem dX11_init_103 : decode cX11_init 103 = .ok (.invokespecial 57, 3) := by decide +kernel
theorem dX11_init_106 : decode cX11_init 106 = .ok (.putfield 60, 3) := by decide +kernel
theorem dX11_init_109 : decode cX11_init 109 = .ok (.aload_n 0, 1) := by decide +kernel
theorem dX11_init_110 : decode cX11_init 110 = .ok (.new 64, 3) := by decide +kernel
theorem dX11_init_113 : decode cX11_init 113 = .ok (.dup, 1) := by decide +kernel
theorem dX11_init_114 : decode cX11_init 114 = .ok (.invokespecial 66, 3) := by decide +kernel
theorem dX11_init_117 : decode cX11_init 117 = .ok (.putfield 67, 3) := by decide +kernel
theorem dX11_init_120 : decode cX11_init 120 = .ok (.aload_n 0, 1) := by decide +kernel
theorem dX11_init_121 : decode cX11_init 121 = .ok (.new 64, 3) := by decide +kernel
theorem dX11_init_124 : decode cX11_init 124 = .ok (.dup, 1) := by decide +kernel
theorem dX11_init_125 : decode cX11_init 125 = .ok (.invokespecial 66, 3) := by decide +kernel
theorem dX11_init_128 : decode cX11_init 128 = .ok (.putfield 71, 3) := by decide +kernel
theorem dX11_init_131 : decode cX11_init 131 = .ok (.aload_n 0, 1) := by decide +kernel
theorem dX11_init_132 : decode cX11_init 132 = .ok (.bipush 8, 2) := by decide +kernel
theorem dX11_init_134 : decode cX11_init 134 = .ok (.newarray .int, 2) := by decide +kernel
theorem dX11_init_136 : decode cX11_init 136 = .ok (.putfield 74, 3) := by decide +kernel
theorem dX11_init_139 : decode cX11_init 139 = .ok (.aload_n 0, 1) := by decide +kernel
theorem dX11_init_140 : decode cX11_init 140 = .ok (.iconst (-1), 1) := by decide +kernel
theorem dX11_init_141 : decode cX11_init 141 = .ok (.putfield 78, 3) := by decide +kernel
theorem dX11_init_144 : decode cX11_init 144 = .ok (.aload_n 0, 1) := by decide +kernel
theorem dX11_init_145 : decode cX11_init 145 = .ok (.new 82, 3) := by decide +kernel
theorem dX11_init_148 : decode cX11_init 148 = .ok (.dup, 1) := by decide +kernel
theorem dX11_init_149 : decode cX11_init 149 = .ok (.invokespecial 84, 3) := by decide +kernel
theorem dX11_init_152 : decode cX11_init 152 = .ok (.putfield 85, 3) := by decide +kernel
theorem dX11_init_155 : decode cX11_init 155 = .ok (.aload_n 0, 1) := by decide +kernel
theorem dX11_init_156 : decode cX11_init 156 = .ok (.new 89, 3) := by decide +kernel
theorem dX11_init_159 : decode cX11_init 159 = .ok (.dup, 1) := by decide +kernel
theorem dX11_init_160 : decode cX11_init 160 = .ok (.invokespecial 91, 3) := by decide +kernel
theorem dX11_init_163 : decode cX11_init 163 = .ok (.putfield 92, 3) := by decide +kernel
theorem dX11_init_166 : decode cX11_init 166 = .ok (.aload_n 0, 1) := by decide +kernel
theorem dX11_init_167 : decode cX11_init 167 = .ok (.bipush 6, 2) := by decide +kernel
theorem dX11_init_169 : decode cX11_init 169 = .ok (.anewarray 96, 3) := by decide +kernel
theorem dX11_init_172 : decode cX11_init 172 = .ok (.putfield 98, 3) := by decide +kernel
theorem dX11_init_175 : decode cX11_init 175 = .ok (.iconst 0, 1) := by decide +kernel
theorem dX11_init_176 : decode cX11_init 176 = .ok (.istore_n 1, 1) := by decide +kernel
theorem dX11_init_177 : decode cX11_init 177 = .ok (.iload_n 1, 1) := by decide +kernel
theorem dX11_init_178 : decode cX11_init 178 = .ok (.bipush 6, 2) := by decide +kernel
theorem dX11_init_180 : decode cX11_init 180 = .ok (.if_icmp .ge 22, 3) := by decide +kernel
theorem dX11_init_183 : decode cX11_init 183 = .ok (.aload_n 0, 1) := by decide +kernel
theorem dX11_init_184 : decode cX11_init 184 = .ok (.getfield 98, 3) := by decide +kernel
theorem dX11_init_187 : decode cX11_init 187 = .ok (.iload_n 1, 1) := by decide +kernel
theorem dX11_init_188 : decode cX11_init 188 = .ok (.new 96, 3) := by decide +kernel
theorem dX11_init_191 : decode cX11_init 191 = .ok (.dup, 1) := by decide +kernel
theorem dX11_init_192 : decode cX11_init 192 = .ok (.invokespecial 102, 3) := by decide +kernel
theorem dX11_init_195 : decode cX11_init 195 = .ok (.aastore, 1) := by decide +kernel
theorem dX11_init_196 : decode cX11_init 196 = .ok (.iinc 1 1, 3) := by decide +kernel
theorem dX11_init_199 : decode cX11_init 199 = .ok (.goto (-22), 3) := by decide +kernel
theorem dX11_init_202 : decode cX11_init 202 = .ok (.return_, 1) := by decide +kernel
theorem dX12_init_0 : decode cX12_init 0 = .ok (.aload_n 0, 1) := by decide +kernel
theorem dX12_init_1 : decode cX12_init 1 = .ok (.invokespecial 1, 3) := by decide +kernel
theorem dX12_init_4 : decode cX12_init 4 = .ok (.aload_n 0, 1) := by decide +kernel
theorem dX12_init_5 : decode cX12_init 5 = .ok (.bipush 8, 2) := by decide +kernel
theorem dX12_init_7 : decode cX12_init 7 = .ok (.newarray .int, 2) := by decide +kernel
theorem dX12_init_9 : decode cX12_init 9 = .ok (.putfield 7, 3) := by decide +kernel
theorem dX12_init_12 : decode cX12_init 12 = .ok (.aload_n 0, 1) := by decide +kernel
theorem dX12_init_13 : decode cX12_init 13 = .ok (.bipush 8, 2) := by decide +kernel
theorem dX12_init_15 : decode cX12_init 15 = .ok (.newarray .int, 2) := by decide +kernel
theorem dX12_init_17 : decode cX12_init 17 = .ok (.putfield 13, 3) := by decide +kernel
theorem dX12_init_20 : decode cX12_init 20 = .ok (.aload_n 0, 1) := by decide +kernel
theorem dX12_init_21 : decode cX12_init 21 = .ok (.bipush 8, 2) := by decide +kernel
theorem dX12_init_23 : decode cX12_init 23 = .ok (.newarray .int, 2) := by decide +kernel
theorem dX12_init_25 : decode cX12_init 25 = .ok (.putfield 16, 3) := by decide +kernel
theorem dX12_init_28 : decode cX12_init 28 = .ok (.aload_n 0, 1) := by decide +kernel
theorem dX12_init_29 : decode cX12_init 29 = .ok (.bipush 8, 2) := by decide +kernel
theorem dX12_init_31 : decode cX12_init 31 = .ok (.newarray .int, 2) := by decide +kernel
theorem dX12_init_33 : decode cX12_init 33 = .ok (.putfield 19, 3) := by decide +kernel
theorem dX12_init_36 : decode cX12_init 36 = .ok (.aload_n 0, 1) := by decide +kernel
theorem dX12_init_37 : decode cX12_init 37 = .ok (.bipush 8, 2) := by decide +kernel
theorem dX12_init_39 : decode cX12_init 39 = .ok (.newarray .int, 2) := by decide +kernel
theorem dX12_init_41 : decode cX12_init 41 = .ok (.putfield 22, 3) := by decide +kernel
theorem dX12_init_44 : decode cX12_init 44 = .ok (.aload_n 0, 1) := by decide +kernel
theorem dX12_init_45 : decode cX12_init 45 = .ok (.bipush 8, 2) := by decide +kernel
theorem dX12_init_47 : decode cX12_init 47 = .ok (.newarray .int, 2) := by decide +kernel
theorem dX12_init_49 : decode cX12_init 49 = .ok (.putfield 25, 3) := by decide +kernel
theorem dX12_init_52 : decode cX12_init 52 = .ok (.aload_n 0, 1) := by decide +kernel
theorem dX12_init_53 : decode cX12_init 53 = .ok (.bipush 11, 2) := by decide +kernel
theorem dX12_init_55 : decode cX12_init 55 = .ok (.newarray .int, 2) := by decide +kernel
theorem dX12_init_57 : decode cX12_init 57 = .ok (.putfield 28, 3) := by decide +kernel
theorem dX12_init_60 : decode cX12_init 60 = .ok (.aload_n 0, 1) := by decide +kernel
theorem dX12_init_61 : decode cX12_init 61 = .ok (.bipush 11, 2) := by decide +kernel
theorem dX12_init_63 : decode cX12_init 63 = .ok (.newarray .int, 2) := by decide +kernel
theorem dX12_init_65 : decode cX12_init 65 = .ok (.putfield 31, 3) := by decide +kernel
theorem dX12_init_68 : decode cX12_init 68 = .ok (.aload_n 0, 1) := by decide +kernel
theorem dX12_init_69 : decode cX12_init 69 = .ok (.bipush 11, 2) := by decide +kernel
theorem dX12_init_71 : decode cX12_init 71 = .ok (.newarray .int, 2) := by decide +kernel
theorem dX12_init_73 : decode cX12_init 73 = .ok (.putfield 34, 3) := by decide +kernel
theorem dX12_init_76 : decode cX12_init 76 = .ok (.aload_n 0, 1) := by decide +kernel
theorem dX12_init_77 : decode cX12_init 77 = .ok (.bipush 11, 2) := by decide +kernel
theorem dX12_init_79 : decode cX12_init 79 = .ok (.newarray .int, 2) := by decide +kernel
theorem dX12_init_81 : decode cX12_init 81 = .ok (.putfield 37, 3) := by decide +kernel
theorem dX12_init_84 : decode cX12_init 84 = .ok (.aload_n 0, 1) := by decide +kernel
theorem dX12_init_85 : decode cX12_init 85 = .ok (.bipush 13, 2) := by decide +kernel
theorem dX12_init_87 : decode cX12_init 87 = .ok (.newarray .int, 2) := by decide +kernel
theorem dX12_init_89 : decode cX12_init 89 = .ok (.putfield 40, 3) := by decide +kernel
theorem dX12_init_92 : decode cX12_init 92 = .ok (.aload_n 0, 1) := by decide +kernel
theorem dX12_init_93 : decode cX12_init 93 = .ok (.bipush 13, 2) := by decide +kernel
theorem dX12_init_95 : decode cX12_init 95 = .ok (.newarray .int, 2) := by decide +kernel
theorem dX12_init_97 : decode cX12_init 97 = .ok (.putfield 43, 3) := by decide +kernel
theorem dX12_init_100 : decode cX12_init 100 = .ok (.aload_n 0, 1) := by decide +kernel
theorem dX12_init_101 : decode cX12_init 101 = .ok (.bipush 13, 2) := by decide +kernel
theorem dX12_init_103 : decode cX12_init 103 = .ok (.newarray .int, 2) := by decide +kernel
theorem dX12_init_105 : decode cX12_init 105 = .ok (.putfield 46, 3) := by decide +kernel
theorem dX12_init_108 : decode cX12_init 108 = .ok (.aload_n 0, 1) := by decide +kernel
theorem dX12_init_109 : decode cX12_init 109 = .ok (.bipush 13, 2) := by decide +kernel
theorem dX12_init_111 : decode cX12_init 111 = .ok (.newarray .int, 2) := by decide +kernel
theorem dX12_init_113 : decode cX12_init 113 = .ok (.putfield 49, 3) := by decide +kernel
theorem dX12_init_116 : decode cX12_init 116 = .ok (.aload_n 0, 1) := by decide +kernel
theorem dX12_init_117 : decode cX12_init 117 = .ok (.bipush 40, 2) := by decide +kernel
theorem dX12_init_119 : decode cX12_init 119 = .ok (.newarray .int, 2) := by decide +kernel
theorem dX12_init_121 : decode cX12_init 121 = .ok (.putfield 52, 3) := by decide +kernel
theorem dX12_init_124 : decode cX12_init 124 = .ok (.aload_n 0, 1) := by decide +kernel
theorem dX12_init_125 : decode cX12_init 125 = .ok (.bipush 40, 2) := by decide +kernel
theorem dX12_init_127 : decode cX12_init 127 = .ok (.newarray .int, 2) := by decide +kernel
theorem dX12_init_129 : decode cX12_init 129 = .ok (.putfield 55, 3) := by decide +kernel
theorem dX12_init_132 : decode cX12_init 132 = .ok (.aload_n 0, 1) := by decide +kernel
theorem dX12_init_133 : decode cX12_init 133 = .ok (.bipush 40, 2) := by decide +kernel
theorem dX12_init_135 : decode cX12_init 135 = .ok (.newarray .int, 2) := by decide +kernel
theorem dX12_init_137 : decode cX12_init 137 = .ok (.putfield 58, 3) := by decide +kernel
theorem dX12_init_140 : decode cX12_init 140 = .ok (.aload_n 0, 1) := by decide +kernel
theorem dX12_init_141 : decode cX12_init 141 = .ok (.bipush 40, 2) := by decide +kernel
theorem dX12_init_143 : decode cX12_init 143 = .ok (.newarray .int, 2) := by decide +kernel
theorem dX12_init_145 : decode cX12_init 145 = .ok (.putfield 61, 3) := by decide +kernel
theorem dX12_init_148 : decode cX12_init 148 = .ok (.aload_n 0, 1) := by decide +kernel
theorem dX12_init_149 : decode cX12_init 149 = .ok (.bipush 120, 2) := by decide +kernel
theorem dX12_init_151 : decode cX12_init 151 = .ok (.newarray .byte, 2) := by decide +kernel
theorem dX12_init_153 : decode cX12_init 153 = .ok (.putfield 64, 3) := by decide +kernel
theorem dX12_init_156 : decode cX12_init 156 = .ok (.aload_n 0, 1) := by decide +kernel
theorem dX12_init_157 : decode cX12_init 157 = .ok (.sipush 260, 3) := by decide +kernel
theorem dX12_init_160 : decode cX12_init 160 = .ok (.newarray .byte, 2) := by decide +kernel
theorem dX12_init_162 : decode cX12_init 162 = .ok (.putfield 68, 3) := by decide +kernel
theorem dX12_init_165 : decode cX12_init 165 = .ok (.aload_n 0, 1) := by decide +kernel
theorem dX12_init_166 : decode cX12_init 166 = .ok (.sipush 260, 3) := by decide +kernel
theorem dX12_init_169 : decode cX12_init 169 = .ok (.newarray .int, 2) := by decide +kernel
theorem dX12_init_171 : decode cX12_init 171 = .ok (.putfield 71, 3) := by decide +kernel
theorem dX12_init_174 : decode cX12_init 174 = .ok (.aload_n 0, 1) := by decide +kernel
theorem dX12_init_175 : decode cX12_init 175 = .ok (.iconst 2, 1) := by decide +kernel
theorem dX12_init_176 : decode cX12_init 176 = .ok (.newarray .int, 2) := by decide +kernel
theorem dX12_init_178 : decode cX12_init 178 = .ok (.putfield 74, 3) := by decide +kernel
theorem dX12_init_181 : decode cX12_init 181 = .ok (.aload_n 0, 1) := by decide +kernel
theorem dX12_init_182 : decode cX12_init 182 = .ok (.bipush 122, 2) := by decide +kernel
theorem dX12_init_184 : decode cX12_init 184 = .ok (.newarray .short, 2) := by decide +kernel
theorem dX12_init_186 : decode cX12_init 186 = .ok (.putfield 77, 3) := by decide +kernel
theorem dX12_init_189 : decode cX12_init 189 = .ok (.aload_n 0, 1) := by decide +kernel
theorem dX12_init_190 : decode cX12_init 190 = .ok (.bipush 122, 2) := by decide +kernel
theorem dX12_init_192 : decode cX12_init 192 = .ok (.newarray .short, 2) := by decide +kernel
theorem dX12_init_194 : decode cX12_init 194 = .ok (.putfield 81, 3) := by decide +kernel
theorem dX12_init_197 : decode cX12_init 197 = .ok (.aload_n 0, 1) := by decide +kernel
theorem dX12_init_198 : decode cX12_init 198 = .ok (.bipush 6, 2) := by decide +kernel
theorem dX12_init_200 : decode cX12_init 200 = .ok (.newarray .int, 2) := by decide +kernel
theorem dX12_init_202 : decode cX12_init 202 = .ok (.putfield 84, 3) := by decide +kernel
theorem dX12_init_205 : decode cX12_init 205 = .ok (.aload_n 0, 1) := by decide +kernel
theorem dX12_init_206 : decode cX12_init 206 = .ok (.sipush 130, 3) := by decide +kernel
theorem dX12_init_209 : decode cX12_init 209 = .ok (.newarray .int, 2) := by decide +kernel
theorem dX12_init_211 : decode cX12_init 211 = .ok (.putfield 87, 3) := by decide +kernel
theorem dX12_init_214 : decode cX12_init 214 = .ok (.aload_n 0, 1) := by decide +kernel
theorem dX12_init_215 : decode cX12_init 215 = .ok (.bipush 36, 2) := by decide +kernel
theorem dX12_init_217 : decode cX12_init 217 = .ok (.newarray .int, 2) := by decide +kernel
theorem dX12_init_219 : decode cX12_init 219 = .ok (.putfield 90, 3) := by decide +kernel
theorem dX12_init_222 : decode cX12_init 222 = .ok (.aload_n 0, 1) := by decide +kernel
theorem dX12_init_223 : decode cX12_init 223 = .ok (.bipush 8, 2) := by decide +kernel
theorem dX12_init_225 : decode cX12_init 225 = .ok (.newarray .int, 2) := by decide +kernel
theorem dX12_init_227 : decode cX12_init 227 = .ok (.putfield 93, 3) := by decide +kernel
theorem dX12_init_230 : decode cX12_init 230 = .ok (.aload_n 0, 1) := by decide +kernel
theorem dX12_init_231 : decode cX12_init 231 = .ok (.bipush 20, 2) := by decide +kernel
theorem dX12_init_233 : decode cX12_init 233 = .ok (.newarray .int, 2) := by decide +kernel
theorem dX12_init_235 : decode cX12_init 235 = .ok (.putfield 96, 3) := by decide +kernel
theorem dX12_init_238 : decode cX12_init 238 = .ok (.aload_n 0, 1) := by decide +kernel
theorem dX12_init_239 : decode cX12_init 239 = .ok (.bipush 11, 2) := by decide +kernel
theorem dX12_init_241 : decode cX12_init 241 = .ok (.newarray .boolean, 2) := by decide +kernel
theorem dX12_init_243 : decode cX12_init 243 = .ok (.putfield 99, 3) := by decide +kernel
theorem dX12_init_246 : decode cX12_init 246 = .ok (.aload_n 0, 1) := by decide +kernel
theorem dX12_init_247 : decode cX12_init 247 = .ok (.bipush 36, 2) := by decide +kernel
theorem dX12_init_249 : decode cX12_init 249 = .ok (.newarray .int, 2) := by decide +kernel
theorem dX12_init_251 : decode cX12_init 251 = .ok (.putfield 103, 3) := by decide +kernel
theorem dX12_init_254 : decode cX12_init 254 = .ok (.aload_n 0, 1) := by decide +kernel
theorem dX12_init_255 : decode cX12_init 255 = .ok (.iconst 4, 1) := by decide +kernel
theorem dX12_init_256 : decode cX12_init 256 = .ok (.newarray .int, 2) := by decide +kernel
theorem dX12_init_258 : decode cX12_init 258 = .ok (.putfield 106, 3) := by decide +kernel
theorem dX12_init_261 : decode cX12_init 261 = .ok (.aload_n 0, 1) := by decide +kernel
theorem dX12_init_262 : decode cX12_init 262 = .ok (.bipush 11, 2) := by decide +kernel
theorem dX12_init_264 : decode cX12_init 264 = .ok (.newarray .boolean, 2) := by decide +kernel
theorem dX12_init_266 : decode cX12_init 266 = .ok (.putfield 109, 3) := by decide +kernel
theorem dX12_init_269 : decode cX12_init 269 = .ok (.aload_n 0, 1) := by decide +kernel
theorem dX12_init_270 : decode cX12_init 270 = .ok (.bipush 36, 2) := by decide +kernel
theorem dX12_init_272 : decode cX12_init 272 = .ok (.newarray .int, 2) := by decide +kernel
theorem dX12_init_274 : decode cX12_init 274 = .ok (.putfield 112, 3) := by decide +kernel
theorem dX12_init_277 : decode cX12_init 277 = .ok (.aload_n 0, 1) := by decide +kernel
theorem dX12_init_278 : decode cX12_init 278 = .ok (.bipush 8, 2) := by decide +kernel
theorem dX12_init_280 : decode cX12_init 280 = .ok (.newarray .int, 2) := by decide +kernel
theorem dX12_init_282 : decode cX12_init 282 = .ok (.putfield 115, 3) := by decide +kernel
theorem dX12_init_285 : decode cX12_init 285 = .ok (.aload_n 0, 1) := by decide +kernel
theorem dX12_init_286 : decode cX12_init 286 = .ok (.iconst 4, 1) := by decide +kernel
theorem dX12_init_287 : decode cX12_init 287 = .ok (.newarray .int, 2) := by decide +kernel
theorem dX12_init_289 : decode cX12_init 289 = .ok (.putfield 118, 3) := by decide +kernel
theorem dX12_init_292 : decode cX12_init 292 = .ok (.aload_n 0, 1) := by decide +kernel
theorem dX12_init_293 : decode cX12_init 293 = .ok (.bipush 50, 2) := by decide +kernel
theorem dX12_init_295 : decode cX12_init 295 = .ok (.newarray .int, 2) := by decide +kernel
theorem dX12_init_297 : decode cX12_init 297 = .ok (.putfield 121, 3) := by decide +kernel
theorem dX12_init_300 : decode cX12_init 300 = .ok (.aload_n 0, 1) := by decide +kernel
theorem dX12_init_301 : decode cX12_init 301 = .ok (.bipush 24, 2) := by decide +kernel
theorem dX12_init_303 : decode cX12_init 303 = .ok (.newarray .int, 2) := by decide +kernel
theorem dX12_init_305 : decode cX12_init 305 = .ok (.putfield 124, 3) := by decide +kernel
theorem dX12_init_308 : decode cX12_init 308 = .ok (.aload_n 0, 1) := by decide +kernel
theorem dX12_init_309 : decode cX12_init 309 = .ok (.bipush 6, 2) := by decide +kernel
theorem dX12_init_311 : decode cX12_init 311 = .ok (.newarray .int, 2) := by decide +kernel
theorem dX12_init_313 : decode cX12_init 313 = .ok (.dup, 1) := by decide +kernel
theorem dX12_init_314 : decode cX12_init 314 = .ok (.iconst 0, 1) := by decide +kernel
theorem dX12_init_315 : decode cX12_init 315 = .ok (.iconst (-1), 1) := by decide +kernel
theorem dX12_init_316 : decode cX12_init 316 = .ok (.iastore, 1) := by decide +kernel
theorem dX12_init_317 : decode cX12_init 317 = .ok (.dup, 1) := by decide +kernel
theorem dX12_init_318 : decode cX12_init 318 = .ok (.iconst 1, 1) := by decide +kernel
theorem dX12_init_319 : decode cX12_init 319 = .ok (.iconst (-1), 1) := by decide +kernel
theorem dX12_init_320 : decode cX12_init 320 = .ok (.iastore, 1) := by decide +kernel
theorem dX12_init_321 : decode cX12_init 321 = .ok (.dup, 1) := by decide +kernel
theorem dX12_init_322 : decode cX12_init 322 = .ok (.iconst 2, 1) := by decide +kernel
theorem dX12_init_323 : decode cX12_init 323 = .ok (.iconst (-1), 1) := by decide +kernel
theorem dX12_init_324 : decode cX12_init 324 = .ok (.iastore, 1) := by decide +kernel
theorem dX12_init_325 : decode cX12_init 325 = .ok (.dup, 1) := by decide +kernel
theorem dX12_init_326 : decode cX12_init 326 = .ok (.iconst 3, 1) := by decide +kernel
theorem dX12_init_327 : decode cX12_init 327 = .ok (.iconst (-1), 1) := by decide +kernel
theorem dX12_init_328 : decode cX12_init 328 = .ok (.iastore, 1) := by decide +kernel
theorem dX12_init_329 : decode cX12_init 329 = .ok (.dup, 1) := by decide +kernel
theorem dX12_init_330 : decode cX12_init 330 = .ok (.iconst 4, 1) := by decide +kernel
theorem dX12_init_331 : decode cX12_init 331 = .ok (.iconst (-1), 1) := by decide +kernel
theorem dX12_init_332 : decode cX12_init 332 = .ok (.iastore, 1) := by decide +kernel
theorem dX12_init_333 : decode cX12_init 333 = .ok (.dup, 1) := by decide +kernel
theorem dX12_init_334 : decode cX12_init 334 = .ok (.iconst 5, 1) := by decide +kernel
theorem dX12_init_335 : decode cX12_init 335 = .ok (.iconst (-1), 1) := by decide +kernel
theorem dX12_init_336 : decode cX12_init 336 = .ok (.iastore, 1) := by decide +kernel
theorem dX12_init_337 : decode cX12_init 337 = .ok (.putfield 127, 3) := by decide +kernel
theorem dX12_init_340 : decode cX12_init 340 = .ok (.aload_n 0, 1) := by decide +kernel
theorem dX12_init_341 : decode cX12_init 341 = .ok (.bipush 6, 2) := by decide +kernel
theorem dX12_init_343 : decode cX12_init 343 = .ok (.newarray .int, 2) := by decide +kernel
theorem dX12_init_345 : decode cX12_init 345 = .ok (.putfield 130, 3) := by decide +kernel
theorem dX12_init_348 : decode cX12_init 348 = .ok (.aload_n 0, 1) := by decide +kernel
theorem dX12_init_349 : decode cX12_init 349 = .ok (.sipush 360, 3) := by decide +kernel
theorem dX12_init_352 : decode cX12_init 352 = .ok (.newarray .long, 2) := by decide +kernel
theorem dX12_init_354 : decode cX12_init 354 = .ok (.putfield 133, 3) := by decide +kernel
theorem dX12_init_357 : decode cX12_init 357 = .ok (.aload_n 0, 1) := by decide +kernel
theorem dX12_init_358 : decode cX12_init 358 = .ok (.bipush 60, 2) := by decide +kernel
theorem dX12_init_360 : decode cX12_init 360 = .ok (.newarray .long, 2) := by decide +kernel
theorem dX12_init_362 : decode cX12_init 362 = .ok (.putfield 137, 3) := by decide +kernel
theorem dX12_init_365 : decode cX12_init 365 = .ok (.return_, 1) := by decide +kernel
theorem dX0_init_0 : decode cX0_init 0 = .ok (.aload_n 0, 1) := by decide +kernel
theorem dX0_init_1 : decode cX0_init 1 = .ok (.invokespecial 1, 3) := by decide +kernel
theorem dX0_init_4 : decode cX0_init 4 = .ok (.aload_n 0, 1) := by decide +kernel
theorem dX0_init_5 : decode cX0_init 5 = .ok (.bipush 50, 2) := by decide +kernel
theorem dX0_init_7 : decode cX0_init 7 = .ok (.newarray .int, 2) := by decide +kernel
theorem dX0_init_9 : decode cX0_init 9 = .ok (.putfield 9, 3) := by decide +kernel
theorem dX0_init_12 : decode cX0_init 12 = .ok (.aload_n 0, 1) := by decide +kernel
theorem dX0_init_13 : decode cX0_init 13 = .ok (.bipush 24, 2) := by decide +kernel
theorem dX0_init_15 : decode cX0_init 15 = .ok (.newarray .int, 2) := by decide +kernel
theorem dX0_init_17 : decode cX0_init 17 = .ok (.putfield 13, 3) := by decide +kernel
theorem dX0_init_20 : decode cX0_init 20 = .ok (.return_, 1) := by decide +kernel
theorem dX1_init_0 : decode cX1_init 0 = .ok (.aload_n 0, 1) := by decide +kernel
theorem dX1_init_1 : decode cX1_init 1 = .ok (.invokespecial 1, 3) := by decide +kernel
theorem dX1_init_4 : decode cX1_init 4 = .ok (.aload_n 0, 1) := by decide +kernel
theorem dX1_init_5 : decode cX1_init 5 = .ok (.bipush 40, 2) := by decide +kernel
theorem dX1_init_7 : decode cX1_init 7 = .ok (.newarray .int, 2) := by decide +kernel
theorem dX1_init_9 : decode cX1_init 9 = .ok (.putfield 9, 3) := by decide +kernel
theorem dX1_init_12 : decode cX1_init 12 = .ok (.aload_n 0, 1) := by decide +kernel
theorem dX1_init_13 : decode cX1_init 13 = .ok (.bipush 40, 2) := by decide +kernel
theorem dX1_init_15 : decode cX1_init 15 = .ok (.newarray .int, 2) := by decide +kernel
theorem dX1_init_17 : decode cX1_init 17 = .ok (.putfield 13, 3) := by decide +kernel
theorem dX1_init_20 : decode cX1_init 20 = .ok (.aload_n 0, 1) := by decide +kernel
theorem dX1_init_21 : decode cX1_init 21 = .ok (.bipush 40, 2) := by decide +kernel
theorem dX1_init_23 : decode cX1_init 23 = .ok (.newarray .int, 2) := by decide +kernel
theorem dX1_init_25 : decode cX1_init 25 = .ok (.putfield 16, 3) := by decide +kernel
theorem dX1_init_28 : decode cX1_init 28 = .ok (.aload_n 0, 1) := by decide +kernel
theorem dX1_init_29 : decode cX1_init 29 = .ok (.bipush 40, 2) := by decide +kernel
theorem dX1_init_31 : decode cX1_init 31 = .ok (.newarray .int, 2) := by decide +kernel
theorem dX1_init_33 : decode cX1_init 33 = .ok (.putfield 19, 3) := by decide +kernel
theorem dX1_init_36 : decode cX1_init 36 = .ok (.return_, 1) := by decide +kernel
theorem dX2_init_0 : decode cX2_init 0 = .ok (.aload_n 0, 1) := by decide +kernel
theorem dX2_init_1 : decode cX2_init 1 = .ok (.invokespecial 3, 3) := by decide +kernel
theorem dX2_init_4 : decode cX2_init 4 = .ok (.aload_n 0, 1) := by decide +kernel
theorem dX2_init_5 : decode cX2_init 5 = .ok (.bipush 36, 2) := by decide +kernel
theorem dX2_init_7 : decode cX2_init 7 = .ok (.newarray .int, 2) := by decide +kernel
theorem dX2_init_9 : decode cX2_init 9 = .ok (.putfield 9, 3) := by decide +kernel
theorem dX2_init_12 : decode cX2_init 12 = .ok (.return_, 1) := by decide +kernel
theorem dX3_init_0 : decode cX3_init 0 = .ok (.aload_n 0, 1) := by decide +kernel
theorem dX3_init_1 : decode cX3_init 1 = .ok (.invokespecial 3, 3) := by decide +kernel
theorem dX3_init_4 : decode cX3_init 4 = .ok (.aload_n 0, 1) := by decide +kernel
theorem dX3_init_5 : decode cX3_init 5 = .ok (.bipush 14, 2) := by decide +kernel
theorem dX3_init_7 : decode cX3_init 7 = .ok (.bipush 13, 2) := by decide +kernel
theorem dX3_init_9 : decode cX3_init 9 = .ok (.multianewarray 9 2, 4) := by decide +kernel
theorem dX3_init_13 : decode cX3_init 13 = .ok (.putfield 11, 3) := by decide +kernel
theorem dX3_init_16 : decode cX3_init 16 = .ok (.return_, 1) := by decide +kernel
theorem dX4_init_0 : decode cX4_init 0 = .ok (.aload_n 0, 1) := by decide +kernel
theorem dX4_init_1 : decode cX4_init 1 = .ok (.invokespecial 1, 3) := by decide +kernel
theorem dX4_init_4 : decode cX4_init 4 = .ok (.aload_n 0, 1) := by decide +kernel
theorem dX4_init_5 : decode cX4_init 5 = .ok (.bipush 121, 2) := by decide +kernel
theorem dX4_init_7 : decode cX4_init 7 = .ok (.newarray .int, 2) := by decide +kernel
theorem dX4_init_9 : decode cX4_init 9 = .ok (.putfield 9, 3) := by decide +kernel
theorem dX4_init_12 : decode cX4_init 12 = .ok (.aload_n 0, 1) := by decide +kernel
theorem dX4_init_13 : decode cX4_init 13 = .ok (.bipush 6, 2) := by decide +kernel
theorem dX4_init_15 : decode cX4_init 15 = .ok (.newarray .int, 2) := by decide +kernel
theorem dX4_init_17 : decode cX4_init 17 = .ok (.putfield 15, 3) := by decide +kernel
theorem dX4_init_20 : decode cX4_init 20 = .ok (.aload_n 0, 1) := by decide +kernel
theorem dX4_init_21 : decode cX4_init 21 = .ok (.bipush 120, 2) := by decide +kernel
theorem dX4_init_23 : decode cX4_init 23 = .ok (.newarray .int, 2) := by decide +kernel
theorem dX4_init_25 : decode cX4_init 25 = .ok (.putfield 18, 3) := by decide +kernel
theorem dX4_init_28 : decode cX4_init 28 = .ok (.return_, 1) := by decide +kernel
theorem dX5_init_0 : decode cX5_init 0 = .ok (.aload_n 0, 1) := by decide +kernel
theorem dX5_init_1 : decode cX5_init 1 = .ok (.invokespecial 3, 3) := by decide +kernel
theorem dX5_init_4 : decode cX5_init 4 = .ok (.aload_n 0, 1) := by decide +kernel
theorem dX5_init_5 : decode cX5_init 5 = .ok (.bipush 120, 2) := by decide +kernel
theorem dX5_init_7 : decode cX5_init 7 = .ok (.newarray .int, 2) := by decide +kernel
theorem dX5_init_9 : decode cX5_init 9 = .ok (.putfield 9, 3) := by decide +kernel
theorem dX5_init_12 : decode cX5_init 12 = .ok (.aload_n 0, 1) := by decide +kernel
theorem dX5_init_13 : decode cX5_init 13 = .ok (.bipush 121, 2) := by decide +kernel
theorem dX5_init_15 : decode cX5_init 15 = .ok (.newarray .int, 2) := by decide +kernel
theorem dX5_init_17 : decode cX5_init 17 = .ok (.putfield 13, 3) := by decide +kernel
theorem dX5_init_20 : decode cX5_init 20 = .ok (.return_, 1) := by decide +kernel
theorem dX6_init_0 : decode cX6_init 0 = .ok (.aload_n 0, 1) := by decide +kernel
theorem dX6_init_1 : decode cX6_init 1 = .ok (.invokespecial 3, 3) := by decide +kernel
theorem dX6_init_4 : decode cX6_init 4 = .ok (.aload_n 0, 1) := by decide +kernel
theorem dX6_init_5 : decode cX6_init 5 = .ok (.bipush 36, 2) := by decide +kernel
theorem dX6_init_7 : decode cX6_init 7 = .ok (.newarray .int, 2) := by decide +kernel
theorem dX6_init_9 : decode cX6_init 9 = .ok (.putfield 9, 3) := by decide +kernel
theorem dX6_init_12 : decode cX6_init 12 = .ok (.aload_n 0, 1) := by decide +kernel
theorem dX6_init_13 : decode cX6_init 13 = .ok (.bipush 10, 2) := by decide +kernel
theorem dX6_init_15 : decode cX6_init 15 = .ok (.newarray .int, 2) := by decide +kernel
theorem dX6_init_17 : decode cX6_init 17 = .ok (.putfield 17, 3) := by decide +kernel
theorem dX6_init_20 : decode cX6_init 20 = .ok (.aload_n 0, 1) := by decide +kernel
theorem dX6_init_21 : decode cX6_init 21 = .ok (.aload_n 1, 1) := by decide +kernel
theorem dX6_init_22 : decode cX6_init 22 = .ok (.putfield 20, 3) := by decide +kernel
theorem dX6_init_25 : decode cX6_init 25 = .ok (.aload_n 0, 1) := by decide +kernel
theorem dX6_init_26 : decode cX6_init 26 = .ok (.aload_n 2, 1) := by decide +kernel
theorem dX6_init_27 : decode cX6_init 27 = .ok (.putfield 24, 3) := by decide +kernel
theorem dX6_init_30 : decode cX6_init 30 = .ok (.return_, 1) := by decide +kernel
theorem dX7_init_0 : decode cX7_init 0 = .ok (.aload_n 0, 1) := by decide +kernel
theorem dX7_init_1 : decode cX7_init 1 = .ok (.invokespecial 3, 3) := by decide +kernel
theorem dX7_init_4 : decode cX7_init 4 = .ok (.aload_n 0, 1) := by decide +kernel
theorem dX7_init_5 : decode cX7_init 5 = .ok (.bipush 60, 2) := by decide +kernel
theorem dX7_init_7 : decode cX7_init 7 = .ok (.newarray .long, 2) := by decide +kernel
theorem dX7_init_9 : decode cX7_init 9 = .ok (.putfield 11, 3) := by decide +kernel
theorem dX7_init_12 : decode cX7_init 12 = .ok (.return_, 1) := by decide +kernel
theorem dX8_init_0 : decode cX8_init 0 = .ok (.aload_n 0, 1) := by decide +kernel
theorem dX8_init_1 : decode cX8_init 1 = .ok (.invokespecial 3, 3) := by decide +kernel
theorem dX8_init_4 : decode cX8_init 4 = .ok (.aload_n 0, 1) := by decide +kernel
theorem dX8_init_5 : decode cX8_init 5 = .ok (.sipush 400, 3) := by decide +kernel
theorem dX8_init_8 : decode cX8_init 8 = .ok (.newarray .int, 2) := by decide +kernel
theorem dX8_init_10 : decode cX8_init 10 = .ok (.putfield 9, 3) := by decide +kernel
theorem dX8_init_13 : decode cX8_init 13 = .ok (.aload_n 0, 1) := by decide +kernel
theorem dX8_init_14 : decode cX8_init 14 = .ok (.bipush 20, 2) := by decide +kernel
theorem dX8_init_16 : decode cX8_init 16 = .ok (.newarray .int, 2) := by decide +kernel
theorem dX8_init_18 : decode cX8_init 18 = .ok (.putfield 15, 3) := by decide +kernel
theorem dX8_init_21 : decode cX8_init 21 = .ok (.aload_n 0, 1) := by decide +kernel
theorem dX8_init_22 : decode cX8_init 22 = .ok (.aload_n 1, 1) := by decide +kernel
theorem dX8_init_23 : decode cX8_init 23 = .ok (.putfield 18, 3) := by decide +kernel
theorem dX8_init_26 : decode cX8_init 26 = .ok (.return_, 1) := by decide +kernel
theorem dX9_init_0 : decode cX9_init 0 = .ok (.aload_n 0, 1) := by decide +kernel
theorem dX9_init_1 : decode cX9_init 1 = .ok (.invokespecial 3, 3) := by decide +kernel
theorem dX9_init_4 : decode cX9_init 4 = .ok (.aload_n 0, 1) := by decide +kernel
theorem dX9_init_5 : decode cX9_init 5 = .ok (.bipush 10, 2) := by decide +kernel
theorem dX9_init_7 : decode cX9_init 7 = .ok (.newarray .int, 2) := by decide +kernel
theorem dX9_init_9 : decode cX9_init 9 = .ok (.putfield 11, 3) := by decide +kernel
theorem dX9_init_12 : decode cX9_init 12 = .ok (.aload_n 0, 1) := by decide +kernel
theorem dX9_init_13 : decode cX9_init 13 = .ok (.bipush 10, 2) := by decide +kernel
theorem dX9_init_15 : decode cX9_init 15 = .ok (.newarray .int, 2) := by decide +kernel
theorem dX9_init_17 : decode cX9_init 17 = .ok (.putfield 17, 3) := by decide +kernel
theorem dX9_init_20 : decode cX9_init 20 = .ok (.aload_n 0, 1) := by decide +kernel
theorem dX9_init_21 : decode cX9_init 21 = .ok (.bipush 10, 2) := by decide +kernel
theorem dX9_init_23 : decode cX9_init 23 = .ok (.newarray .int, 2) := by decide +kernel
theorem dX9_init_25 : decode cX9_init 25 = .ok (.putfield 20, 3) := by decide +kernel
theorem dX9_init_28 : decode cX9_init 28 = .ok (.aload_n 0, 1) := by decide +kernel
theorem dX9_init_29 : decode cX9_init 29 = .ok (.bipush 10, 2) := by decide +kernel
theorem dX9_init_31 : decode cX9_init 31 = .ok (.newarray .int, 2) := by decide +kernel
theorem dX9_init_33 : decode cX9_init 33 = .ok (.putfield 23, 3) := by decide +kernel
theorem dX9_init_36 : decode cX9_init 36 = .ok (.aload_n 0, 1) := by decide +kernel
theorem dX9_init_37 : decode cX9_init 37 = .ok (.aload_n 1, 1) := by decide +kernel
theorem dX9_init_38 : decode cX9_init 38 = .ok (.putfield 26, 3) := by decide +kernel
theorem dX9_init_41 : decode cX9_init 41 = .ok (.aload_n 0, 1) := by decide +kernel
theorem dX9_init_42 : decode cX9_init 42 = .ok (.aload_n 2, 1) := by decide +kernel
theorem dX9_init_43 : decode cX9_init 43 = .ok (.putfield 30, 3) := by decide +kernel
theorem dX9_init_46 : decode cX9_init 46 = .ok (.return_, 1) := by decide +kernel
theorem dX10_init_0 : decode cX10_init 0 = .ok (.aload_n 0, 1) := by decide +kernel
theorem dX10_init_1 : decode cX10_init 1 = .ok (.invokespecial 3, 3) := by decide +kernel
theorem dX10_init_4 : decode cX10_init 4 = .ok (.aload_n 0, 1) := by decide +kernel
theorem dX10_init_5 : decode cX10_init 5 = .ok (.bipush 10, 2) := by decide +kernel
theorem dX10_init_7 : decode cX10_init 7 = .ok (.newarray .int, 2) := by decide +kernel
theorem dX10_init_9 : decode cX10_init 9 = .ok (.putfield 11, 3) := by decide +kernel
theorem dX10_init_12 : decode cX10_init 12 = .ok (.aload_n 0, 1) := by decide +kernel
theorem dX10_init_13 : decode cX10_init 13 = .ok (.bipush 10, 2) := by decide +kernel
theorem dX10_init_15 : decode cX10_init 15 = .ok (.newarray .int, 2) := by decide +kernel
theorem dX10_init_17 : decode cX10_init 17 = .ok (.putfield 17, 3) := by decide +kernel
theorem dX10_init_20 : decode cX10_init 20 = .ok (.aload_n 0, 1) := by decide +kernel
theorem dX10_init_21 : decode cX10_init 21 = .ok (.bipush 10, 2) := by decide +kernel
theorem dX10_init_23 : decode cX10_init 23 = .ok (.newarray .int, 2) := by decide +kernel
theorem dX10_init_25 : decode cX10_init 25 = .ok (.putfield 20, 3) := by decide +kernel
theorem dX10_init_28 : decode cX10_init 28 = .ok (.aload_n 0, 1) := by decide +kernel
theorem dX10_init_29 : decode cX10_init 29 = .ok (.aload_n 1, 1) := by decide +kernel
theorem dX10_init_30 : decode cX10_init 30 = .ok (.putfield 23, 3) := by decide +kernel
theorem dX10_init_33 : decode cX10_init 33 = .ok (.aload_n 0, 1) := by decide +kernel
theorem dX10_init_34 : decode cX10_init 34 = .ok (.aload_n 2, 1) := by decide +kernel
theorem dX10_init_35 : decode cX10_init 35 = .ok (.putfield 27, 3) := by decide +kernel
theorem dX10_init_38 : decode cX10_init 38 = .ok (.return_, 1) := by decide +kernel
def EK : EF := fun X k f g =>
  if 3 ≤ k ∧ k < 17 then .inl (xc X 1, 13, .inl f) else if 53 ≤ k ∧ k < 65 ∧ k % 2 = 1 then .inr (7, [.int (f 0), .int (f 1), .int (f 2), .int (f 3), rfN X (f 4)]) else if 53 ≤ k ∧ k < 65 then .inl (xc X 2, 60, .inr (.inl g)) else
  match k with
  | 0 => .inr (11, [rfN X (f 0), rfN X (f 1), rfN X (f 2), rfN X (f 3), rfN X (f 4), rfN X (f 5), rfN X (f 6), rfN X (f 7), rfN X (f 8), rfN X (f 9), .int (f 10), rfN X (f 11), rfN X (f 12), rfN X (f 13)])
  | 1 => .inr (3, [rfN X (f 0), .int (f 1), .int (f 2), .int (f 3)])
  | 2 => .inl (xc X 6, 14, .inr (.inr (.inr (.inr (rfs X f)))))
  | 17 => .inr (4, [rfN X (f 0), .int (f 1), rfN X (f 2), rfN X (f 3)])
  | 18 => .inl (xc X 1, 121, .inl f)
  | 19 => .inl (xc X 1, 6, .inl f)
  | 20 => .inl (xc X 1, 120, .inl f)
  | 21 => .inr (5, [rfN X (f 0), .int (f 1), .int (f 2), rfN X (f 3), .int (f 4)])
  | 22 => .inl (xc X 1, 120, .inl f)
  | 23 => .inl (xc X 1, 121, .inl f)
  | 24 => .inr (6, [rfN X (f 0), .int (f 1), .int (f 2), .int (f 3), rfN X (f 4), rfN X (f 5), rfN X (f 6)])
  | 25 => .inl (xc X 1, 36, .inl f)
  | 26 => .inl (xc X 1, 10, .inl f)
  | 27 => .inr (9, [.int (f 0), .int (f 1), rfN X (f 2), rfN X (f 3), rfN X (f 4), rfN X (f 5), rfN X (f 6), rfN X (f 7)])
  | 28 => .inl (xc X 1, 10, .inl f)
  | 29 => .inl (xc X 1, 10, .inl f)
  | 30 => .inl (xc X 1, 10, .inl f)
  | 31 => .inl (xc X 1, 10, .inl f)
  | 32 => .inr (10, [.int (f 0), .int (f 1), rfN X (f 2), rfN X (f 3), rfN X (f 4), rfN X (f 5), rfN X (f 6)])
  | 33 => .inl (xc X 1, 10, .inl f)
  | 34 => .inl (xc X 1, 10, .inl f)
  | 35 => .inl (xc X 1, 10, .inl f)
  | 36 => .inr (8, [.int (f 0), .int (f 1), .int (f 2), .int (f 3), rfN X (f 4), rfN X (f 5), rfN X (f 6)])
  | 37 => .inl (xc X 1, 400, .inl f)
  | 38 => .inl (xc X 1, 20, .inl f)
  | 39 => .inr (2, [rfN X (f 0), .int (f 1), .int (f 2), .int (f 3), .int (f 4)])
  | 40 => .inl (xc X 1, 36, .inl f)
  | 41 => .inr (2, [rfN X (f 0), .int (f 1), .int (f 2), .int (f 3), .int (f 4)])
  | 42 => .inl (xc X 1, 36, .inl f)
  | 43 => .inl (xc X 1, 8, .inl f)
  | 44 => .inr (1, [.int (f 0), .int (f 1), rfN X (f 2), rfN X (f 3), rfN X (f 4), rfN X (f 5)])
  | 45 => .inl (xc X 1, 40, .inl f)
  | 46 => .inl (xc X 1, 40, .inl f)
  | 47 => .inl (xc X 1, 40, .inl f)
  | 48 => .inl (xc X 1, 40, .inl f)
  | 49 => .inr (0, [rfN X (f 0), .int (f 1), rfN X (f 2), .int (f 3)])
  | 50 => .inl (xc X 1, 50, .inl f)
  | 51 => .inl (xc X 1, 24, .inl f)
  | _ => .inl (xc X 5, 6, .inr (.inr (.inr (.inr (rfs X f)))))
theorem EK_0 (X : WX) (f : Nat → Int32) (g : Nat → Int64) : EK X 0 f g = .inr (11, [rfN X (f 0), rfN X (f 1), rfN X (f 2), rfN X (f 3), rfN X (f 4), rfN X (f 5), rfN X (f 6), rfN X (f 7), rfN X (f 8), rfN X (f 9), .int (f 10), rfN X (f 11), rfN X (f 12), rfN X (f 13)]) := rfl
theorem EK_1 (X : WX) (f : Nat → Int32) (g : Nat → Int64) : EK X 1 f g = .inr (3, [rfN X (f 0), .int (f 1), .int (f 2), .int (f 3)]) := rfl
theorem EK_2 (X : WX) (f : Nat → Int32) (g : Nat → Int64) : EK X 2 f g = .inl (xc X 6, 14, .inr (.inr (.inr (.inr (rfs X f))))) := rfl
theorem EK_17 (X : WX) (f : Nat → Int32) (g : Nat → Int64) : EK X 17 f g = .inr (4, [rfN X (f 0), .int (f 1), rfN X (f 2), rfN X (f 3)]) := rfl
theorem EK_18 (X : WX) (f : Nat → Int32) (g : Nat → Int64) : EK X 18 f g = .inl (xc X 1, 121, .inl f) := rfl
theorem EK_19 (X : WX) (f : Nat → Int32) (g : Nat → Int64) : EK X 19 f g = .inl (xc X 1, 6, .inl f) := rfl
theorem EK_20 (X : WX) (f : Nat → Int32) (g : Nat → Int64) : EK X 20 f g = .inl (xc X 1, 120, .inl f) := rfl
theorem EK_21 (X : WX) (f : Nat → Int32) (g : Nat → Int64) : EK X 21 f g = .inr (5, [rfN X (f 0), .int (f 1), .int (f 2), rfN X (f 3), .int (f 4)]) := rfl
theorem EK_22 (X : WX) (f : Nat → Int32) (g : Nat → Int64) : EK X 22 f g = .inl (xc X 1, 120, .inl f) := rfl
theorem EK_23 (X : WX) (f : Nat → Int32) (g : Nat → Int64) : EK X 23 f g = .inl (xc X 1, 121, .inl f) := rfl
theorem EK_24 (X : WX) (f : Nat → Int32) (g : Nat → Int64) : EK X 24 f g = .inr (6, [rfN X (f 0), .int (f 1), .int (f 2), .int (f 3), rfN X (f 4), rfN X (f 5), rfN X (f 6)]) := rfl
theorem EK_25 (X : WX) (f : Nat → Int32) (g : Nat → Int64) : EK X 25 f g = .inl (xc X 1, 36, .inl f) := rfl
theorem EK_26 (X : WX) (f : Nat → Int32) (g : Nat → Int64) : EK X 26 f g = .inl (xc X 1, 10, .inl f) := rfl
theorem EK_27 (X : WX) (f : Nat → Int32) (g : Nat → Int64) : EK X 27 f g = .inr (9, [.int (f 0), .int (f 1), rfN X (f 2), rfN X (f 3), rfN X (f 4), rfN X (f 5), rfN X (f 6), rfN X (f 7)]) := rfl
theorem EK_28 (X : WX) (f : Nat → Int32) (g : Nat → Int64) : EK X 28 f g = .inl (xc X 1, 10, .inl f) := rfl
theorem EK_29 (X : WX) (f : Nat → Int32) (g : Nat → Int64) : EK X 29 f g = .inl (xc X 1, 10, .inl f) := rfl
theorem EK_30 (X : WX) (f : Nat → Int32) (g : Nat → Int64) : EK X 30 f g = .inl (xc X 1, 10, .inl f) := rfl
theorem EK_31 (X : WX) (f : Nat → Int32) (g : Nat → Int64) : EK X 31 f g = .inl (xc X 1, 10, .inl f) := rfl
theorem EK_32 (X : WX) (f : Nat → Int32) (g : Nat → Int64) : EK X 32 f g = .inr (10, [.int (f 0), .int (f 1), rfN X (f 2), rfN X (f 3), rfN X (f 4), rfN X (f 5), rfN X (f 6)]) := rfl
theorem EK_33 (X : WX) (f : Nat → Int32) (g : Nat → Int64) : EK X 33 f g = .inl (xc X 1, 10, .inl f) := rfl
theorem EK_34 (X : WX) (f : Nat → Int32) (g : Nat → Int64) : EK X 34 f g = .inl (xc X 1, 10, .inl f) := rfl
theorem EK_35 (X : WX) (f : Nat → Int32) (g : Nat → Int64) : EK X 35 f g = .inl (xc X 1, 10, .inl f) := rfl
theorem EK_36 (X : WX) (f : Nat → Int32) (g : Nat → Int64) : EK X 36 f g = .inr (8, [.int (f 0), .int (f 1), .int (f 2), .int (f 3), rfN X (f 4), rfN X (f 5), rfN X (f 6)]) := rfl
theorem EK_37 (X : WX) (f : Nat → Int32) (g : Nat → Int64) : EK X 37 f g = .inl (xc X 1, 400, .inl f) := rfl
theorem EK_38 (X : WX) (f : Nat → Int32) (g : Nat → Int64) : EK X 38 f g = .inl (xc X 1, 20, .inl f) := rfl
theorem EK_39 (X : WX) (f : Nat → Int32) (g : Nat → Int64) : EK X 39 f g = .inr (2, [rfN X (f 0), .int (f 1), .int (f 2), .int (f 3), .int (f 4)]) := rfl
theorem EK_40 (X : WX) (f : Nat → Int32) (g : Nat → Int64) : EK X 40 f g = .inl (xc X 1, 36, .inl f) := rfl
theorem EK_41 (X : WX) (f : Nat → Int32) (g : Nat → Int64) : EK X 41 f g = .inr (2, [rfN X (f 0), .int (f 1), .int (f 2), .int (f 3), .int (f 4)]) := rfl
theorem EK_42 (X : WX) (f : Nat → Int32) (g : Nat → Int64) : EK X 42 f g = .inl (xc X 1, 36, .inl f) := rfl
theorem EK_43 (X : WX) (f : Nat → Int32) (g : Nat → Int64) : EK X 43 f g = .inl (xc X 1, 8, .inl f) := rfl
theorem EK_44 (X : WX) (f : Nat → Int32) (g : Nat → Int64) : EK X 44 f g = .inr (1, [.int (f 0), .int (f 1), rfN X (f 2), rfN X (f 3), rfN X (f 4), rfN X (f 5)]) := rfl
theorem EK_45 (X : WX) (f : Nat → Int32) (g : Nat → Int64) : EK X 45 f g = .inl (xc X 1, 40, .inl f) := rfl
theorem EK_46 (X : WX) (f : Nat → Int32) (g : Nat → Int64) : EK X 46 f g = .inl (xc X 1, 40, .inl f) := rfl
theorem EK_47 (X : WX) (f : Nat → Int32) (g : Nat → Int64) : EK X 47 f g = .inl (xc X 1, 40, .inl f) := rfl
theorem EK_48 (X : WX) (f : Nat → Int32) (g : Nat → Int64) : EK X 48 f g = .inl (xc X 1, 40, .inl f) := rfl
theorem EK_49 (X : WX) (f : Nat → Int32) (g : Nat → Int64) : EK X 49 f g = .inr (0, [rfN X (f 0), .int (f 1), rfN X (f 2), .int (f 3)]) := rfl
theorem EK_50 (X : WX) (f : Nat → Int32) (g : Nat → Int64) : EK X 50 f g = .inl (xc X 1, 50, .inl f) := rfl
theorem EK_51 (X : WX) (f : Nat → Int32) (g : Nat → Int64) : EK X 51 f g = .inl (xc X 1, 24, .inl f) := rfl
theorem EK_52 (X : WX) (f : Nat → Int32) (g : Nat → Int64) : EK X 52 f g = .inl (xc X 5, 6, .inr (.inr (.inr (.inr (rfs X f))))) := rfl
def EL : EF := fun X k f g =>
  match k with
  | 0 => .inr (12, [.int (f 0), .int (f 1), rfN X (f 2), rfN X (f 3), rfN X (f 4), rfN X (f 5), rfN X (f 6), rfN X (f 7), .int (f 8), rfN X (f 9), rfN X (f 10), rfN X (f 11), rfN X (f 12), .int (f 13), rfN X (f 14), rfN X (f 15), rfN X (f 16), rfN X (f 17), .int (f 18), .int (f 19), rfN X (f 20), rfN X (f 21), rfN X (f 22), rfN X (f 23), rfN X (f 24), .int (f 25), .int (f 26), .int (f 27), .int (f 28), .int (f 29), rfN X (f 30), rfN X (f 31), rfN X (f 32), rfN X (f 33), rfN X (f 34), rfN X (f 35), rfN X (f 36), .int (f 37), rfN X (f 38), rfN X (f 39), rfN X (f 40), rfN X (f 41), rfN X (f 42), rfN X (f 43), .int (f 44), .int (f 45), rfN X (f 46), rfN X (f 47), rfN X (f 48), rfN X (f 49), .int (f 50), rfN X (f 51), .int (f 52), rfN X (f 53), rfN X (f 54), rfN X (f 55), rfN X (f 56), rfN X (f 57)])
  | 1 => .inl (xc X 1, 8, .inl f)
  | 2 => .inl (xc X 1, 8, .inl f)
  | 3 => .inl (xc X 1, 8, .inl f)
  | 4 => .inl (xc X 1, 8, .inl f)
  | 5 => .inl (xc X 1, 8, .inl f)
  | 6 => .inl (xc X 1, 8, .inl f)
  | 7 => .inl (xc X 1, 11, .inl f)
  | 8 => .inl (xc X 1, 11, .inl f)
  | 9 => .inl (xc X 1, 11, .inl f)
  | 10 => .inl (xc X 1, 11, .inl f)
  | 11 => .inl (xc X 1, 13, .inl f)
  | 12 => .inl (xc X 1, 13, .inl f)
  | 13 => .inl (xc X 1, 13, .inl f)
  | 14 => .inl (xc X 1, 13, .inl f)
  | 15 => .inl (xc X 1, 40, .inl f)
  | 16 => .inl (xc X 1, 40, .inl f)
  | 17 => .inl (xc X 1, 40, .inl f)
  | 18 => .inl (xc X 1, 40, .inl f)
  | 19 => .inl (xc X 0, 120, .inl f)
  | 20 => .inl (xc X 0, 260, .inl f)
  | 21 => .inl (xc X 1, 260, .inl f)
  | 22 => .inl (xc X 1, 2, .inl f)
  | 23 => .inl (xc X 3, 122, .inl f)
  | 24 => .inl (xc X 3, 122, .inl f)
  | 25 => .inl (xc X 1, 6, .inl f)
  | 26 => .inl (xc X 1, 130, .inl f)
  | 27 => .inl (xc X 1, 36, .inl f)
  | 28 => .inl (xc X 1, 8, .inl f)
  | 29 => .inl (xc X 1, 20, .inl f)
  | 30 => .inl (xc X 4, 11, .inl f)
  | 31 => .inl (xc X 1, 36, .inl f)
  | 32 => .inl (xc X 1, 4, .inl f)
  | 33 => .inl (xc X 4, 11, .inl f)
  | 34 => .inl (xc X 1, 36, .inl f)
  | 35 => .inl (xc X 1, 8, .inl f)
  | 36 => .inl (xc X 1, 4, .inl f)
  | 37 => .inl (xc X 1, 50, .inl f)
  | 38 => .inl (xc X 1, 24, .inl f)
  | 39 => .inl (xc X 1, 6, .inl f)
  | 40 => .inl (xc X 1, 6, .inl f)
  | 41 => .inl (xc X 2, 360, .inr (.inl g))
  | _ => .inl (xc X 2, 60, .inr (.inl g))
theorem EL_0 (X : WX) (f : Nat → Int32) (g : Nat → Int64) : EL X 0 f g = .inr (12, [.int (f 0), .int (f 1), rfN X (f 2), rfN X (f 3), rfN X (f 4), rfN X (f 5), rfN X (f 6), rfN X (f 7), .int (f 8), rfN X (f 9), rfN X (f 10), rfN X (f 11), rfN X (f 12), .int (f 13), rfN X (f 14), rfN X (f 15), rfN X (f 16), rfN X (f 17), .int (f 18), .int (f 19), rfN X (f 20), rfN X (f 21), rfN X (f 22), rfN X (f 23), rfN X (f 24), .int (f 25), .int (f 26), .int (f 27), .int (f 28), .int (f 29), rfN X (f 30), rfN X (f 31), rfN X (f 32), rfN X (f 33), rfN X (f 34), rfN X (f 35), rfN X (f 36), .int (f 37), rfN X (f 38), rfN X (f 39), rfN X (f 40), rfN X (f 41), rfN X (f 42), rfN X (f 43), .int (f 44), .int (f 45), rfN X (f 46), rfN X (f 47), rfN X (f 48), rfN X (f 49), .int (f 50), rfN X (f 51), .int (f 52), rfN X (f 53), rfN X (f 54), rfN X (f 55), rfN X (f 56), rfN X (f 57)]) := rfl
theorem EL_1 (X : WX) (f : Nat → Int32) (g : Nat → Int64) : EL X 1 f g = .inl (xc X 1, 8, .inl f) := rfl
theorem EL_2 (X : WX) (f : Nat → Int32) (g : Nat → Int64) : EL X 2 f g = .inl (xc X 1, 8, .inl f) := rfl
theorem EL_3 (X : WX) (f : Nat → Int32) (g : Nat → Int64) : EL X 3 f g = .inl (xc X 1, 8, .inl f) := rfl
theorem EL_4 (X : WX) (f : Nat → Int32) (g : Nat → Int64) : EL X 4 f g = .inl (xc X 1, 8, .inl f) := rfl
theorem EL_5 (X : WX) (f : Nat → Int32) (g : Nat → Int64) : EL X 5 f g = .inl (xc X 1, 8, .inl f) := rfl
theorem EL_6 (X : WX) (f : Nat → Int32) (g : Nat → Int64) : EL X 6 f g = .inl (xc X 1, 8, .inl f) := rfl
theorem EL_7 (X : WX) (f : Nat → Int32) (g : Nat → Int64) : EL X 7 f g = .inl (xc X 1, 11, .inl f) := rfl
theorem EL_8 (X : WX) (f : Nat → Int32) (g : Nat → Int64) : EL X 8 f g = .inl (xc X 1, 11, .inl f) := rfl
theorem EL_9 (X : WX) (f : Nat → Int32) (g : Nat → Int64) : EL X 9 f g = .inl (xc X 1, 11, .inl f) := rfl
theorem EL_10 (X : WX) (f : Nat → Int32) (g : Nat → Int64) : EL X 10 f g = .inl (xc X 1, 11, .inl f) := rfl
theorem EL_11 (X : WX) (f : Nat → Int32) (g : Nat → Int64) : EL X 11 f g = .inl (xc X 1, 13, .inl f) := rfl
theorem EL_12 (X : WX) (f : Nat → Int32) (g : Nat → Int64) : EL X 12 f g = .inl (xc X 1, 13, .inl f) := rfl
theorem EL_13 (X : WX) (f : Nat → Int32) (g : Nat → Int64) : EL X 13 f g = .inl (xc X 1, 13, .inl f) := rfl
theorem EL_14 (X : WX) (f : Nat → Int32) (g : Nat → Int64) : EL X 14 f g = .inl (xc X 1, 13, .inl f) := rfl
theorem EL_15 (X : WX) (f : Nat → Int32) (g : Nat → Int64) : EL X 15 f g = .inl (xc X 1, 40, .inl f) := rfl
theorem EL_16 (X : WX) (f : Nat → Int32) (g : Nat → Int64) : EL X 16 f g = .inl (xc X 1, 40, .inl f) := rfl
theorem EL_17 (X : WX) (f : Nat → Int32) (g : Nat → Int64) : EL X 17 f g = .inl (xc X 1, 40, .inl f) := rfl
theorem EL_18 (X : WX) (f : Nat → Int32) (g : Nat → Int64) : EL X 18 f g = .inl (xc X 1, 40, .inl f) := rfl
theorem EL_19 (X : WX) (f : Nat → Int32) (g : Nat → Int64) : EL X 19 f g = .inl (xc X 0, 120, .inl f) := rfl
theorem EL_20 (X : WX) (f : Nat → Int32) (g : Nat → Int64) : EL X 20 f g = .inl (xc X 0, 260, .inl f) := rfl
theorem EL_21 (X : WX) (f : Nat → Int32) (g : Nat → Int64) : EL X 21 f g = .inl (xc X 1, 260, .inl f) := rfl
theorem EL_22 (X : WX) (f : Nat → Int32) (g : Nat → Int64) : EL X 22 f g = .inl (xc X 1, 2, .inl f) := rfl
theorem EL_23 (X : WX) (f : Nat → Int32) (g : Nat → Int64) : EL X 23 f g = .inl (xc X 3, 122, .inl f) := rfl
theorem EL_24 (X : WX) (f : Nat → Int32) (g : Nat → Int64) : EL X 24 f g = .inl (xc X 3, 122, .inl f) := rfl
theorem EL_25 (X : WX) (f : Nat → Int32) (g : Nat → Int64) : EL X 25 f g = .inl (xc X 1, 6, .inl f) := rfl
theorem EL_26 (X : WX) (f : Nat → Int32) (g : Nat → Int64) : EL X 26 f g = .inl (xc X 1, 130, .inl f) := rfl
theorem EL_27 (X : WX) (f : Nat → Int32) (g : Nat → Int64) : EL X 27 f g = .inl (xc X 1, 36, .inl f) := rfl
theorem EL_28 (X : WX) (f : Nat → Int32) (g : Nat → Int64) : EL X 28 f g = .inl (xc X 1, 8, .inl f) := rfl
theorem EL_29 (X : WX) (f : Nat → Int32) (g : Nat → Int64) : EL X 29 f g = .inl (xc X 1, 20, .inl f) := rfl
theorem EL_30 (X : WX) (f : Nat → Int32) (g : Nat → Int64) : EL X 30 f g = .inl (xc X 4, 11, .inl f) := rfl
theorem EL_31 (X : WX) (f : Nat → Int32) (g : Nat → Int64) : EL X 31 f g = .inl (xc X 1, 36, .inl f) := rfl
theorem EL_32 (X : WX) (f : Nat → Int32) (g : Nat → Int64) : EL X 32 f g = .inl (xc X 1, 4, .inl f) := rfl
theorem EL_33 (X : WX) (f : Nat → Int32) (g : Nat → Int64) : EL X 33 f g = .inl (xc X 4, 11, .inl f) := rfl
theorem EL_34 (X : WX) (f : Nat → Int32) (g : Nat → Int64) : EL X 34 f g = .inl (xc X 1, 36, .inl f) := rfl
theorem EL_35 (X : WX) (f : Nat → Int32) (g : Nat → Int64) : EL X 35 f g = .inl (xc X 1, 8, .inl f) := rfl
theorem EL_36 (X : WX) (f : Nat → Int32) (g : Nat → Int64) : EL X 36 f g = .inl (xc X 1, 4, .inl f) := rfl
theorem EL_37 (X : WX) (f : Nat → Int32) (g : Nat → Int64) : EL X 37 f g = .inl (xc X 1, 50, .inl f) := rfl
theorem EL_38 (X : WX) (f : Nat → Int32) (g : Nat → Int64) : EL X 38 f g = .inl (xc X 1, 24, .inl f) := rfl
theorem EL_39 (X : WX) (f : Nat → Int32) (g : Nat → Int64) : EL X 39 f g = .inl (xc X 1, 6, .inl f) := rfl
theorem EL_40 (X : WX) (f : Nat → Int32) (g : Nat → Int64) : EL X 40 f g = .inl (xc X 1, 6, .inl f) := rfl
theorem EL_41 (X : WX) (f : Nat → Int32) (g : Nat → Int64) : EL X 41 f g = .inl (xc X 2, 360, .inr (.inl g)) := rfl
theorem EL_42 (X : WX) (f : Nat → Int32) (g : Nat → Int64) : EL X 42 f g = .inl (xc X 2, 60, .inr (.inl g)) := rfl
theorem EK_sh (X : WX) {i : Nat} (h : i < 6) (f : Nat → Int32) (g : Nat → Int64) : EK X (53 + 2 * i) f g = .inr (7, [.int (f 0), .int (f 1), .int (f 2), .int (f 3), rfN X (f 4)]) := by
  unfold EK
  rw [if_neg (by omega), if_pos ⟨by omega, by omega, by omega⟩]
theorem EK_el (X : WX) {i : Nat} (h : i < 6) (f : Nat → Int32) (g : Nat → Int64) : EK X (54 + 2 * i) f g = .inl (xc X 2, 60, .inr (.inl g)) := by
  unfold EK
  rw [if_neg (by omega), if_neg (by omega), if_pos ⟨by omega, by omega⟩]
theorem EK_row (X : WX) (a : Nat) (h : 2 < a) (h2 : a < 2 + 15) (f : Nat → Int32) (g : Nat → Int64) : EK X a f g = .inl (xc X 1, 13, .inl f) := if_pos ⟨by omega, by omega⟩
theorem rfN_nI (X : WX) {k : Nat} (h : 0 < k) (hb : k < 1000) : rfN X (nI k) = .ref (xq X k) := by
  unfold rfN
  rw [if_neg (nI_ne0 h (by omega)), nI_clamp (by omega)]
theorem rfN_up (X : WX) (f : Nat → Int32) (j : Nat) {k : Nat} (h : 0 < k) (hb : k < 1000) : rfN X (upd f j (nI k) j) = .ref (xq X k) := by
  rw [show upd f j (nI k) j = nI k from if_pos rfl, rfN_nI X h hb]
theorem ok_yX3_init : yOk yX3_init 0 := ⟨by decide +kernel, by decide +kernel, by decide +kernel⟩
def kX3_init (st : St) : St := bnd (sMul st 2) (fun st1 => bnd (sI st1 1 0 (nI 2)) (fun st2 => st2))
set_option maxHeartbeats 4000000 in
theorem mX3_init (l : Launch) (X : WX) (B : Nat) (st R : St) (hf : kX3_init st = R) : CtN l yX3_init cX3_init 1 { frames := 1, cells := 15, slots := 196, locals := 12 } EK 2 17 X B [.ref (xq X 1)] st R 15 196 := by
  refine ctN_in (own := RX3) (by decide +kernel) rfl rfl (Nat.le_of_ble_eq_true rfl) (fun p e s m below meth c C hw ls hl => ?_)
  obtain ⟨hx, hb, hml, hown, hts⟩ := id C.1
  have hl : lv_has ls 1 [(0, .ref (xq X 1))] := hl
  unfold kX3_init at hf
  refine lv_aload_n hx hb dX3_init_0 rfl (lv_at hl 0 rfl) ?_
  refine n_obj C hl.1 km_X3_3 dX3_init_1 (Nat.le_of_ble_eq_true rfl) (Nat.le_of_ble_eq_true rfl) ?_
  refine lv_aload_n hx hb dX3_init_4 rfl (lv_at hl 0 rfl) ?_
  refine lv_bipush (v := 14) hx hb dX3_init_5 (by decide) ?_
  refine lv_bipush (v := 13) hx hb dX3_init_7 (by decide) ?_
  obtain ⟨st1, es1⟩ : ∃ z : St, z = sMul st 2 := ⟨_, rfl⟩
  replace hf := bnd_nm hf es1
  refine n_multi C hw (by decide) kl_X3_9 ka_int (fun f9 => EK_2 X f9 _) (fun a9 h8 h9 => EK_row X a9 h8 h9 _ _) (Nat.le_of_ble_eq_true rfl) (Nat.le_of_ble_eq_true rfl) dX3_init_9 (fun H hw => ?_)
  rw [← es1] at hw
  obtain ⟨st2, es2⟩ : ∃ z : St, z = sI st1 1 0 (nI 2) := ⟨_, rfl⟩
  replace hf := bnd_nm hf es2
  refine n_put (T := TX3) (st' := sI st1 1 0 (nI 2)) C hw (by decide) 0 kf_X3_11 (EK_1 X _ _) rfl inA3 tyX3_ok nmX3 (by decide) (Or.inr ⟨rfl, rfl⟩) rfl rfl rfl (Nat.le_of_ble_eq_true rfl) (by rw [gI_sI, gL_sI, EK_1, rfN_up X _ _ (by decide) (by decide)]; rfl) (sI_o _ _ _ _) dX3_init_13 (fun H locs hw => ?_)
  rw [← es2] at hw
  exact n_ret C hw rfl hf rfl rfl dX3_init_16
theorem ok_yX4_init : yOk yX4_init 0 := ⟨by decide +kernel, by decide +kernel, by decide +kernel⟩
def kX4_init (st : St) : St := bnd (sZ st 18) (fun st1 => bnd (sI st1 17 0 (nI 18)) (fun st2 => bnd (sZ st2 19) (fun st3 => bnd (sI st3 17 2 (nI 19)) (fun st4 => bnd (sZ st4 20) (fun st5 => bnd (sI st5 17 3 (nI 20)) (fun st6 => st6))))))
set_option maxHeartbeats 4000000 in
theorem mX4_init (l : Launch) (X : WX) (B : Nat) (st R : St) (hf : kX4_init st = R) : CtN l yX4_init cX4_init 1 { frames := 1, cells := 3, slots := 247, locals := 12 } EK 18 21 X B [.ref (xq X 17)] st R 3 247 := by
  refine ctN_in (own := RX4) (by decide +kernel) rfl rfl (Nat.le_of_ble_eq_true rfl) (fun p e s m below meth c C hw ls hl => ?_)
  obtain ⟨hx, hb, hml, hown, hts⟩ := id C.1
  have hl : lv_has ls 1 [(0, .ref (xq X 17))] := hl
  unfold kX4_init at hf
  refine lv_aload_n hx hb dX4_init_0 rfl (lv_at hl 0 rfl) ?_
  refine n_obj C hl.1 km_X4_1 dX4_init_1 (Nat.le_of_ble_eq_true rfl) (Nat.le_of_ble_eq_true rfl) ?_
  refine lv_aload_n hx hb dX4_init_4 rfl (lv_at hl 0 rfl) ?_
  refine lv_bipush (v := 121) hx hb dX4_init_5 (by decide) ?_
  obtain ⟨st1, es1⟩ : ∃ z : St, z = sZ st 18 := ⟨_, rfl⟩
  replace hf := bnd_nm hf es1
  refine n_newa (t := 1) (atype := .int) (N' := 121) C hw ka_int (C.2.1.2 1 _ rfl).2 (EK_18 X _ _) (fun cA => by rw [vp_cell_i]; rfl) (by decide) (by decide) (by decide) (Nat.le_of_ble_eq_true rfl) (Nat.le_of_ble_eq_true rfl) dX4_init_7 (fun H hw => ?_)
  rw [← es1] at hw
  obtain ⟨st2, es2⟩ : ∃ z : St, z = sI st1 17 0 (nI 18) := ⟨_, rfl⟩
  replace hf := bnd_nm hf es2
  refine n_put (T := TX4) (st' := sI st1 17 0 (nI 18)) C hw (by decide) 0 kf_X4_9 (EK_17 X _ _) rfl inA4 tyX4_ok nmX4 (by decide) (Or.inl rfl) rfl rfl rfl (Nat.le_of_ble_eq_true rfl) (by rw [gI_sI, gL_sI, EK_17, rfN_up X _ _ (by decide) (by decide)]; rfl) (sI_o _ _ _ _) dX4_init_9 (fun H locs hw => ?_)
  rw [← es2] at hw
  refine lv_aload_n hx hb dX4_init_12 rfl (lv_at hl 0 rfl) ?_
  refine lv_bipush (v := 6) hx hb dX4_init_13 (by decide) ?_
  obtain ⟨st3, es3⟩ : ∃ z : St, z = sZ st2 19 := ⟨_, rfl⟩
  replace hf := bnd_nm hf es3
  refine n_newa (t := 1) (atype := .int) (N' := 6) C hw ka_int (C.2.1.2 1 _ rfl).2 (EK_19 X _ _) (fun cA => by rw [vp_cell_i]; rfl) (by decide) (by decide) (by decide) (Nat.le_of_ble_eq_true rfl) (Nat.le_of_ble_eq_true rfl) dX4_init_15 (fun H hw => ?_)
  rw [← es3] at hw
  obtain ⟨st4, es4⟩ : ∃ z : St, z = sI st3 17 2 (nI 19) := ⟨_, rfl⟩
  replace hf := bnd_nm hf es4
  refine n_put (T := TX4) (st' := sI st3 17 2 (nI 19)) C hw (by decide) 2 kf_X4_15 (EK_17 X _ _) rfl inA4 tyX4_ok nmX4 (by decide) (Or.inr ⟨rfl, rfl⟩) rfl rfl rfl (Nat.le_of_ble_eq_true rfl) (by rw [gI_sI, gL_sI, EK_17, rfN_up X _ _ (by decide) (by decide)]; rfl) (sI_o _ _ _ _) dX4_init_17 (fun H locs hw => ?_)
  rw [← es4] at hw
  refine lv_aload_n hx hb dX4_init_20 rfl (lv_at hl 0 rfl) ?_
  refine lv_bipush (v := 120) hx hb dX4_init_21 (by decide) ?_
  obtain ⟨st5, es5⟩ : ∃ z : St, z = sZ st4 20 := ⟨_, rfl⟩
  replace hf := bnd_nm hf es5
  refine n_newa (t := 1) (atype := .int) (N' := 120) C hw ka_int (C.2.1.2 1 _ rfl).2 (EK_20 X _ _) (fun cA => by rw [vp_cell_i]; rfl) (by decide) (by decide) (by decide) (Nat.le_of_ble_eq_true rfl) (Nat.le_of_ble_eq_true rfl) dX4_init_23 (fun H hw => ?_)
  rw [← es5] at hw
  obtain ⟨st6, es6⟩ : ∃ z : St, z = sI st5 17 3 (nI 20) := ⟨_, rfl⟩
  replace hf := bnd_nm hf es6
  refine n_put (T := TX4) (st' := sI st5 17 3 (nI 20)) C hw (by decide) 3 kf_X4_18 (EK_17 X _ _) rfl inA4 tyX4_ok nmX4 (by decide) (Or.inr ⟨rfl, rfl⟩) rfl rfl rfl (Nat.le_of_ble_eq_true rfl) (by rw [gI_sI, gL_sI, EK_17, rfN_up X _ _ (by decide) (by decide)]; rfl) (sI_o _ _ _ _) dX4_init_25 (fun H locs hw => ?_)
  rw [← es6] at hw
  exact n_ret C hw rfl hf rfl rfl dX4_init_28
theorem ok_yX5_init : yOk yX5_init 0 := ⟨by decide +kernel, by decide +kernel, by decide +kernel⟩
def kX5_init (st : St) : St := bnd (sZ st 22) (fun st1 => bnd (sI st1 21 0 (nI 22)) (fun st2 => bnd (sZ st2 23) (fun st3 => bnd (sI st3 21 3 (nI 23)) (fun st4 => st4))))
set_option maxHeartbeats 4000000 in
theorem mX5_init (l : Launch) (X : WX) (B : Nat) (st R : St) (hf : kX5_init st = R) : CtN l yX5_init cX5_init 1 { frames := 1, cells := 2, slots := 241, locals := 12 } EK 22 24 X B [.ref (xq X 21)] st R 2 241 := by
  refine ctN_in (own := RX5) (by decide +kernel) rfl rfl (Nat.le_of_ble_eq_true rfl) (fun p e s m below meth c C hw ls hl => ?_)
  obtain ⟨hx, hb, hml, hown, hts⟩ := id C.1
  have hl : lv_has ls 1 [(0, .ref (xq X 21))] := hl
  unfold kX5_init at hf
  refine lv_aload_n hx hb dX5_init_0 rfl (lv_at hl 0 rfl) ?_
  refine n_obj C hl.1 km_X5_3 dX5_init_1 (Nat.le_of_ble_eq_true rfl) (Nat.le_of_ble_eq_true rfl) ?_
  refine lv_aload_n hx hb dX5_init_4 rfl (lv_at hl 0 rfl) ?_
  refine lv_bipush (v := 120) hx hb dX5_init_5 (by decide) ?_
  obtain ⟨st1, es1⟩ : ∃ z : St, z = sZ st 22 := ⟨_, rfl⟩
  replace hf := bnd_nm hf es1
  refine n_newa (t := 1) (atype := .int) (N' := 120) C hw ka_int (C.2.1.2 1 _ rfl).2 (EK_22 X _ _) (fun cA => by rw [vp_cell_i]; rfl) (by decide) (by decide) (by decide) (Nat.le_of_ble_eq_true rfl) (Nat.le_of_ble_eq_true rfl) dX5_init_7 (fun H hw => ?_)
  rw [← es1] at hw
  obtain ⟨st2, es2⟩ : ∃ z : St, z = sI st1 21 0 (nI 22) := ⟨_, rfl⟩
  replace hf := bnd_nm hf es2
  refine n_put (T := TX5) (st' := sI st1 21 0 (nI 22)) C hw (by decide) 0 kf_X5_9 (EK_21 X _ _) rfl inA5 tyX5_ok nmX5 (by decide) (Or.inr ⟨rfl, rfl⟩) rfl rfl rfl (Nat.le_of_ble_eq_true rfl) (by rw [gI_sI, gL_sI, EK_21, rfN_up X _ _ (by decide) (by decide)]; rfl) (sI_o _ _ _ _) dX5_init_9 (fun H locs hw => ?_)
  rw [← es2] at hw
  refine lv_aload_n hx hb dX5_init_12 rfl (lv_at hl 0 rfl) ?_
  refine lv_bipush (v := 121) hx hb dX5_init_13 (by decide) ?_
  obtain ⟨st3, es3⟩ : ∃ z : St, z = sZ st2 23 := ⟨_, rfl⟩
  replace hf := bnd_nm hf es3
  refine n_newa (t := 1) (atype := .int) (N' := 121) C hw ka_int (C.2.1.2 1 _ rfl).2 (EK_23 X _ _) (fun cA => by rw [vp_cell_i]; rfl) (by decide) (by decide) (by decide) (Nat.le_of_ble_eq_true rfl) (Nat.le_of_ble_eq_true rfl) dX5_init_15 (fun H hw => ?_)
  rw [← es3] at hw
  obtain ⟨st4, es4⟩ : ∃ z : St, z = sI st3 21 3 (nI 23) := ⟨_, rfl⟩
  replace hf := bnd_nm hf es4
  refine n_put (T := TX5) (st' := sI st3 21 3 (nI 23)) C hw (by decide) 3 kf_X5_13 (EK_21 X _ _) rfl inA5 tyX5_ok nmX5 (by decide) (Or.inl rfl) rfl rfl rfl (Nat.le_of_ble_eq_true rfl) (by rw [gI_sI, gL_sI, EK_21, rfN_up X _ _ (by decide) (by decide)]; rfl) (sI_o _ _ _ _) dX5_init_17 (fun H locs hw => ?_)
  rw [← es4] at hw
  exact n_ret C hw rfl hf rfl rfl dX5_init_20
theorem ok_yX6_init : yOk yX6_init 2 := ⟨by decide +kernel, by decide +kernel, by decide +kernel⟩
def kX6_init (st : St) : St := bnd (sZ st 25) (fun st1 => bnd (sI st1 24 0 (nI 25)) (fun st2 => bnd (sZ st2 26) (fun st3 => bnd (sI st3 24 6 (nI 26)) (fun st4 => bnd (sI st4 24 4 (nI 1)) (fun st5 => bnd (sI st5 24 5 (nI 17)) (fun st6 => st6))))))
set_option maxHeartbeats 4000000 in
theorem mX6_init (l : Launch) (X : WX) (B : Nat) (st R : St) (hf : kX6_init st = R) : CtN l yX6_init cX6_init 3 { frames := 1, cells := 2, slots := 46, locals := 12 } EK 25 27 X B [.ref (xq X 24), .ref (xq X 1), .ref (xq X 17)] st R 2 46 := by
  refine ctN_in (own := RX6) (by decide +kernel) rfl rfl (Nat.le_of_ble_eq_true rfl) (fun p e s m below meth c C hw ls hl => ?_)
  obtain ⟨hx, hb, hml, hown, hts⟩ := id C.1
  have hl : lv_has ls 3 [(0, .ref (xq X 24)), (1, .ref (xq X 1)), (2, .ref (xq X 17))] := hl
  unfold kX6_init at hf
  refine lv_aload_n hx hb dX6_init_0 rfl (lv_at hl 0 rfl) ?_
  refine n_obj C hl.1 km_X6_3 dX6_init_1 (Nat.le_of_ble_eq_true rfl) (Nat.le_of_ble_eq_true rfl) ?_
  refine lv_aload_n hx hb dX6_init_4 rfl (lv_at hl 0 rfl) ?_
  refine lv_bipush (v := 36) hx hb dX6_init_5 (by decide) ?_
  obtain ⟨st1, es1⟩ : ∃ z : St, z = sZ st 25 := ⟨_, rfl⟩
  replace hf := bnd_nm hf es1
  refine n_newa (t := 1) (atype := .int) (N' := 36) C hw ka_int (C.2.1.2 1 _ rfl).2 (EK_25 X _ _) (fun cA => by rw [vp_cell_i]; rfl) (by decide) (by decide) (by decide) (Nat.le_of_ble_eq_true rfl) (Nat.le_of_ble_eq_true rfl) dX6_init_7 (fun H hw => ?_)
  rw [← es1] at hw
  obtain ⟨st2, es2⟩ : ∃ z : St, z = sI st1 24 0 (nI 25) := ⟨_, rfl⟩
  replace hf := bnd_nm hf es2
  refine n_put (T := TX6) (st' := sI st1 24 0 (nI 25)) C hw (by decide) 0 kf_X6_9 (EK_24 X _ _) rfl inA6 tyX6_ok nmX6 (by decide) (Or.inr ⟨rfl, rfl⟩) rfl rfl rfl (Nat.le_of_ble_eq_true rfl) (by rw [gI_sI, gL_sI, EK_24, rfN_up X _ _ (by decide) (by decide)]; rfl) (sI_o _ _ _ _) dX6_init_9 (fun H locs hw => ?_)
  rw [← es2] at hw
  refine lv_aload_n hx hb dX6_init_12 rfl (lv_at hl 0 rfl) ?_
  refine lv_bipush (v := 10) hx hb dX6_init_13 (by decide) ?_
  obtain ⟨st3, es3⟩ : ∃ z : St, z = sZ st2 26 := ⟨_, rfl⟩
  replace hf := bnd_nm hf es3
  refine n_newa (t := 1) (atype := .int) (N' := 10) C hw ka_int (C.2.1.2 1 _ rfl).2 (EK_26 X _ _) (fun cA => by rw [vp_cell_i]; rfl) (by decide) (by decide) (by decide) (Nat.le_of_ble_eq_true rfl) (Nat.le_of_ble_eq_true rfl) dX6_init_15 (fun H hw => ?_)
  rw [← es3] at hw
  obtain ⟨st4, es4⟩ : ∃ z : St, z = sI st3 24 6 (nI 26) := ⟨_, rfl⟩
  replace hf := bnd_nm hf es4
  refine n_put (T := TX6) (st' := sI st3 24 6 (nI 26)) C hw (by decide) 6 kf_X6_17 (EK_24 X _ _) rfl inA6 tyX6_ok nmX6 (by decide) (Or.inr ⟨rfl, rfl⟩) rfl rfl rfl (Nat.le_of_ble_eq_true rfl) (by rw [gI_sI, gL_sI, EK_24, rfN_up X _ _ (by decide) (by decide)]; rfl) (sI_o _ _ _ _) dX6_init_17 (fun H locs hw => ?_)
  rw [← es4] at hw
  refine lv_aload_n hx hb dX6_init_20 rfl (lv_at hl 0 rfl) ?_
  refine lv_aload_n hx hb dX6_init_21 rfl (lv_at hl 1 rfl) ?_
  obtain ⟨st5, es5⟩ : ∃ z : St, z = sI st4 24 4 (nI 1) := ⟨_, rfl⟩
  replace hf := bnd_nm hf es5
  refine n_put (T := TX6) (st' := sI st4 24 4 (nI 1)) C hw (by decide) 4 kf_X6_20 (EK_24 X _ _) rfl inA6 tyX6_ok nmX6 (by decide) (Or.inr ⟨rfl, rfl⟩) rfl rfl rfl (Nat.le_of_ble_eq_true rfl) (by rw [gI_sI, gL_sI, EK_24, rfN_up X _ _ (by decide) (by decide)]; rfl) (sI_o _ _ _ _) dX6_init_22 (fun H locs hw => ?_)
  rw [← es5] at hw
  refine lv_aload_n hx hb dX6_init_25 rfl (lv_at hl 0 rfl) ?_
  refine lv_aload_n hx hb dX6_init_26 rfl (lv_at hl 2 rfl) ?_
  obtain ⟨st6, es6⟩ : ∃ z : St, z = sI st5 24 5 (nI 17) := ⟨_, rfl⟩
  replace hf := bnd_nm hf es6
  refine n_put (T := TX6) (st' := sI st5 24 5 (nI 17)) C hw (by decide) 5 kf_X6_24 (EK_24 X _ _) rfl inA6 tyX6_ok nmX6 (by decide) (Or.inr ⟨rfl, rfl⟩) rfl rfl rfl (Nat.le_of_ble_eq_true rfl) (by rw [gI_sI, gL_sI, EK_24, rfN_up X _ _ (by decide) (by decide)]; rfl) (sI_o _ _ _ _) dX6_init_27 (fun H locs hw => ?_)
  rw [← es6] at hw
  exact n_ret C hw rfl hf rfl rfl dX6_init_30
theorem ok_yX9_init : yOk yX9_init 2 := ⟨by decide +kernel, by decide +kernel, by decide +kernel⟩
def kX9_init (st : St) : St := bnd (sZ st 28) (fun st1 => bnd (sI st1 27 4 (nI 28)) (fun st2 => bnd (sZ st2 29) (fun st3 => bnd (sI st3 27 5 (nI 29)) (fun st4 => bnd (sZ st4 30) (fun st5 => bnd (sI st5 27 6 (nI 30)) (fun st6 => bnd (sZ st6 31) (fun st7 => bnd (sI st7 27 7 (nI 31)) (fun st8 => bnd (sI st8 27 2 (nI 1)) (fun st9 => bnd (sI st9 27 3 (nI 24)) (fun st10 => st10))))))))))
set_option maxHeartbeats 4000000 in
theorem mX9_init (l : Launch) (X : WX) (B : Nat) (st R : St) (hf : kX9_init st = R) : CtN l yX9_init cX9_init 3 { frames := 1, cells := 4, slots := 40, locals := 12 } EK 28 32 X B [.ref (xq X 27), .ref (xq X 1), .ref (xq X 24)] st R 4 40 := by
  refine ctN_in (own := RX9) (by decide +kernel) rfl rfl (Nat.le_of_ble_eq_true rfl) (fun p e s m below meth c C hw ls hl => ?_)
  obtain ⟨hx, hb, hml, hown, hts⟩ := id C.1
  have hl : lv_has ls 3 [(0, .ref (xq X 27)), (1, .ref (xq X 1)), (2, .ref (xq X 24))] := hl
  unfold kX9_init at hf
  refine lv_aload_n hx hb dX9_init_0 rfl (lv_at hl 0 rfl) ?_
  refine n_obj C hl.1 km_X9_3 dX9_init_1 (Nat.le_of_ble_eq_true rfl) (Nat.le_of_ble_eq_true rfl) ?_
  refine lv_aload_n hx hb dX9_init_4 rfl (lv_at hl 0 rfl) ?_
  refine lv_bipush (v := 10) hx hb dX9_init_5 (by decide) ?_
  obtain ⟨st1, es1⟩ : ∃ z : St, z = sZ st 28 := ⟨_, rfl⟩
  replace hf := bnd_nm hf es1
  refine n_newa (t := 1) (atype := .int) (N' := 10) C hw ka_int (C.2.1.2 1 _ rfl).2 (EK_28 X _ _) (fun cA => by rw [vp_cell_i]; rfl) (by decide) (by decide) (by decide) (Nat.le_of_ble_eq_true rfl) (Nat.le_of_ble_eq_true rfl) dX9_init_7 (fun H hw => ?_)
  rw [← es1] at hw
  obtain ⟨st2, es2⟩ : ∃ z : St, z = sI st1 27 4 (nI 28) := ⟨_, rfl⟩
  replace hf := bnd_nm hf es2
  refine n_put (T := TX9) (st' := sI st1 27 4 (nI 28)) C hw (by decide) 4 kf_X9_11 (EK_27 X _ _) rfl inA9 tyX9_ok nmX9 (by decide) (Or.inr ⟨rfl, rfl⟩) rfl rfl rfl (Nat.le_of_ble_eq_true rfl) (by rw [gI_sI, gL_sI, EK_27, rfN_up X _ _ (by decide) (by decide)]; rfl) (sI_o _ _ _ _) dX9_init_9 (fun H locs hw => ?_)
  rw [← es2] at hw
  refine lv_aload_n hx hb dX9_init_12 rfl (lv_at hl 0 rfl) ?_
  refine lv_bipush (v := 10) hx hb dX9_init_13 (by decide) ?_
  obtain ⟨st3, es3⟩ : ∃ z : St, z = sZ st2 29 := ⟨_, rfl⟩
  replace hf := bnd_nm hf es3
  refine n_newa (t := 1) (atype := .int) (N' := 10) C hw ka_int (C.2.1.2 1 _ rfl).2 (EK_29 X _ _) (fun cA => by rw [vp_cell_i]; rfl) (by decide) (by decide) (by decide) (Nat.le_of_ble_eq_true rfl) (Nat.le_of_ble_eq_true rfl) dX9_init_15 (fun H hw => ?_)
  rw [← es3] at hw
  obtain ⟨st4, es4⟩ : ∃ z : St, z = sI st3 27 5 (nI 29) := ⟨_, rfl⟩
  replace hf := bnd_nm hf es4
  refine n_put (T := TX9) (st' := sI st3 27 5 (nI 29)) C hw (by decide) 5 kf_X9_17 (EK_27 X _ _) rfl inA9 tyX9_ok nmX9 (by decide) (Or.inr ⟨rfl, rfl⟩) rfl rfl rfl (Nat.le_of_ble_eq_true rfl) (by rw [gI_sI, gL_sI, EK_27, rfN_up X _ _ (by decide) (by decide)]; rfl) (sI_o _ _ _ _) dX9_init_17 (fun H locs hw => ?_)
  rw [← es4] at hw
  refine lv_aload_n hx hb dX9_init_20 rfl (lv_at hl 0 rfl) ?_
  refine lv_bipush (v := 10) hx hb dX9_init_21 (by decide) ?_
  obtain ⟨st5, es5⟩ : ∃ z : St, z = sZ st4 30 := ⟨_, rfl⟩
  replace hf := bnd_nm hf es5
  refine n_newa (t := 1) (atype := .int) (N' := 10) C hw ka_int (C.2.1.2 1 _ rfl).2 (EK_30 X _ _) (fun cA => by rw [vp_cell_i]; rfl) (by decide) (by decide) (by decide) (Nat.le_of_ble_eq_true rfl) (Nat.le_of_ble_eq_true rfl) dX9_init_23 (fun H hw => ?_)
  rw [← es5] at hw
  obtain ⟨st6, es6⟩ : ∃ z : St, z = sI st5 27 6 (nI 30) := ⟨_, rfl⟩
  replace hf := bnd_nm hf es6
  refine n_put (T := TX9) (st' := sI st5 27 6 (nI 30)) C hw (by decide) 6 kf_X9_20 (EK_27 X _ _) rfl inA9 tyX9_ok nmX9 (by decide) (Or.inr ⟨rfl, rfl⟩) rfl rfl rfl (Nat.le_of_ble_eq_true rfl) (by rw [gI_sI, gL_sI, EK_27, rfN_up X _ _ (by decide) (by decide)]; rfl) (sI_o _ _ _ _) dX9_init_25 (fun H locs hw => ?_)
  rw [← es6] at hw
  refine lv_aload_n hx hb dX9_init_28 rfl (lv_at hl 0 rfl) ?_
  refine lv_bipush (v := 10) hx hb dX9_init_29 (by decide) ?_
  obtain ⟨st7, es7⟩ : ∃ z : St, z = sZ st6 31 := ⟨_, rfl⟩
  replace hf := bnd_nm hf es7
  refine n_newa (t := 1) (atype := .int) (N' := 10) C hw ka_int (C.2.1.2 1 _ rfl).2 (EK_31 X _ _) (fun cA => by rw [vp_cell_i]; rfl) (by decide) (by decide) (by decide) (Nat.le_of_ble_eq_true rfl) (Nat.le_of_ble_eq_true rfl) dX9_init_31 (fun H hw => ?_)
  rw [← es7] at hw
  obtain ⟨st8, es8⟩ : ∃ z : St, z = sI st7 27 7 (nI 31) := ⟨_, rfl⟩
  replace hf := bnd_nm hf es8
  refine n_put (T := TX9) (st' := sI st7 27 7 (nI 31)) C hw (by decide) 7 kf_X9_23 (EK_27 X _ _) rfl inA9 tyX9_ok nmX9 (by decide) (Or.inr ⟨rfl, rfl⟩) rfl rfl rfl (Nat.le_of_ble_eq_true rfl) (by rw [gI_sI, gL_sI, EK_27, rfN_up X _ _ (by decide) (by decide)]; rfl) (sI_o _ _ _ _) dX9_init_33 (fun H locs hw => ?_)
  rw [← es8] at hw
  refine lv_aload_n hx hb dX9_init_36 rfl (lv_at hl 0 rfl) ?_
  refine lv_aload_n hx hb dX9_init_37 rfl (lv_at hl 1 rfl) ?_
  obtain ⟨st9, es9⟩ : ∃ z : St, z = sI st8 27 2 (nI 1) := ⟨_, rfl⟩
  replace hf := bnd_nm hf es9
  refine n_put (T := TX9) (st' := sI st8 27 2 (nI 1)) C hw (by decide) 2 kf_X9_26 (EK_27 X _ _) rfl inA9 tyX9_ok nmX9 (by decide) (Or.inr ⟨rfl, rfl⟩) rfl rfl rfl (Nat.le_of_ble_eq_true rfl) (by rw [gI_sI, gL_sI, EK_27, rfN_up X _ _ (by decide) (by decide)]; rfl) (sI_o _ _ _ _) dX9_init_38 (fun H locs hw => ?_)
  rw [← es9] at hw
  refine lv_aload_n hx hb dX9_init_41 rfl (lv_at hl 0 rfl) ?_
  refine lv_aload_n hx hb dX9_init_42 rfl (lv_at hl 2 rfl) ?_
  obtain ⟨st10, es10⟩ : ∃ z : St, z = sI st9 27 3 (nI 24) := ⟨_, rfl⟩
  replace hf := bnd_nm hf es10
  refine n_put (T := TX9) (st' := sI st9 27 3 (nI 24)) C hw (by decide) 3 kf_X9_30 (EK_27 X _ _) rfl inA9 tyX9_ok nmX9 (by decide) (Or.inr ⟨rfl, rfl⟩) rfl rfl rfl (Nat.le_of_ble_eq_true rfl) (by rw [gI_sI, gL_sI, EK_27, rfN_up X _ _ (by decide) (by decide)]; rfl) (sI_o _ _ _ _) dX9_init_43 (fun H locs hw => ?_)
  rw [← es10] at hw
  exact n_ret C hw rfl hf rfl rfl dX9_init_46
theorem ok_yX10_init : yOk yX10_init 2 := ⟨by decide +kernel, by decide +kernel, by decide +kernel⟩
def kX10_init (st : St) : St := bnd (sZ st 33) (fun st1 => bnd (sI st1 32 4 (nI 33)) (fun st2 => bnd (sZ st2 34) (fun st3 => bnd (sI st3 32 5 (nI 34)) (fun st4 => bnd (sZ st4 35) (fun st5 => bnd (sI st5 32 6 (nI 35)) (fun st6 => bnd (sI st6 32 2 (nI 1)) (fun st7 => bnd (sI st7 32 3 (nI 24)) (fun st8 => st8))))))))
set_option maxHeartbeats 4000000 in
theorem mX10_init (l : Launch) (X : WX) (B : Nat) (st R : St) (hf : kX10_init st = R) : CtN l yX10_init cX10_init 3 { frames := 1, cells := 3, slots := 30, locals := 12 } EK 33 36 X B [.ref (xq X 32), .ref (xq X 1), .ref (xq X 24)] st R 3 30 := by
  refine ctN_in (own := RX10) (by decide +kernel) rfl rfl (Nat.le_of_ble_eq_true rfl) (fun p e s m below meth c C hw ls hl => ?_)
  obtain ⟨hx, hb, hml, hown, hts⟩ := id C.1
  have hl : lv_has ls 3 [(0, .ref (xq X 32)), (1, .ref (xq X 1)), (2, .ref (xq X 24))] := hl
  unfold kX10_init at hf
  refine lv_aload_n hx hb dX10_init_0 rfl (lv_at hl 0 rfl) ?_
  refine n_obj C hl.1 km_X10_3 dX10_init_1 (Nat.le_of_ble_eq_true rfl) (Nat.le_of_ble_eq_true rfl) ?_
  refine lv_aload_n hx hb dX10_init_4 rfl (lv_at hl 0 rfl) ?_
  refine lv_bipush (v := 10) hx hb dX10_init_5 (by decide) ?_
  obtain ⟨st1, es1⟩ : ∃ z : St, z = sZ st 33 := ⟨_, rfl⟩
  replace hf := bnd_nm hf es1
  refine n_newa (t := 1) (atype := .int) (N' := 10) C hw ka_int (C.2.1.2 1 _ rfl).2 (EK_33 X _ _) (fun cA => by rw [vp_cell_i]; rfl) (by decide) (by decide) (by decide) (Nat.le_of_ble_eq_true rfl) (Nat.le_of_ble_eq_true rfl) dX10_init_7 (fun H hw => ?_)
  rw [← es1] at hw
  obtain ⟨st2, es2⟩ : ∃ z : St, z = sI st1 32 4 (nI 33) := ⟨_, rfl⟩
  replace hf := bnd_nm hf es2
  refine n_put (T := TX10) (st' := sI st1 32 4 (nI 33)) C hw (by decide) 4 kf_X10_11 (EK_32 X _ _) rfl inA10 tyX10_ok nmX10 (by decide) (Or.inr ⟨rfl, rfl⟩) rfl rfl rfl (Nat.le_of_ble_eq_true rfl) (by rw [gI_sI, gL_sI, EK_32, rfN_up X _ _ (by decide) (by decide)]; rfl) (sI_o _ _ _ _) dX10_init_9 (fun H locs hw => ?_)
  rw [← es2] at hw
  refine lv_aload_n hx hb dX10_init_12 rfl (lv_at hl 0 rfl) ?_
  refine lv_bipush (v := 10) hx hb dX10_init_13 (by decide) ?_
  obtain ⟨st3, es3⟩ : ∃ z : St, z = sZ st2 34 := ⟨_, rfl⟩
  replace hf := bnd_nm hf es3
  refine n_newa (t := 1) (atype := .int) (N' := 10) C hw ka_int (C.2.1.2 1 _ rfl).2 (EK_34 X _ _) (fun cA => by rw [vp_cell_i]; rfl) (by decide) (by decide) (by decide) (Nat.le_of_ble_eq_true rfl) (Nat.le_of_ble_eq_true rfl) dX10_init_15 (fun H hw => ?_)
  rw [← es3] at hw
  obtain ⟨st4, es4⟩ : ∃ z : St, z = sI st3 32 5 (nI 34) := ⟨_, rfl⟩
  replace hf := bnd_nm hf es4
  refine n_put (T := TX10) (st' := sI st3 32 5 (nI 34)) C hw (by decide) 5 kf_X10_17 (EK_32 X _ _) rfl inA10 tyX10_ok nmX10 (by decide) (Or.inr ⟨rfl, rfl⟩) rfl rfl rfl (Nat.le_of_ble_eq_true rfl) (by rw [gI_sI, gL_sI, EK_32, rfN_up X _ _ (by decide) (by decide)]; rfl) (sI_o _ _ _ _) dX10_init_17 (fun H locs hw => ?_)
  rw [← es4] at hw
  refine lv_aload_n hx hb dX10_init_20 rfl (lv_at hl 0 rfl) ?_
  refine lv_bipush (v := 10) hx hb dX10_init_21 (by decide) ?_
  obtain ⟨st5, es5⟩ : ∃ z : St, z = sZ st4 35 := ⟨_, rfl⟩
  replace hf := bnd_nm hf es5
  refine n_newa (t := 1) (atype := .int) (N' := 10) C hw ka_int (C.2.1.2 1 _ rfl).2 (EK_35 X _ _) (fun cA => by rw [vp_cell_i]; rfl) (by decide) (by decide) (by decide) (Nat.le_of_ble_eq_true rfl) (Nat.le_of_ble_eq_true rfl) dX10_init_23 (fun H hw => ?_)
  rw [← es5] at hw
  obtain ⟨st6, es6⟩ : ∃ z : St, z = sI st5 32 6 (nI 35) := ⟨_, rfl⟩
  replace hf := bnd_nm hf es6
  refine n_put (T := TX10) (st' := sI st5 32 6 (nI 35)) C hw (by decide) 6 kf_X10_20 (EK_32 X _ _) rfl inA10 tyX10_ok nmX10 (by decide) (Or.inr ⟨rfl, rfl⟩) rfl rfl rfl (Nat.le_of_ble_eq_true rfl) (by rw [gI_sI, gL_sI, EK_32, rfN_up X _ _ (by decide) (by decide)]; rfl) (sI_o _ _ _ _) dX10_init_25 (fun H locs hw => ?_)
  rw [← es6] at hw
  refine lv_aload_n hx hb dX10_init_28 rfl (lv_at hl 0 rfl) ?_
  refine lv_aload_n hx hb dX10_init_29 rfl (lv_at hl 1 rfl) ?_
  obtain ⟨st7, es7⟩ : ∃ z : St, z = sI st6 32 2 (nI 1) := ⟨_, rfl⟩
  replace hf := bnd_nm hf es7
  refine n_put (T := TX10) (st' := sI st6 32 2 (nI 1)) C hw (by decide) 2 kf_X10_23 (EK_32 X _ _) rfl inA10 tyX10_ok nmX10 (by decide) (Or.inr ⟨rfl, rfl⟩) rfl rfl rfl (Nat.le_of_ble_eq_true rfl) (by rw [gI_sI, gL_sI, EK_32, rfN_up X _ _ (by decide) (by decide)]; rfl) (sI_o _ _ _ _) dX10_init_30 (fun H locs hw => ?_)
  rw [← es7] at hw
  refine lv_aload_n hx hb dX10_init_33 rfl (lv_at hl 0 rfl) ?_
  refine lv_aload_n hx hb dX10_init_34 rfl (lv_at hl 2 rfl) ?_
  obtain ⟨st8, es8⟩ : ∃ z : St, z = sI st7 32 3 (nI 24) := ⟨_, rfl⟩
  replace hf := bnd_nm hf es8
  refine n_put (T := TX10) (st' := sI st7 32 3 (nI 24)) C hw (by decide) 3 kf_X10_27 (EK_32 X _ _) rfl inA10 tyX10_ok nmX10 (by decide) (Or.inr ⟨rfl, rfl⟩) rfl rfl rfl (Nat.le_of_ble_eq_true rfl) (by rw [gI_sI, gL_sI, EK_32, rfN_up X _ _ (by decide) (by decide)]; rfl) (sI_o _ _ _ _) dX10_init_35 (fun H locs hw => ?_)
  rw [← es8] at hw
  exact n_ret C hw rfl hf rfl rfl dX10_init_38
theorem ok_yX8_init : yOk yX8_init 1 := ⟨by decide +kernel, by decide +kernel, by decide +kernel⟩
def kX8_init (st : St) : St := bnd (sZ st 37) (fun st1 => bnd (sI st1 36 5 (nI 37)) (fun st2 => bnd (sZ st2 38) (fun st3 => bnd (sI st3 36 6 (nI 38)) (fun st4 => bnd (sI st4 36 4 (nI 1)) (fun st5 => st5)))))
set_option maxHeartbeats 4000000 in
theorem mX8_init (l : Launch) (X : WX) (B : Nat) (st R : St) (hf : kX8_init st = R) : CtN l yX8_init cX8_init 2 { frames := 1, cells := 2, slots := 420, locals := 12 } EK 37 39 X B [.ref (xq X 36), .ref (xq X 1)] st R 2 420 := by
  refine ctN_in (own := RX8) (by decide +kernel) rfl rfl (Nat.le_of_ble_eq_true rfl) (fun p e s m below meth c C hw ls hl => ?_)
  obtain ⟨hx, hb, hml, hown, hts⟩ := id C.1
  have hl : lv_has ls 2 [(0, .ref (xq X 36)), (1, .ref (xq X 1))] := hl
  unfold kX8_init at hf
  refine lv_aload_n hx hb dX8_init_0 rfl (lv_at hl 0 rfl) ?_
  refine n_obj C hl.1 km_X8_3 dX8_init_1 (Nat.le_of_ble_eq_true rfl) (Nat.le_of_ble_eq_true rfl) ?_
  refine lv_aload_n hx hb dX8_init_4 rfl (lv_at hl 0 rfl) ?_
  refine lv_sipush (v := 400) hx hb dX8_init_5 (by decide) ?_
  obtain ⟨st1, es1⟩ : ∃ z : St, z = sZ st 37 := ⟨_, rfl⟩
  replace hf := bnd_nm hf es1
  refine n_newa (t := 1) (atype := .int) (N' := 400) C hw ka_int (C.2.1.2 1 _ rfl).2 (EK_37 X _ _) (fun cA => by rw [vp_cell_i]; rfl) (by decide) (by decide) (by decide) (Nat.le_of_ble_eq_true rfl) (Nat.le_of_ble_eq_true rfl) dX8_init_8 (fun H hw => ?_)
  rw [← es1] at hw
  obtain ⟨st2, es2⟩ : ∃ z : St, z = sI st1 36 5 (nI 37) := ⟨_, rfl⟩
  replace hf := bnd_nm hf es2
  refine n_put (T := TX8) (st' := sI st1 36 5 (nI 37)) C hw (by decide) 5 kf_X8_9 (EK_36 X _ _) rfl inA8 tyX8_ok nmX8 (by decide) (Or.inr ⟨rfl, rfl⟩) rfl rfl rfl (Nat.le_of_ble_eq_true rfl) (by rw [gI_sI, gL_sI, EK_36, rfN_up X _ _ (by decide) (by decide)]; rfl) (sI_o _ _ _ _) dX8_init_10 (fun H locs hw => ?_)
  rw [← es2] at hw
  refine lv_aload_n hx hb dX8_init_13 rfl (lv_at hl 0 rfl) ?_
  refine lv_bipush (v := 20) hx hb dX8_init_14 (by decide) ?_
  obtain ⟨st3, es3⟩ : ∃ z : St, z = sZ st2 38 := ⟨_, rfl⟩
  replace hf := bnd_nm hf es3
  refine n_newa (t := 1) (atype := .int) (N' := 20) C hw ka_int (C.2.1.2 1 _ rfl).2 (EK_38 X _ _) (fun cA => by rw [vp_cell_i]; rfl) (by decide) (by decide) (by decide) (Nat.le_of_ble_eq_true rfl) (Nat.le_of_ble_eq_true rfl) dX8_init_16 (fun H hw => ?_)
  rw [← es3] at hw
  obtain ⟨st4, es4⟩ : ∃ z : St, z = sI st3 36 6 (nI 38) := ⟨_, rfl⟩
  replace hf := bnd_nm hf es4
  refine n_put (T := TX8) (st' := sI st3 36 6 (nI 38)) C hw (by decide) 6 kf_X8_15 (EK_36 X _ _) rfl inA8 tyX8_ok nmX8 (by decide) (Or.inr ⟨rfl, rfl⟩) rfl rfl rfl (Nat.le_of_ble_eq_true rfl) (by rw [gI_sI, gL_sI, EK_36, rfN_up X _ _ (by decide) (by decide)]; rfl) (sI_o _ _ _ _) dX8_init_18 (fun H locs hw => ?_)
  rw [← es4] at hw
  refine lv_aload_n hx hb dX8_init_21 rfl (lv_at hl 0 rfl) ?_
  refine lv_aload_n hx hb dX8_init_22 rfl (lv_at hl 1 rfl) ?_
  obtain ⟨st5, es5⟩ : ∃ z : St, z = sI st4 36 4 (nI 1) := ⟨_, rfl⟩
  replace hf := bnd_nm hf es5
  refine n_put (T := TX8) (st' := sI st4 36 4 (nI 1)) C hw (by decide) 4 kf_X8_18 (EK_36 X _ _) rfl inA8 tyX8_ok nmX8 (by decide) (Or.inr ⟨rfl, rfl⟩) rfl rfl rfl (Nat.le_of_ble_eq_true rfl) (by rw [gI_sI, gL_sI, EK_36, rfN_up X _ _ (by decide) (by decide)]; rfl) (sI_o _ _ _ _) dX8_init_23 (fun H locs hw => ?_)
  rw [← es5] at hw
  exact n_ret C hw rfl hf rfl rfl dX8_init_26
theorem ok_yX2_init : yOk yX2_init 0 := ⟨by decide +kernel, by decide +kernel, by decide +kernel⟩
def kX2_init (st : St) : St := bnd (sZ st 40) (fun st1 => bnd (sI st1 39 0 (nI 40)) (fun st2 => st2))
set_option maxHeartbeats 4000000 in
theorem mX2_init (l : Launch) (X : WX) (B : Nat) (st R : St) (hf : kX2_init st = R) : CtN l yX2_init cX2_init 1 { frames := 1, cells := 1, slots := 36, locals := 12 } EK 40 41 X B [.ref (xq X 39)] st R 1 36 := by
  refine ctN_in (own := RX2) (by decide +kernel) rfl rfl (Nat.le_of_ble_eq_true rfl) (fun p e s m below meth c C hw ls hl => ?_)
  obtain ⟨hx, hb, hml, hown, hts⟩ := id C.1
  have hl : lv_has ls 1 [(0, .ref (xq X 39))] := hl
  unfold kX2_init at hf
  refine lv_aload_n hx hb dX2_init_0 rfl (lv_at hl 0 rfl) ?_
  refine n_obj C hl.1 km_X2_3 dX2_init_1 (Nat.le_of_ble_eq_true rfl) (Nat.le_of_ble_eq_true rfl) ?_
  refine lv_aload_n hx hb dX2_init_4 rfl (lv_at hl 0 rfl) ?_
  refine lv_bipush (v := 36) hx hb dX2_init_5 (by decide) ?_
  obtain ⟨st1, es1⟩ : ∃ z : St, z = sZ st 40 := ⟨_, rfl⟩
  replace hf := bnd_nm hf es1
  refine n_newa (t := 1) (atype := .int) (N' := 36) C hw ka_int (C.2.1.2 1 _ rfl).2 (EK_40 X _ _) (fun cA => by rw [vp_cell_i]; rfl) (by decide) (by decide) (by decide) (Nat.le_of_ble_eq_true rfl) (Nat.le_of_ble_eq_true rfl) dX2_init_7 (fun H hw => ?_)
  rw [← es1] at hw
  obtain ⟨st2, es2⟩ : ∃ z : St, z = sI st1 39 0 (nI 40) := ⟨_, rfl⟩
  replace hf := bnd_nm hf es2
  refine n_put (T := TX2) (st' := sI st1 39 0 (nI 40)) C hw (by decide) 0 kf_X2_9 (EK_39 X _ _) rfl inA2 tyX2_ok nmX2 (by decide) (Or.inr ⟨rfl, rfl⟩) rfl rfl rfl (Nat.le_of_ble_eq_true rfl) (by rw [gI_sI, gL_sI, EK_39, rfN_up X _ _ (by decide) (by decide)]; rfl) (sI_o _ _ _ _) dX2_init_9 (fun H locs hw => ?_)
  rw [← es2] at hw
  exact n_ret C hw rfl hf rfl rfl dX2_init_12
def kX2_init_2 (st : St) : St := bnd (sZ st 42) (fun st1 => bnd (sI st1 41 0 (nI 42)) (fun st2 => st2))
set_option maxHeartbeats 4000000 in
theorem mX2_init_2 (l : Launch) (X : WX) (B : Nat) (st R : St) (hf : kX2_init_2 st = R) : CtN l yX2_init cX2_init 1 { frames := 1, cells := 1, slots := 36, locals := 12 } EK 42 43 X B [.ref (xq X 41)] st R 1 36 := by
  refine ctN_in (own := RX2) (by decide +kernel) rfl rfl (Nat.le_of_ble_eq_true rfl) (fun p e s m below meth c C hw ls hl => ?_)
  obtain ⟨hx, hb, hml, hown, hts⟩ := id C.1
  have hl : lv_has ls 1 [(0, .ref (xq X 41))] := hl
  unfold kX2_init_2 at hf
  refine lv_aload_n hx hb dX2_init_0 rfl (lv_at hl 0 rfl) ?_
  refine n_obj C hl.1 km_X2_3 dX2_init_1 (Nat.le_of_ble_eq_true rfl) (Nat.le_of_ble_eq_true rfl) ?_
  refine lv_aload_n hx hb dX2_init_4 rfl (lv_at hl 0 rfl) ?_
  refine lv_bipush (v := 36) hx hb dX2_init_5 (by decide) ?_
  obtain ⟨st1, es1⟩ : ∃ z : St, z = sZ st 42 := ⟨_, rfl⟩
  replace hf := bnd_nm hf es1
  refine n_newa (t := 1) (atype := .int) (N' := 36) C hw ka_int (C.2.1.2 1 _ rfl).2 (EK_42 X _ _) (fun cA => by rw [vp_cell_i]; rfl) (by decide) (by decide) (by decide) (Nat.le_of_ble_eq_true rfl) (Nat.le_of_ble_eq_true rfl) dX2_init_7 (fun H hw => ?_)
  rw [← es1] at hw
  obtain ⟨st2, es2⟩ : ∃ z : St, z = sI st1 41 0 (nI 42) := ⟨_, rfl⟩
  replace hf := bnd_nm hf es2
  refine n_put (T := TX2) (st' := sI st1 41 0 (nI 42)) C hw (by decide) 0 kf_X2_9 (EK_41 X _ _) rfl inA2 tyX2_ok nmX2 (by decide) (Or.inr ⟨rfl, rfl⟩) rfl rfl rfl (Nat.le_of_ble_eq_true rfl) (by rw [gI_sI, gL_sI, EK_41, rfN_up X _ _ (by decide) (by decide)]; rfl) (sI_o _ _ _ _) dX2_init_9 (fun H locs hw => ?_)
  rw [← es2] at hw
  exact n_ret C hw rfl hf rfl rfl dX2_init_12
theorem ok_yX1_init : yOk yX1_init 0 := ⟨by decide +kernel, by decide +kernel, by decide +kernel⟩
def kX1_init (st : St) : St := bnd (sZ st 45) (fun st1 => bnd (sI st1 44 2 (nI 45)) (fun st2 => bnd (sZ st2 46) (fun st3 => bnd (sI st3 44 3 (nI 46)) (fun st4 => bnd (sZ st4 47) (fun st5 => bnd (sI st5 44 4 (nI 47)) (fun st6 => bnd (sZ st6 48) (fun st7 => bnd (sI st7 44 5 (nI 48)) (fun st8 => st8))))))))
set_option maxHeartbeats 4000000 in
theorem mX1_init (l : Launch) (X : WX) (B : Nat) (st R : St) (hf : kX1_init st = R) : CtN l yX1_init cX1_init 1 { frames := 1, cells := 4, slots := 160, locals := 12 } EK 45 49 X B [.ref (xq X 44)] st R 4 160 := by
  refine ctN_in (own := RX1) (by decide +kernel) rfl rfl (Nat.le_of_ble_eq_true rfl) (fun p e s m below meth c C hw ls hl => ?_)
  obtain ⟨hx, hb, hml, hown, hts⟩ := id C.1
  have hl : lv_has ls 1 [(0, .ref (xq X 44))] := hl
  unfold kX1_init at hf
  refine lv_aload_n hx hb dX1_init_0 rfl (lv_at hl 0 rfl) ?_
  refine n_obj C hl.1 km_X1_1 dX1_init_1 (Nat.le_of_ble_eq_true rfl) (Nat.le_of_ble_eq_true rfl) ?_
  refine lv_aload_n hx hb dX1_init_4 rfl (lv_at hl 0 rfl) ?_
  refine lv_bipush (v := 40) hx hb dX1_init_5 (by decide) ?_
  obtain ⟨st1, es1⟩ : ∃ z : St, z = sZ st 45 := ⟨_, rfl⟩
  replace hf := bnd_nm hf es1
  refine n_newa (t := 1) (atype := .int) (N' := 40) C hw ka_int (C.2.1.2 1 _ rfl).2 (EK_45 X _ _) (fun cA => by rw [vp_cell_i]; rfl) (by decide) (by decide) (by decide) (Nat.le_of_ble_eq_true rfl) (Nat.le_of_ble_eq_true rfl) dX1_init_7 (fun H hw => ?_)
  rw [← es1] at hw
  obtain ⟨st2, es2⟩ : ∃ z : St, z = sI st1 44 2 (nI 45) := ⟨_, rfl⟩
  replace hf := bnd_nm hf es2
  refine n_put (T := TX1) (st' := sI st1 44 2 (nI 45)) C hw (by decide) 2 kf_X1_9 (EK_44 X _ _) rfl inA1 tyX1_ok nmX1 (by decide) (Or.inr ⟨rfl, rfl⟩) rfl rfl rfl (Nat.le_of_ble_eq_true rfl) (by rw [gI_sI, gL_sI, EK_44, rfN_up X _ _ (by decide) (by decide)]; rfl) (sI_o _ _ _ _) dX1_init_9 (fun H locs hw => ?_)
  rw [← es2] at hw
  refine lv_aload_n hx hb dX1_init_12 rfl (lv_at hl 0 rfl) ?_
  refine lv_bipush (v := 40) hx hb dX1_init_13 (by decide) ?_
  obtain ⟨st3, es3⟩ : ∃ z : St, z = sZ st2 46 := ⟨_, rfl⟩
  replace hf := bnd_nm hf es3
  refine n_newa (t := 1) (atype := .int) (N' := 40) C hw ka_int (C.2.1.2 1 _ rfl).2 (EK_46 X _ _) (fun cA => by rw [vp_cell_i]; rfl) (by decide) (by decide) (by decide) (Nat.le_of_ble_eq_true rfl) (Nat.le_of_ble_eq_true rfl) dX1_init_15 (fun H hw => ?_)
  rw [← es3] at hw
  obtain ⟨st4, es4⟩ : ∃ z : St, z = sI st3 44 3 (nI 46) := ⟨_, rfl⟩
  replace hf := bnd_nm hf es4
  refine n_put (T := TX1) (st' := sI st3 44 3 (nI 46)) C hw (by decide) 3 kf_X1_13 (EK_44 X _ _) rfl inA1 tyX1_ok nmX1 (by decide) (Or.inr ⟨rfl, rfl⟩) rfl rfl rfl (Nat.le_of_ble_eq_true rfl) (by rw [gI_sI, gL_sI, EK_44, rfN_up X _ _ (by decide) (by decide)]; rfl) (sI_o _ _ _ _) dX1_init_17 (fun H locs hw => ?_)
  rw [← es4] at hw
  refine lv_aload_n hx hb dX1_init_20 rfl (lv_at hl 0 rfl) ?_
  refine lv_bipush (v := 40) hx hb dX1_init_21 (by decide) ?_
  obtain ⟨st5, es5⟩ : ∃ z : St, z = sZ st4 47 := ⟨_, rfl⟩
  replace hf := bnd_nm hf es5
  refine n_newa (t := 1) (atype := .int) (N' := 40) C hw ka_int (C.2.1.2 1 _ rfl).2 (EK_47 X _ _) (fun cA => by rw [vp_cell_i]; rfl) (by decide) (by decide) (by decide) (Nat.le_of_ble_eq_true rfl) (Nat.le_of_ble_eq_true rfl) dX1_init_23 (fun H hw => ?_)
  rw [← es5] at hw
  obtain ⟨st6, es6⟩ : ∃ z : St, z = sI st5 44 4 (nI 47) := ⟨_, rfl⟩
  replace hf := bnd_nm hf es6
  refine n_put (T := TX1) (st' := sI st5 44 4 (nI 47)) C hw (by decide) 4 kf_X1_16 (EK_44 X _ _) rfl inA1 tyX1_ok nmX1 (by decide) (Or.inr ⟨rfl, rfl⟩) rfl rfl rfl (Nat.le_of_ble_eq_true rfl) (by rw [gI_sI, gL_sI, EK_44, rfN_up X _ _ (by decide) (by decide)]; rfl) (sI_o _ _ _ _) dX1_init_25 (fun H locs hw => ?_)
  rw [← es6] at hw
  refine lv_aload_n hx hb dX1_init_28 rfl (lv_at hl 0 rfl) ?_
  refine lv_bipush (v := 40) hx hb dX1_init_29 (by decide) ?_
  obtain ⟨st7, es7⟩ : ∃ z : St, z = sZ st6 48 := ⟨_, rfl⟩
  replace hf := bnd_nm hf es7
  refine n_newa (t := 1) (atype := .int) (N' := 40) C hw ka_int (C.2.1.2 1 _ rfl).2 (EK_48 X _ _) (fun cA => by rw [vp_cell_i]; rfl) (by decide) (by decide) (by decide) (Nat.le_of_ble_eq_true rfl) (Nat.le_of_ble_eq_true rfl) dX1_init_31 (fun H hw => ?_)
  rw [← es7] at hw
  obtain ⟨st8, es8⟩ : ∃ z : St, z = sI st7 44 5 (nI 48) := ⟨_, rfl⟩
  replace hf := bnd_nm hf es8
  refine n_put (T := TX1) (st' := sI st7 44 5 (nI 48)) C hw (by decide) 5 kf_X1_19 (EK_44 X _ _) rfl inA1 tyX1_ok nmX1 (by decide) (Or.inr ⟨rfl, rfl⟩) rfl rfl rfl (Nat.le_of_ble_eq_true rfl) (by rw [gI_sI, gL_sI, EK_44, rfN_up X _ _ (by decide) (by decide)]; rfl) (sI_o _ _ _ _) dX1_init_33 (fun H locs hw => ?_)
  rw [← es8] at hw
  exact n_ret C hw rfl hf rfl rfl dX1_init_36
theorem ok_yX0_init : yOk yX0_init 0 := ⟨by decide +kernel, by decide +kernel, by decide +kernel⟩
def kX0_init (st : St) : St := bnd (sZ st 50) (fun st1 => bnd (sI st1 49 0 (nI 50)) (fun st2 => bnd (sZ st2 51) (fun st3 => bnd (sI st3 49 2 (nI 51)) (fun st4 => st4))))
set_option maxHeartbeats 4000000 in
theorem mX0_init (l : Launch) (X : WX) (B : Nat) (st R : St) (hf : kX0_init st = R) : CtN l yX0_init cX0_init 1 { frames := 1, cells := 2, slots := 74, locals := 12 } EK 50 52 X B [.ref (xq X 49)] st R 2 74 := by
  refine ctN_in (own := RX0) (by decide +kernel) rfl rfl (Nat.le_of_ble_eq_true rfl) (fun p e s m below meth c C hw ls hl => ?_)
  obtain ⟨hx, hb, hml, hown, hts⟩ := id C.1
  have hl : lv_has ls 1 [(0, .ref (xq X 49))] := hl
  unfold kX0_init at hf
  refine lv_aload_n hx hb dX0_init_0 rfl (lv_at hl 0 rfl) ?_
  refine n_obj C hl.1 km_X0_1 dX0_init_1 (Nat.le_of_ble_eq_true rfl) (Nat.le_of_ble_eq_true rfl) ?_
  refine lv_aload_n hx hb dX0_init_4 rfl (lv_at hl 0 rfl) ?_
  refine lv_bipush (v := 50) hx hb dX0_init_5 (by decide) ?_
  obtain ⟨st1, es1⟩ : ∃ z : St, z = sZ st 50 := ⟨_, rfl⟩
  replace hf := bnd_nm hf es1
  refine n_newa (t := 1) (atype := .int) (N' := 50) C hw ka_int (C.2.1.2 1 _ rfl).2 (EK_50 X _ _) (fun cA => by rw [vp_cell_i]; rfl) (by decide) (by decide) (by decide) (Nat.le_of_ble_eq_true rfl) (Nat.le_of_ble_eq_true rfl) dX0_init_7 (fun H hw => ?_)
  rw [← es1] at hw
  obtain ⟨st2, es2⟩ : ∃ z : St, z = sI st1 49 0 (nI 50) := ⟨_, rfl⟩
  replace hf := bnd_nm hf es2
  refine n_put (T := TX0) (st' := sI st1 49 0 (nI 50)) C hw (by decide) 0 kf_X0_9 (EK_49 X _ _) rfl inA0 tyX0_ok nmX0 (by decide) (Or.inr ⟨rfl, rfl⟩) rfl rfl rfl (Nat.le_of_ble_eq_true rfl) (by rw [gI_sI, gL_sI, EK_49, rfN_up X _ _ (by decide) (by decide)]; rfl) (sI_o _ _ _ _) dX0_init_9 (fun H locs hw => ?_)
  rw [← es2] at hw
  refine lv_aload_n hx hb dX0_init_12 rfl (lv_at hl 0 rfl) ?_
  refine lv_bipush (v := 24) hx hb dX0_init_13 (by decide) ?_
  obtain ⟨st3, es3⟩ : ∃ z : St, z = sZ st2 51 := ⟨_, rfl⟩
  replace hf := bnd_nm hf es3
  refine n_newa (t := 1) (atype := .int) (N' := 24) C hw ka_int (C.2.1.2 1 _ rfl).2 (EK_51 X _ _) (fun cA => by rw [vp_cell_i]; rfl) (by decide) (by decide) (by decide) (Nat.le_of_ble_eq_true rfl) (Nat.le_of_ble_eq_true rfl) dX0_init_15 (fun H hw => ?_)
  rw [← es3] at hw
  obtain ⟨st4, es4⟩ : ∃ z : St, z = sI st3 49 2 (nI 51) := ⟨_, rfl⟩
  replace hf := bnd_nm hf es4
  refine n_put (T := TX0) (st' := sI st3 49 2 (nI 51)) C hw (by decide) 2 kf_X0_13 (EK_49 X _ _) rfl inA0 tyX0_ok nmX0 (by decide) (Or.inr ⟨rfl, rfl⟩) rfl rfl rfl (Nat.le_of_ble_eq_true rfl) (by rw [gI_sI, gL_sI, EK_49, rfN_up X _ _ (by decide) (by decide)]; rfl) (sI_o _ _ _ _) dX0_init_17 (fun H locs hw => ?_)
  rw [← es4] at hw
  exact n_ret C hw rfl hf rfl rfl dX0_init_20
theorem ok_yX12_init : yOk yX12_init 0 := ⟨by decide +kernel, by decide +kernel, by decide +kernel⟩
def kX12_init (st : St) : St := bnd (sZ st 1) (fun st1 => bnd (sI st1 0 2 (nI 1)) (fun st2 => bnd (sZ st2 2) (fun st3 => bnd (sI st3 0 3 (nI 2)) (fun st4 => bnd (sZ st4 3) (fun st5 => bnd (sI st5 0 4 (nI 3)) (fun st6 => bnd (sZ st6 4) (fun st7 => bnd (sI st7 0 5 (nI 4)) (fun st8 => bnd (sZ st8 5) (fun st9 => bnd (sI st9 0 6 (nI 5)) (fun st10 => bnd (sZ st10 6) (fun st11 => bnd (sI st11 0 7 (nI 6)) (fun st12 => bnd (sZ st12 7) (fun st13 => bnd (sI st13 0 9 (nI 7)) (fun st14 => bnd (sZ st14 8) (fun st15 => bnd (sI st15 0 10 (nI 8)) (fun st16 => bnd (sZ st16 9) (fun st17 => bnd (sI st17 0 11 (nI 9)) (fun st18 => bnd (sZ st18 10) (fun st19 => bnd (sI st19 0 12 (nI 10)) (fun st20 => bnd (sZ st20 11) (fun st21 => bnd (sI st21 0 14 (nI 11)) (fun st22 => bnd (sZ st22 12) (fun st23 => bnd (sI st23 0 15 (nI 12)) (fun st24 => bnd (sZ st24 13) (fun st25 => bnd (sI st25 0 16 (nI 13)) (fun st26 => bnd (sZ st26 14) (fun st27 => bnd (sI st27 0 17 (nI 14)) (fun st28 => bnd (sZ st28 15) (fun st29 => bnd (sI st29 0 20 (nI 15)) (fun st30 => bnd (sZ st30 16) (fun st31 => bnd (sI st31 0 21 (nI 16)) (fun st32 => bnd (sZ st32 17) (fun st33 => bnd (sI st33 0 22 (nI 17)) (fun st34 => bnd (sZ st34 18) (fun st35 => bnd (sI st35 0 23 (nI 18)) (fun st36 => bnd (sZ st36 19) (fun st37 => bnd (sI st37 0 24 (nI 19)) (fun st38 => bnd (sZ st38 20) (fun st39 => bnd (sI st39 0 30 (nI 20)) (fun st40 => bnd (sZ st40 21) (fun st41 => bnd (sI st41 0 31 (nI 21)) (fun st42 => bnd (sZ st42 22) (fun st43 => bnd (sI st43 0 32 (nI 22)) (fun st44 => bnd (sZ st44 23) (fun st45 => bnd (sI st45 0 33 (nI 23)) (fun st46 => bnd (sZ st46 24) (fun st47 => bnd (sI st47 0 34 (nI 24)) (fun st48 => bnd (sZ st48 25) (fun st49 => bnd (sI st49 0 35 (nI 25)) (fun st50 => bnd (sZ st50 26) (fun st51 => bnd (sI st51 0 36 (nI 26)) (fun st52 => bnd (sZ st52 27) (fun st53 => bnd (sI st53 0 38 (nI 27)) (fun st54 => bnd (sZ st54 28) (fun st55 => bnd (sI st55 0 39 (nI 28)) (fun st56 => bnd (sZ st56 29) (fun st57 => bnd (sI st57 0 40 (nI 29)) (fun st58 => bnd (sZ st58 30) (fun st59 => bnd (sI st59 0 41 (nI 30)) (fun st60 => bnd (sZ st60 31) (fun st61 => bnd (sI st61 0 42 (nI 31)) (fun st62 => bnd (sZ st62 32) (fun st63 => bnd (sI st63 0 43 (nI 32)) (fun st64 => bnd (sZ st64 33) (fun st65 => bnd (sI st65 0 46 (nI 33)) (fun st66 => bnd (sZ st66 34) (fun st67 => bnd (sI st67 0 47 (nI 34)) (fun st68 => bnd (sZ st68 35) (fun st69 => bnd (sI st69 0 48 (nI 35)) (fun st70 => bnd (sZ st70 36) (fun st71 => bnd (sI st71 0 49 (nI 36)) (fun st72 => bnd (sZ st72 37) (fun st73 => bnd (sI st73 0 51 (nI 37)) (fun st74 => bnd (sZ st74 38) (fun st75 => bnd (sI st75 0 53 (nI 38)) (fun st76 => bnd (sZ st76 39) (fun st77 => bnd (sI st77 39 0 (-1)) (fun st78 => bnd (sI st78 39 1 (-1)) (fun st79 => bnd (sI st79 39 2 (-1)) (fun st80 => bnd (sI st80 39 3 (-1)) (fun st81 => bnd (sI st81 39 4 (-1)) (fun st82 => bnd (sI st82 39 5 (-1)) (fun st83 => bnd (sI st83 0 54 (nI 39)) (fun st84 => bnd (sZ st84 40) (fun st85 => bnd (sI st85 0 55 (nI 40)) (fun st86 => bnd (sZ st86 41) (fun st87 => bnd (sI st87 0 56 (nI 41)) (fun st88 => bnd (sZ st88 42) (fun st89 => bnd (sI st89 0 57 (nI 42)) (fun st90 => st90))))))))))))))))))))))))))))))))))))))))))))))))))))))))))))))))))))))))))))))))))))))))))
set_option maxHeartbeats 4000000 in
theorem mX12_init (l : Launch) (X : WX) (B : Nat) (st R : St) (hf : kX12_init st = R) : CtN l yX12_init cX12_init 1 { frames := 1, cells := 42, slots := 2006, locals := 12 } EL 1 43 X B [.ref (xq X 0)] st R 42 2006 := by
  refine ctN_in (own := RX12) (by decide +kernel) rfl rfl (Nat.le_of_ble_eq_true rfl) (fun p e s m below meth c C hw ls hl => ?_)
  obtain ⟨hx, hb, hml, hown, hts⟩ := id C.1
  have hl : lv_has ls 1 [(0, .ref (xq X 0))] := hl
  unfold kX12_init at hf
  refine lv_aload_n hx hb dX12_init_0 rfl (lv_at hl 0 rfl) ?_
  refine n_obj C hl.1 km_X12_1 dX12_init_1 (Nat.le_of_ble_eq_true rfl) (Nat.le_of_ble_eq_true rfl) ?_
  refine lv_aload_n hx hb dX12_init_4 rfl (lv_at hl 0 rfl) ?_
  refine lv_bipush (v := 8) hx hb dX12_init_5 (by decide) ?_
  obtain ⟨st1, es1⟩ : ∃ z : St, z = sZ st 1 := ⟨_, rfl⟩
  replace hf := bnd_nm hf es1
  refine n_newa (t := 1) (atype := .int) (N' := 8) C hw ka_int (C.2.1.2 1 _ rfl).2 (EL_1 X _ _) (fun cA => by rw [vp_cell_i]; rfl) (by decide) (by decide) (by decide) (Nat.le_of_ble_eq_true rfl) (Nat.le_of_ble_eq_true rfl) dX12_init_7 (fun H hw => ?_)
  rw [← es1] at hw
  obtain ⟨st2, es2⟩ : ∃ z : St, z = sI st1 0 2 (nI 1) := ⟨_, rfl⟩
  replace hf := bnd_nm hf es2
  refine n_put (T := TX12) (st' := sI st1 0 2 (nI 1)) C hw (by decide) 2 kf_X12_7 (EL_0 X _ _) rfl inA12 tyX12_ok nmX12 (by decide) (Or.inr ⟨rfl, rfl⟩) rfl rfl rfl (Nat.le_of_ble_eq_true rfl) (by rw [gI_sI, gL_sI, EL_0, rfN_up X _ _ (by decide) (by decide)]; rfl) (sI_o _ _ _ _) dX12_init_9 (fun H locs hw => ?_)
  rw [← es2] at hw
  refine lv_aload_n hx hb dX12_init_12 rfl (lv_at hl 0 rfl) ?_
  refine lv_bipush (v := 8) hx hb dX12_init_13 (by decide) ?_
  obtain ⟨st3, es3⟩ : ∃ z : St, z = sZ st2 2 := ⟨_, rfl⟩
  replace hf := bnd_nm hf es3
  refine n_newa (t := 1) (atype := .int) (N' := 8) C hw ka_int (C.2.1.2 1 _ rfl).2 (EL_2 X _ _) (fun cA => by rw [vp_cell_i]; rfl) (by decide) (by decide) (by decide) (Nat.le_of_ble_eq_true rfl) (Nat.le_of_ble_eq_true rfl) dX12_init_15 (fun H hw => ?_)
  rw [← es3] at hw
  obtain ⟨st4, es4⟩ : ∃ z : St, z = sI st3 0 3 (nI 2) := ⟨_, rfl⟩
  replace hf := bnd_nm hf es4
  refine n_put (T := TX12) (st' := sI st3 0 3 (nI 2)) C hw (by decide) 3 kf_X12_13 (EL_0 X _ _) rfl inA12 tyX12_ok nmX12 (by decide) (Or.inr ⟨rfl, rfl⟩) rfl rfl rfl (Nat.le_of_ble_eq_true rfl) (by rw [gI_sI, gL_sI, EL_0, rfN_up X _ _ (by decide) (by decide)]; rfl) (sI_o _ _ _ _) dX12_init_17 (fun H locs hw => ?_)
  rw [← es4] at hw
  refine lv_aload_n hx hb dX12_init_20 rfl (lv_at hl 0 rfl) ?_
  refine lv_bipush (v := 8) hx hb dX12_init_21 (by decide) ?_
  obtain ⟨st5, es5⟩ : ∃ z : St, z = sZ st4 3 := ⟨_, rfl⟩
  replace hf := bnd_nm hf es5
  refine n_newa (t := 1) (atype := .int) (N' := 8) C hw ka_int (C.2.1.2 1 _ rfl).2 (EL_3 X _ _) (fun cA => by rw [vp_cell_i]; rfl) (by decide) (by decide) (by decide) (Nat.le_of_ble_eq_true rfl) (Nat.le_of_ble_eq_true rfl) dX12_init_23 (fun H hw => ?_)
  rw [← es5] at hw
  obtain ⟨st6, es6⟩ : ∃ z : St, z = sI st5 0 4 (nI 3) := ⟨_, rfl⟩
  replace hf := bnd_nm hf es6
  refine n_put (T := TX12) (st' := sI st5 0 4 (nI 3)) C hw (by decide) 4 kf_X12_16 (EL_0 X _ _) rfl inA12 tyX12_ok nmX12 (by decide) (Or.inr ⟨rfl, rfl⟩) rfl rfl rfl (Nat.le_of_ble_eq_true rfl) (by rw [gI_sI, gL_sI, EL_0, rfN_up X _ _ (by decide) (by decide)]; rfl) (sI_o _ _ _ _) dX12_init_25 (fun H locs hw => ?_)
  rw [← es6] at hw
  refine lv_aload_n hx hb dX12_init_28 rfl (lv_at hl 0 rfl) ?_
  refine lv_bipush (v := 8) hx hb dX12_init_29 (by decide) ?_
  obtain ⟨st7, es7⟩ : ∃ z : St, z = sZ st6 4 := ⟨_, rfl⟩
  replace hf := bnd_nm hf es7
  refine n_newa (t := 1) (atype := .int) (N' := 8) C hw ka_int (C.2.1.2 1 _ rfl).2 (EL_4 X _ _) (fun cA => by rw [vp_cell_i]; rfl) (by decide) (by decide) (by decide) (Nat.le_of_ble_eq_true rfl) (Nat.le_of_ble_eq_true rfl) dX12_init_31 (fun H hw => ?_)
  rw [← es7] at hw
  obtain ⟨st8, es8⟩ : ∃ z : St, z = sI st7 0 5 (nI 4) := ⟨_, rfl⟩
  replace hf := bnd_nm hf es8
  refine n_put (T := TX12) (st' := sI st7 0 5 (nI 4)) C hw (by decide) 5 kf_X12_19 (EL_0 X _ _) rfl inA12 tyX12_ok nmX12 (by decide) (Or.inr ⟨rfl, rfl⟩) rfl rfl rfl (Nat.le_of_ble_eq_true rfl) (by rw [gI_sI, gL_sI, EL_0, rfN_up X _ _ (by decide) (by decide)]; rfl) (sI_o _ _ _ _) dX12_init_33 (fun H locs hw => ?_)
  rw [← es8] at hw
  refine lv_aload_n hx hb dX12_init_36 rfl (lv_at hl 0 rfl) ?_
  refine lv_bipush (v := 8) hx hb dX12_init_37 (by decide) ?_
  obtain ⟨st9, es9⟩ : ∃ z : St, z = sZ st8 5 := ⟨_, rfl⟩
  replace hf := bnd_nm hf es9
  refine n_newa (t := 1) (atype := .int) (N' := 8) C hw ka_int (C.2.1.2 1 _ rfl).2 (EL_5 X _ _) (fun cA => by rw [vp_cell_i]; rfl) (by decide) (by decide) (by decide) (Nat.le_of_ble_eq_true rfl) (Nat.le_of_ble_eq_true rfl) dX12_init_39 (fun H hw => ?_)
  rw [← es9] at hw
  obtain ⟨st10, es10⟩ : ∃ z : St, z = sI st9 0 6 (nI 5) := ⟨_, rfl⟩
  replace hf := bnd_nm hf es10
  refine n_put (T := TX12) (st' := sI st9 0 6 (nI 5)) C hw (by decide) 6 kf_X12_22 (EL_0 X _ _) rfl inA12 tyX12_ok nmX12 (by decide) (Or.inr ⟨rfl, rfl⟩) rfl rfl rfl (Nat.le_of_ble_eq_true rfl) (by rw [gI_sI, gL_sI, EL_0, rfN_up X _ _ (by decide) (by decide)]; rfl) (sI_o _ _ _ _) dX12_init_41 (fun H locs hw => ?_)
  rw [← es10] at hw
  refine lv_aload_n hx hb dX12_init_44 rfl (lv_at hl 0 rfl) ?_
  refine lv_bipush (v := 8) hx hb dX12_init_45 (by decide) ?_
  obtain ⟨st11, es11⟩ : ∃ z : St, z = sZ st10 6 := ⟨_, rfl⟩
  replace hf := bnd_nm hf es11
  refine n_newa (t := 1) (atype := .int) (N' := 8) C hw ka_int (C.2.1.2 1 _ rfl).2 (EL_6 X _ _) (fun cA => by rw [vp_cell_i]; rfl) (by decide) (by decide) (by decide) (Nat.le_of_ble_eq_true rfl) (Nat.le_of_ble_eq_true rfl) dX12_init_47 (fun H hw => ?_)
  rw [← es11] at hw
  obtain ⟨st12, es12⟩ : ∃ z : St, z = sI st11 0 7 (nI 6) := ⟨_, rfl⟩
  replace hf := bnd_nm hf es12
  refine n_put (T := TX12) (st' := sI st11 0 7 (nI 6)) C hw (by decide) 7 kf_X12_25 (EL_0 X _ _) rfl inA12 tyX12_ok nmX12 (by decide) (Or.inr ⟨rfl, rfl⟩) rfl rfl rfl (Nat.le_of_ble_eq_true rfl) (by rw [gI_sI, gL_sI, EL_0, rfN_up X _ _ (by decide) (by decide)]; rfl) (sI_o _ _ _ _) dX12_init_49 (fun H locs hw => ?_)
  rw [← es12] at hw
  refine lv_aload_n hx hb dX12_init_52 rfl (lv_at hl 0 rfl) ?_
  refine lv_bipush (v := 11) hx hb dX12_init_53 (by decide) ?_
  obtain ⟨st13, es13⟩ : ∃ z : St, z = sZ st12 7 := ⟨_, rfl⟩
  replace hf := bnd_nm hf es13
  refine n_newa (t := 1) (atype := .int) (N' := 11) C hw ka_int (C.2.1.2 1 _ rfl).2 (EL_7 X _ _) (fun cA => by rw [vp_cell_i]; rfl) (by decide) (by decide) (by decide) (Nat.le_of_ble_eq_true rfl) (Nat.le_of_ble_eq_true rfl) dX12_init_55 (fun H hw => ?_)
  rw [← es13] at hw
  obtain ⟨st14, es14⟩ : ∃ z : St, z = sI st13 0 9 (nI 7) := ⟨_, rfl⟩
  replace hf := bnd_nm hf es14
  refine n_put (T := TX12) (st' := sI st13 0 9 (nI 7)) C hw (by decide) 9 kf_X12_28 (EL_0 X _ _) rfl inA12 tyX12_ok nmX12 (by decide) (Or.inr ⟨rfl, rfl⟩) rfl rfl rfl (Nat.le_of_ble_eq_true rfl) (by rw [gI_sI, gL_sI, EL_0, rfN_up X _ _ (by decide) (by decide)]; rfl) (sI_o _ _ _ _) dX12_init_57 (fun H locs hw => ?_)
  rw [← es14] at hw
  refine lv_aload_n hx hb dX12_init_60 rfl (lv_at hl 0 rfl) ?_
  refine lv_bipush (v := 11) hx hb dX12_init_61 (by decide) ?_
  obtain ⟨st15, es15⟩ : ∃ z : St, z = sZ st14 8 := ⟨_, rfl⟩
  replace hf := bnd_nm hf es15
  refine n_newa (t := 1) (atype := .int) (N' := 11) C hw ka_int (C.2.1.2 1 _ rfl).2 (EL_8 X _ _) (fun cA => by rw [vp_cell_i]; rfl) (by decide) (by decide) (by decide) (Nat.le_of_ble_eq_true rfl) (Nat.le_of_ble_eq_true rfl) dX12_init_63 (fun H hw => ?_)
  rw [← es15] at hw
  obtain ⟨st16, es16⟩ : ∃ z : St, z = sI st15 0 10 (nI 8) := ⟨_, rfl⟩
  replace hf := bnd_nm hf es16
  refine n_put (T := TX12) (st' := sI st15 0 10 (nI 8)) C hw (by decide) 10 kf_X12_31 (EL_0 X _ _) rfl inA12 tyX12_ok nmX12 (by decide) (Or.inr ⟨rfl, rfl⟩) rfl rfl rfl (Nat.le_of_ble_eq_true rfl) (by rw [gI_sI, gL_sI, EL_0, rfN_up X _ _ (by decide) (by decide)]; rfl) (sI_o _ _ _ _) dX12_init_65 (fun H locs hw => ?_)
  rw [← es16] at hw
  refine lv_aload_n hx hb dX12_init_68 rfl (lv_at hl 0 rfl) ?_
  refine lv_bipush (v := 11) hx hb dX12_init_69 (by decide) ?_
  obtain ⟨st17, es17⟩ : ∃ z : St, z = sZ st16 9 := ⟨_, rfl⟩
  replace hf := bnd_nm hf es17
  refine n_newa (t := 1) (atype := .int) (N' := 11) C hw ka_int (C.2.1.2 1 _ rfl).2 (EL_9 X _ _) (fun cA => by rw [vp_cell_i]; rfl) (by decide) (by decide) (by decide) (Nat.le_of_ble_eq_true rfl) (Nat.le_of_ble_eq_true rfl) dX12_init_71 (fun H hw => ?_)
  rw [← es17] at hw
  obtain ⟨st18, es18⟩ : ∃ z : St, z = sI st17 0 11 (nI 9) := ⟨_, rfl⟩
  replace hf := bnd_nm hf es18
  refine n_put (T := TX12) (st' := sI st17 0 11 (nI 9)) C hw (by decide) 11 kf_X12_34 (EL_0 X _ _) rfl inA12 tyX12_ok nmX12 (by decide) (Or.inr ⟨rfl, rfl⟩) rfl rfl rfl (Nat.le_of_ble_eq_true rfl) (by rw [gI_sI, gL_sI, EL_0, rfN_up X _ _ (by decide) (by decide)]; rfl) (sI_o _ _ _ _) dX12_init_73 (fun H locs hw => ?_)
  rw [← es18] at hw
  refine lv_aload_n hx hb dX12_init_76 rfl (lv_at hl 0 rfl) ?_
  refine lv_bipush (v := 11) hx hb dX12_init_77 (by decide) ?_
  obtain ⟨st19, es19⟩ : ∃ z : St, z = sZ st18 10 := ⟨_, rfl⟩
  replace hf := bnd_nm hf es19
  refine n_newa (t := 1) (atype := .int) (N' := 11) C hw ka_int (C.2.1.2 1 _ rfl).2 (EL_10 X _ _) (fun cA => by rw [vp_cell_i]; rfl) (by decide) (by decide) (by decide) (Nat.le_of_ble_eq_true rfl) (Nat.le_of_ble_eq_true rfl) dX12_init_79 (fun H hw => ?_)
  rw [← es19] at hw
  obtain ⟨st20, es20⟩ : ∃ z : St, z = sI st19 0 12 (nI 10) := ⟨_, rfl⟩
  replace hf := bnd_nm hf es20
  refine n_put (T := TX12) (st' := sI st19 0 12 (nI 10)) C hw (by decide) 12 kf_X12_37 (EL_0 X _ _) rfl inA12 tyX12_ok nmX12 (by decide) (Or.inr ⟨rfl, rfl⟩) rfl rfl rfl (Nat.le_of_ble_eq_true rfl) (by rw [gI_sI, gL_sI, EL_0, rfN_up X _ _ (by decide) (by decide)]; rfl) (sI_o _ _ _ _) dX12_init_81 (fun H locs hw => ?_)
  rw [← es20] at hw
  refine lv_aload_n hx hb dX12_init_84 rfl (lv_at hl 0 rfl) ?_
  refine lv_bipush (v := 13) hx hb dX12_init_85 (by decide) ?_
  obtain ⟨st21, es21⟩ : ∃ z : St, z = sZ st20 11 := ⟨_, rfl⟩
  replace hf := bnd_nm hf es21
  refine n_newa (t := 1) (atype := .int) (N' := 13) C hw ka_int (C.2.1.2 1 _ rfl).2 (EL_11 X _ _) (fun cA => by rw [vp_cell_i]; rfl) (by decide) (by decide) (by decide) (Nat.le_of_ble_eq_true rfl) (Nat.le_of_ble_eq_true rfl) dX12_init_87 (fun H hw => ?_)
  rw [← es21] at hw
  obtain ⟨st22, es22⟩ : ∃ z : St, z = sI st21 0 14 (nI 11) := ⟨_, rfl⟩
  replace hf := bnd_nm hf es22
  refine n_put (T := TX12) (st' := sI st21 0 14 (nI 11)) C hw (by decide) 14 kf_X12_40 (EL_0 X _ _) rfl inA12 tyX12_ok nmX12 (by decide) (Or.inr ⟨rfl, rfl⟩) rfl rfl rfl (Nat.le_of_ble_eq_true rfl) (by rw [gI_sI, gL_sI, EL_0, rfN_up X _ _ (by decide) (by decide)]; rfl) (sI_o _ _ _ _) dX12_init_89 (fun H locs hw => ?_)
  rw [← es22] at hw
  refine lv_aload_n hx hb dX12_init_92 rfl (lv_at hl 0 rfl) ?_
  refine lv_bipush (v := 13) hx hb dX12_init_93 (by decide) ?_
  obtain ⟨st23, es23⟩ : ∃ z : St, z = sZ st22 12 := ⟨_, rfl⟩
  replace hf := bnd_nm hf es23
  refine n_newa (t := 1) (atype := .int) (N' := 13) C hw ka_int (C.2.1.2 1 _ rfl).2 (EL_12 X _ _) (fun cA => by rw [vp_cell_i]; rfl) (by decide) (by decide) (by decide) (Nat.le_of_ble_eq_true rfl) (Nat.le_of_ble_eq_true rfl) dX12_init_95 (fun H hw => ?_)
  rw [← es23] at hw
  obtain ⟨st24, es24⟩ : ∃ z : St, z = sI st23 0 15 (nI 12) := ⟨_, rfl⟩
  replace hf := bnd_nm hf es24
  refine n_put (T := TX12) (st' := sI st23 0 15 (nI 12)) C hw (by decide) 15 kf_X12_43 (EL_0 X _ _) rfl inA12 tyX12_ok nmX12 (by decide) (Or.inr ⟨rfl, rfl⟩) rfl rfl rfl (Nat.le_of_ble_eq_true rfl) (by rw [gI_sI, gL_sI, EL_0, rfN_up X _ _ (by decide) (by decide)]; rfl) (sI_o _ _ _ _) dX12_init_97 (fun H locs hw => ?_)
  rw [← es24] at hw
  refine lv_aload_n hx hb dX12_init_100 rfl (lv_at hl 0 rfl) ?_
  refine lv_bipush (v := 13) hx hb dX12_init_101 (by decide) ?_
  obtain ⟨st25, es25⟩ : ∃ z : St, z = sZ st24 13 := ⟨_, rfl⟩
  replace hf := bnd_nm hf es25
  refine n_newa (t := 1) (atype := .int) (N' := 13) C hw ka_int (C.2.1.2 1 _ rfl).2 (EL_13 X _ _) (fun cA => by rw [vp_cell_i]; rfl) (by decide) (by decide) (by decide) (Nat.le_of_ble_eq_true rfl) (Nat.le_of_ble_eq_true rfl) dX12_init_103 (fun H hw => ?_)
  rw [← es25] at hw
  obtain ⟨st26, es26⟩ : ∃ z : St, z = sI st25 0 16 (nI 13) := ⟨_, rfl⟩
  replace hf := bnd_nm hf es26
  refine n_put (T := TX12) (st' := sI st25 0 16 (nI 13)) C hw (by decide) 16 kf_X12_46 (EL_0 X _ _) rfl inA12 tyX12_ok nmX12 (by decide) (Or.inr ⟨rfl, rfl⟩) rfl rfl rfl (Nat.le_of_ble_eq_true rfl) (by rw [gI_sI, gL_sI, EL_0, rfN_up X _ _ (by decide) (by decide)]; rfl) (sI_o _ _ _ _) dX12_init_105 (fun H locs hw => ?_)
  rw [← es26] at hw
  refine lv_aload_n hx hb dX12_init_108 rfl (lv_at hl 0 rfl) ?_
  refine lv_bipush (v := 13) hx hb dX12_init_109 (by decide) ?_
  obtain ⟨st27, es27⟩ : ∃ z : St, z = sZ st26 14 := ⟨_, rfl⟩
  replace hf := bnd_nm hf es27
  refine n_newa (t := 1) (atype := .int) (N' := 13) C hw ka_int (C.2.1.2 1 _ rfl).2 (EL_14 X _ _) (fun cA => by rw [vp_cell_i]; rfl) (by decide) (by decide) (by decide) (Nat.le_of_ble_eq_true rfl) (Nat.le_of_ble_eq_true rfl) dX12_init_111 (fun H hw => ?_)
  rw [← es27] at hw
  obtain ⟨st28, es28⟩ : ∃ z : St, z = sI st27 0 17 (nI 14) := ⟨_, rfl⟩
  replace hf := bnd_nm hf es28
  refine n_put (T := TX12) (st' := sI st27 0 17 (nI 14)) C hw (by decide) 17 kf_X12_49 (EL_0 X _ _) rfl inA12 tyX12_ok nmX12 (by decide) (Or.inr ⟨rfl, rfl⟩) rfl rfl rfl (Nat.le_of_ble_eq_true rfl) (by rw [gI_sI, gL_sI, EL_0, rfN_up X _ _ (by decide) (by decide)]; rfl) (sI_o _ _ _ _) dX12_init_113 (fun H locs hw => ?_)
  rw [← es28] at hw
  refine lv_aload_n hx hb dX12_init_116 rfl (lv_at hl 0 rfl) ?_
  refine lv_bipush (v := 40) hx hb dX12_init_117 (by decide) ?_
  obtain ⟨st29, es29⟩ : ∃ z : St, z = sZ st28 15 := ⟨_, rfl⟩
  replace hf := bnd_nm hf es29
  refine n_newa (t := 1) (atype := .int) (N' := 40) C hw ka_int (C.2.1.2 1 _ rfl).2 (EL_15 X _ _) (fun cA => by rw [vp_cell_i]; rfl) (by decide) (by decide) (by decide) (Nat.le_of_ble_eq_true rfl) (Nat.le_of_ble_eq_true rfl) dX12_init_119 (fun H hw => ?_)
  rw [← es29] at hw
  obtain ⟨st30, es30⟩ : ∃ z : St, z = sI st29 0 20 (nI 15) := ⟨_, rfl⟩
  replace hf := bnd_nm hf es30
  refine n_put (T := TX12) (st' := sI st29 0 20 (nI 15)) C hw (by decide) 20 kf_X12_52 (EL_0 X _ _) rfl inA12 tyX12_ok nmX12 (by decide) (Or.inr ⟨rfl, rfl⟩) rfl rfl rfl (Nat.le_of_ble_eq_true rfl) (by rw [gI_sI, gL_sI, EL_0, rfN_up X _ _ (by decide) (by decide)]; rfl) (sI_o _ _ _ _) dX12_init_121 (fun H locs hw => ?_)
  rw [← es30] at hw
  refine lv_aload_n hx hb dX12_init_124 rfl (lv_at hl 0 rfl) ?_
  refine lv_bipush (v := 40) hx hb dX12_init_125 (by decide) ?_
  obtain ⟨st31, es31⟩ : ∃ z : St, z = sZ st30 16 := ⟨_, rfl⟩
  replace hf := bnd_nm hf es31
  refine n_newa (t := 1) (atype := .int) (N' := 40) C hw ka_int (C.2.1.2 1 _ rfl).2 (EL_16 X _ _) (fun cA => by rw [vp_cell_i]; rfl) (by decide) (by decide) (by decide) (Nat.le_of_ble_eq_true rfl) (Nat.le_of_ble_eq_true rfl) dX12_init_127 (fun H hw => ?_)
  rw [← es31] at hw
  obtain ⟨st32, es32⟩ : ∃ z : St, z = sI st31 0 21 (nI 16) := ⟨_, rfl⟩
  replace hf := bnd_nm hf es32
  refine n_put (T := TX12) (st' := sI st31 0 21 (nI 16)) C hw (by decide) 21 kf_X12_55 (EL_0 X _ _) rfl inA12 tyX12_ok nmX12 (by decide) (Or.inr ⟨rfl, rfl⟩) rfl rfl rfl (Nat.le_of_ble_eq_true rfl) (by rw [gI_sI, gL_sI, EL_0, rfN_up X _ _ (by decide) (by decide)]; rfl) (sI_o _ _ _ _) dX12_init_129 (fun H locs hw => ?_)
  rw [← es32] at hw
  refine lv_aload_n hx hb dX12_init_132 rfl (lv_at hl 0 rfl) ?_
  refine lv_bipush (v := 40) hx hb dX12_init_133 (by decide) ?_
  obtain ⟨st33, es33⟩ : ∃ z : St, z = sZ st32 17 := ⟨_, rfl⟩
  replace hf := bnd_nm hf es33
  refine n_newa (t := 1) (atype := .int) (N' := 40) C hw ka_int (C.2.1.2 1 _ rfl).2 (EL_17 X _ _) (fun cA => by rw [vp_cell_i]; rfl) (by decide) (by decide) (by decide) (Nat.le_of_ble_eq_true rfl) (Nat.le_of_ble_eq_true rfl) dX12_init_135 (fun H hw => ?_)
  rw [← es33] at hw
  obtain ⟨st34, es34⟩ : ∃ z : St, z = sI st33 0 22 (nI 17) := ⟨_, rfl⟩
  replace hf := bnd_nm hf es34
  refine n_put (T := TX12) (st' := sI st33 0 22 (nI 17)) C hw (by decide) 22 kf_X12_58 (EL_0 X _ _) rfl inA12 tyX12_ok nmX12 (by decide) (Or.inr ⟨rfl, rfl⟩) rfl rfl rfl (Nat.le_of_ble_eq_true rfl) (by rw [gI_sI, gL_sI, EL_0, rfN_up X _ _ (by decide) (by decide)]; rfl) (sI_o _ _ _ _) dX12_init_137 (fun H locs hw => ?_)
  rw [← es34] at hw
  refine lv_aload_n hx hb dX12_init_140 rfl (lv_at hl 0 rfl) ?_
  refine lv_bipush (v := 40) hx hb dX12_init_141 (by decide) ?_
  obtain ⟨st35, es35⟩ : ∃ z : St, z = sZ st34 18 := ⟨_, rfl⟩
  replace hf := bnd_nm hf es35
  refine n_newa (t := 1) (atype := .int) (N' := 40) C hw ka_int (C.2.1.2 1 _ rfl).2 (EL_18 X _ _) (fun cA => by rw [vp_cell_i]; rfl) (by decide) (by decide) (by decide) (Nat.le_of_ble_eq_true rfl) (Nat.le_of_ble_eq_true rfl) dX12_init_143 (fun H hw => ?_)
  rw [← es35] at hw
  obtain ⟨st36, es36⟩ : ∃ z : St, z = sI st35 0 23 (nI 18) := ⟨_, rfl⟩
  replace hf := bnd_nm hf es36
  refine n_put (T := TX12) (st' := sI st35 0 23 (nI 18)) C hw (by decide) 23 kf_X12_61 (EL_0 X _ _) rfl inA12 tyX12_ok nmX12 (by decide) (Or.inr ⟨rfl, rfl⟩) rfl rfl rfl (Nat.le_of_ble_eq_true rfl) (by rw [gI_sI, gL_sI, EL_0, rfN_up X _ _ (by decide) (by decide)]; rfl) (sI_o _ _ _ _) dX12_init_145 (fun H locs hw => ?_)
  rw [← es36] at hw
  refine lv_aload_n hx hb dX12_init_148 rfl (lv_at hl 0 rfl) ?_
  refine lv_bipush (v := 120) hx hb dX12_init_149 (by decide) ?_
  obtain ⟨st37, es37⟩ : ∃ z : St, z = sZ st36 19 := ⟨_, rfl⟩
  replace hf := bnd_nm hf es37
  refine n_newa (t := 0) (atype := .byte) (N' := 120) C hw ka_byte (C.2.1.2 0 _ rfl).2 (EL_19 X _ _) (fun cA => by rw [vp_cell_i]; rfl) (by decide) (by decide) (by decide) (Nat.le_of_ble_eq_true rfl) (Nat.le_of_ble_eq_true rfl) dX12_init_151 (fun H hw => ?_)
  rw [← es37] at hw
  obtain ⟨st38, es38⟩ : ∃ z : St, z = sI st37 0 24 (nI 19) := ⟨_, rfl⟩
  replace hf := bnd_nm hf es38
  refine n_put (T := TX12) (st' := sI st37 0 24 (nI 19)) C hw (by decide) 24 kf_X12_64 (EL_0 X _ _) rfl inA12 tyX12_ok nmX12 (by decide) (Or.inr ⟨rfl, rfl⟩) rfl rfl rfl (Nat.le_of_ble_eq_true rfl) (by rw [gI_sI, gL_sI, EL_0, rfN_up X _ _ (by decide) (by decide)]; rfl) (sI_o _ _ _ _) dX12_init_153 (fun H locs hw => ?_)
  rw [← es38] at hw
  refine lv_aload_n hx hb dX12_init_156 rfl (lv_at hl 0 rfl) ?_
  refine lv_sipush (v := 260) hx hb dX12_init_157 (by decide) ?_
  obtain ⟨st39, es39⟩ : ∃ z : St, z = sZ st38 20 := ⟨_, rfl⟩
  replace hf := bnd_nm hf es39
  refine n_newa (t := 0) (atype := .byte) (N' := 260) C hw ka_byte (C.2.1.2 0 _ rfl).2 (EL_20 X _ _) (fun cA => by rw [vp_cell_i]; rfl) (by decide) (by decide) (by decide) (Nat.le_of_ble_eq_true rfl) (Nat.le_of_ble_eq_true rfl) dX12_init_160 (fun H hw => ?_)
  rw [← es39] at hw
  obtain ⟨st40, es40⟩ : ∃ z : St, z = sI st39 0 30 (nI 20) := ⟨_, rfl⟩
  replace hf := bnd_nm hf es40
  refine n_put (T := TX12) (st' := sI st39 0 30 (nI 20)) C hw (by decide) 30 kf_X12_68 (EL_0 X _ _) rfl inA12 tyX12_ok nmX12 (by decide) (Or.inr ⟨rfl, rfl⟩) rfl rfl rfl (Nat.le_of_ble_eq_true rfl) (by rw [gI_sI, gL_sI, EL_0, rfN_up X _ _ (by decide) (by decide)]; rfl) (sI_o _ _ _ _) dX12_init_162 (fun H locs hw => ?_)
  rw [← es40] at hw
  refine lv_aload_n hx hb dX12_init_165 rfl (lv_at hl 0 rfl) ?_
  refine lv_sipush (v := 260) hx hb dX12_init_166 (by decide) ?_
  obtain ⟨st41, es41⟩ : ∃ z : St, z = sZ st40 21 := ⟨_, rfl⟩
  replace hf := bnd_nm hf es41
  refine n_newa (t := 1) (atype := .int) (N' := 260) C hw ka_int (C.2.1.2 1 _ rfl).2 (EL_21 X _ _) (fun cA => by rw [vp_cell_i]; rfl) (by decide) (by decide) (by decide) (Nat.le_of_ble_eq_true rfl) (Nat.le_of_ble_eq_true rfl) dX12_init_169 (fun H hw => ?_)
  rw [← es41] at hw
  obtain ⟨st42, es42⟩ : ∃ z : St, z = sI st41 0 31 (nI 21) := ⟨_, rfl⟩
  replace hf := bnd_nm hf es42
  refine n_put (T := TX12) (st' := sI st41 0 31 (nI 21)) C hw (by decide) 31 kf_X12_71 (EL_0 X _ _) rfl inA12 tyX12_ok nmX12 (by decide) (Or.inr ⟨rfl, rfl⟩) rfl rfl rfl (Nat.le_of_ble_eq_true rfl) (by rw [gI_sI, gL_sI, EL_0, rfN_up X _ _ (by decide) (by decide)]; rfl) (sI_o _ _ _ _) dX12_init_171 (fun H locs hw => ?_)
  rw [← es42] at hw
  refine lv_aload_n hx hb dX12_init_174 rfl (lv_at hl 0 rfl) ?_
  refine lv_iconst (v := 2) hx hb dX12_init_175 (by decide) ?_
  obtain ⟨st43, es43⟩ : ∃ z : St, z = sZ st42 22 := ⟨_, rfl⟩
  replace hf := bnd_nm hf es43
  refine n_newa (t := 1) (atype := .int) (N' := 2) C hw ka_int (C.2.1.2 1 _ rfl).2 (EL_22 X _ _) (fun cA => by rw [vp_cell_i]; rfl) (by decide) (by decide) (by decide) (Nat.le_of_ble_eq_true rfl) (Nat.le_of_ble_eq_true rfl) dX12_init_176 (fun H hw => ?_)
  rw [← es43] at hw
  obtain ⟨st44, es44⟩ : ∃ z : St, z = sI st43 0 32 (nI 22) := ⟨_, rfl⟩
  replace hf := bnd_nm hf es44
  refine n_put (T := TX12) (st' := sI st43 0 32 (nI 22)) C hw (by decide) 32 kf_X12_74 (EL_0 X _ _) rfl inA12 tyX12_ok nmX12 (by decide) (Or.inr ⟨rfl, rfl⟩) rfl rfl rfl (Nat.le_of_ble_eq_true rfl) (by rw [gI_sI, gL_sI, EL_0, rfN_up X _ _ (by decide) (by decide)]; rfl) (sI_o _ _ _ _) dX12_init_178 (fun H locs hw => ?_)
  rw [← es44] at hw
  refine lv_aload_n hx hb dX12_init_181 rfl (lv_at hl 0 rfl) ?_
  refine lv_bipush (v := 122) hx hb dX12_init_182 (by decide) ?_
  obtain ⟨st45, es45⟩ : ∃ z : St, z = sZ st44 23 := ⟨_, rfl⟩
  replace hf := bnd_nm hf es45
  refine n_newa (t := 3) (atype := .short) (N' := 122) C hw ka_short (C.2.1.2 3 _ rfl).2 (EL_23 X _ _) (fun cA => by rw [vp_cell_i]; rfl) (by decide) (by decide) (by decide) (Nat.le_of_ble_eq_true rfl) (Nat.le_of_ble_eq_true rfl) dX12_init_184 (fun H hw => ?_)
  rw [← es45] at hw
  obtain ⟨st46, es46⟩ : ∃ z : St, z = sI st45 0 33 (nI 23) := ⟨_, rfl⟩
  replace hf := bnd_nm hf es46
  refine n_put (T := TX12) (st' := sI st45 0 33 (nI 23)) C hw (by decide) 33 kf_X12_77 (EL_0 X _ _) rfl inA12 tyX12_ok nmX12 (by decide) (Or.inr ⟨rfl, rfl⟩) rfl rfl rfl (Nat.le_of_ble_eq_true rfl) (by rw [gI_sI, gL_sI, EL_0, rfN_up X _ _ (by decide) (by decide)]; rfl) (sI_o _ _ _ _) dX12_init_186 (fun H locs hw => ?_)
  rw [← es46] at hw
  refine lv_aload_n hx hb dX12_init_189 rfl (lv_at hl 0 rfl) ?_
  refine lv_bipush (v := 122) hx hb dX12_init_190 (by decide) ?_
  obtain ⟨st47, es47⟩ : ∃ z : St, z = sZ st46 24 := ⟨_, rfl⟩
  replace hf := bnd_nm hf es47
  refine n_newa (t := 3) (atype := .short) (N' := 122) C hw ka_short (C.2.1.2 3 _ rfl).2 (EL_24 X _ _) (fun cA => by rw [vp_cell_i]; rfl) (by decide) (by decide) (by decide) (Nat.le_of_ble_eq_true rfl) (Nat.le_of_ble_eq_true rfl) dX12_init_192 (fun H hw => ?_)
  rw [← es47] at hw
  obtain ⟨st48, es48⟩ : ∃ z : St, z = sI st47 0 34 (nI 24) := ⟨_, rfl⟩
  replace hf := bnd_nm hf es48
  refine n_put (T := TX12) (st' := sI st47 0 34 (nI 24)) C hw (by decide) 34 kf_X12_81 (EL_0 X _ _) rfl inA12 tyX12_ok nmX12 (by decide) (Or.inr ⟨rfl, rfl⟩) rfl rfl rfl (Nat.le_of_ble_eq_true rfl) (by rw [gI_sI, gL_sI, EL_0, rfN_up X _ _ (by decide) (by decide)]; rfl) (sI_o _ _ _ _) dX12_init_194 (fun H locs hw => ?_)
  rw [← es48] at hw
  refine lv_aload_n hx hb dX12_init_197 rfl (lv_at hl 0 rfl) ?_
  refine lv_bipush (v := 6) hx hb dX12_init_198 (by decide) ?_
  obtain ⟨st49, es49⟩ : ∃ z : St, z = sZ st48 25 := ⟨_, rfl⟩
  replace hf := bnd_nm hf es49
  refine n_newa (t := 1) (atype := .int) (N' := 6) C hw ka_int (C.2.1.2 1 _ rfl).2 (EL_25 X _ _) (fun cA => by rw [vp_cell_i]; rfl) (by decide) (by decide) (by decide) (Nat.le_of_ble_eq_true rfl) (Nat.le_of_ble_eq_true rfl) dX12_init_200 (fun H hw => ?_)
  rw [← es49] at hw
  obtain ⟨st50, es50⟩ : ∃ z : St, z = sI st49 0 35 (nI 25) := ⟨_, rfl⟩
  replace hf := bnd_nm hf es50
  refine n_put (T := TX12) (st' := sI st49 0 35 (nI 25)) C hw (by decide) 35 kf_X12_84 (EL_0 X _ _) rfl inA12 tyX12_ok nmX12 (by decide) (Or.inr ⟨rfl, rfl⟩) rfl rfl rfl (Nat.le_of_ble_eq_true rfl) (by rw [gI_sI, gL_sI, EL_0, rfN_up X _ _ (by decide) (by decide)]; rfl) (sI_o _ _ _ _) dX12_init_202 (fun H locs hw => ?_)
  rw [← es50] at hw
  refine lv_aload_n hx hb dX12_init_205 rfl (lv_at hl 0 rfl) ?_
  refine lv_sipush (v := 130) hx hb dX12_init_206 (by decide) ?_
  obtain ⟨st51, es51⟩ : ∃ z : St, z = sZ st50 26 := ⟨_, rfl⟩
  replace hf := bnd_nm hf es51
  refine n_newa (t := 1) (atype := .int) (N' := 130) C hw ka_int (C.2.1.2 1 _ rfl).2 (EL_26 X _ _) (fun cA => by rw [vp_cell_i]; rfl) (by decide) (by decide) (by decide) (Nat.le_of_ble_eq_true rfl) (Nat.le_of_ble_eq_true rfl) dX12_init_209 (fun H hw => ?_)
  rw [← es51] at hw
  obtain ⟨st52, es52⟩ : ∃ z : St, z = sI st51 0 36 (nI 26) := ⟨_, rfl⟩
  replace hf := bnd_nm hf es52
  refine n_put (T := TX12) (st' := sI st51 0 36 (nI 26)) C hw (by decide) 36 kf_X12_87 (EL_0 X _ _) rfl inA12 tyX12_ok nmX12 (by decide) (Or.inr ⟨rfl, rfl⟩) rfl rfl rfl (Nat.le_of_ble_eq_true rfl) (by rw [gI_sI, gL_sI, EL_0, rfN_up X _ _ (by decide) (by decide)]; rfl) (sI_o _ _ _ _) dX12_init_211 (fun H locs hw => ?_)
  rw [← es52] at hw
  refine lv_aload_n hx hb dX12_init_214 rfl (lv_at hl 0 rfl) ?_
  refine lv_bipush (v := 36) hx hb dX12_init_215 (by decide) ?_
  obtain ⟨st53, es53⟩ : ∃ z : St, z = sZ st52 27 := ⟨_, rfl⟩
  replace hf := bnd_nm hf es53
  refine n_newa (t := 1) (atype := .int) (N' := 36) C hw ka_int (C.2.1.2 1 _ rfl).2 (EL_27 X _ _) (fun cA => by rw [vp_cell_i]; rfl) (by decide) (by decide) (by decide) (Nat.le_of_ble_eq_true rfl) (Nat.le_of_ble_eq_true rfl) dX12_init_217 (fun H hw => ?_)
  rw [← es53] at hw
  obtain ⟨st54, es54⟩ : ∃ z : St, z = sI st53 0 38 (nI 27) := ⟨_, rfl⟩
  replace hf := bnd_nm hf es54
  refine n_put (T := TX12) (st' := sI st53 0 38 (nI 27)) C hw (by decide) 38 kf_X12_90 (EL_0 X _ _) rfl inA12 tyX12_ok nmX12 (by decide) (Or.inr ⟨rfl, rfl⟩) rfl rfl rfl (Nat.le_of_ble_eq_true rfl) (by rw [gI_sI, gL_sI, EL_0, rfN_up X _ _ (by decide) (by decide)]; rfl) (sI_o _ _ _ _) dX12_init_219 (fun H locs hw => ?_)
  rw [← es54] at hw
  refine lv_aload_n hx hb dX12_init_222 rfl (lv_at hl 0 rfl) ?_
  refine lv_bipush (v := 8) hx hb dX12_init_223 (by decide) ?_
  obtain ⟨st55, es55⟩ : ∃ z : St, z = sZ st54 28 := ⟨_, rfl⟩
  replace hf := bnd_nm hf es55
  refine n_newa (t := 1) (atype := .int) (N' := 8) C hw ka_int (C.2.1.2 1 _ rfl).2 (EL_28 X _ _) (fun cA => by rw [vp_cell_i]; rfl) (by decide) (by decide) (by decide) (Nat.le_of_ble_eq_true rfl) (Nat.le_of_ble_eq_true rfl) dX12_init_225 (fun H hw => ?_)
  rw [← es55] at hw
  obtain ⟨st56, es56⟩ : ∃ z : St, z = sI st55 0 39 (nI 28) := ⟨_, rfl⟩
  replace hf := bnd_nm hf es56
  refine n_put (T := TX12) (st' := sI st55 0 39 (nI 28)) C hw (by decide) 39 kf_X12_93 (EL_0 X _ _) rfl inA12 tyX12_ok nmX12 (by decide) (Or.inr ⟨rfl, rfl⟩) rfl rfl rfl (Nat.le_of_ble_eq_true rfl) (by rw [gI_sI, gL_sI, EL_0, rfN_up X _ _ (by decide) (by decide)]; rfl) (sI_o _ _ _ _) dX12_init_227 (fun H locs hw => ?_)
  rw [← es56] at hw
  refine lv_aload_n hx hb dX12_init_230 rfl (lv_at hl 0 rfl) ?_
  refine lv_bipush (v := 20) hx hb dX12_init_231 (by decide) ?_
  obtain ⟨st57, es57⟩ : ∃ z : St, z = sZ st56 29 := ⟨_, rfl⟩
  replace hf := bnd_nm hf es57
  refine n_newa (t := 1) (atype := .int) (N' := 20) C hw ka_int (C.2.1.2 1 _ rfl).2 (EL_29 X _ _) (fun cA => by rw [vp_cell_i]; rfl) (by decide) (by decide) (by decide) (Nat.le_of_ble_eq_true rfl) (Nat.le_of_ble_eq_true rfl) dX12_init_233 (fun H hw => ?_)
  rw [← es57] at hw
  obtain ⟨st58, es58⟩ : ∃ z : St, z = sI st57 0 40 (nI 29) := ⟨_, rfl⟩
  replace hf := bnd_nm hf es58
  refine n_put (T := TX12) (st' := sI st57 0 40 (nI 29)) C hw (by decide) 40 kf_X12_96 (EL_0 X _ _) rfl inA12 tyX12_ok nmX12 (by decide) (Or.inr ⟨rfl, rfl⟩) rfl rfl rfl (Nat.le_of_ble_eq_true rfl) (by rw [gI_sI, gL_sI, EL_0, rfN_up X _ _ (by decide) (by decide)]; rfl) (sI_o _ _ _ _) dX12_init_235 (fun H locs hw => ?_)
  rw [← es58] at hw
  refine lv_aload_n hx hb dX12_init_238 rfl (lv_at hl 0 rfl) ?_
  refine lv_bipush (v := 11) hx hb dX12_init_239 (by decide) ?_
  obtain ⟨st59, es59⟩ : ∃ z : St, z = sZ st58 30 := ⟨_, rfl⟩
  replace hf := bnd_nm hf es59
  refine n_newa (t := 4) (atype := .boolean) (N' := 11) C hw ka_boolean (C.2.1.2 4 _ rfl).2 (EL_30 X _ _) (fun cA => by rw [vp_cell_i]; rfl) (by decide) (by decide) (by decide) (Nat.le_of_ble_eq_true rfl) (Nat.le_of_ble_eq_true rfl) dX12_init_241 (fun H hw => ?_)
  rw [← es59] at hw
  obtain ⟨st60, es60⟩ : ∃ z : St, z = sI st59 0 41 (nI 30) := ⟨_, rfl⟩
  replace hf := bnd_nm hf es60
  refine n_put (T := TX12) (st' := sI st59 0 41 (nI 30)) C hw (by decide) 41 kf_X12_99 (EL_0 X _ _) rfl inA12 tyX12_ok nmX12 (by decide) (Or.inr ⟨rfl, rfl⟩) rfl rfl rfl (Nat.le_of_ble_eq_true rfl) (by rw [gI_sI, gL_sI, EL_0, rfN_up X _ _ (by decide) (by decide)]; rfl) (sI_o _ _ _ _) dX12_init_243 (fun H locs hw => ?_)
  rw [← es60] at hw
  refine lv_aload_n hx hb dX12_init_246 rfl (lv_at hl 0 rfl) ?_
  refine lv_bipush (v := 36) hx hb dX12_init_247 (by decide) ?_
  obtain ⟨st61, es61⟩ : ∃ z : St, z = sZ st60 31 := ⟨_, rfl⟩
  replace hf := bnd_nm hf es61
  refine n_newa (t := 1) (atype := .int) (N' := 36) C hw ka_int (C.2.1.2 1 _ rfl).2 (EL_31 X _ _) (fun cA => by rw [vp_cell_i]; rfl) (by decide) (by decide) (by decide) (Nat.le_of_ble_eq_true rfl) (Nat.le_of_ble_eq_true rfl) dX12_init_249 (fun H hw => ?_)
  rw [← es61] at hw
  obtain ⟨st62, es62⟩ : ∃ z : St, z = sI st61 0 42 (nI 31) := ⟨_, rfl⟩
  replace hf := bnd_nm hf es62
  refine n_put (T := TX12) (st' := sI st61 0 42 (nI 31)) C hw (by decide) 42 kf_X12_103 (EL_0 X _ _) rfl inA12 tyX12_ok nmX12 (by decide) (Or.inr ⟨rfl, rfl⟩) rfl rfl rfl (Nat.le_of_ble_eq_true rfl) (by rw [gI_sI, gL_sI, EL_0, rfN_up X _ _ (by decide) (by decide)]; rfl) (sI_o _ _ _ _) dX12_init_251 (fun H locs hw => ?_)
  rw [← es62] at hw
  refine lv_aload_n hx hb dX12_init_254 rfl (lv_at hl 0 rfl) ?_
  refine lv_iconst (v := 4) hx hb dX12_init_255 (by decide) ?_
  obtain ⟨st63, es63⟩ : ∃ z : St, z = sZ st62 32 := ⟨_, rfl⟩
  replace hf := bnd_nm hf es63
  refine n_newa (t := 1) (atype := .int) (N' := 4) C hw ka_int (C.2.1.2 1 _ rfl).2 (EL_32 X _ _) (fun cA => by rw [vp_cell_i]; rfl) (by decide) (by decide) (by decide) (Nat.le_of_ble_eq_true rfl) (Nat.le_of_ble_eq_true rfl) dX12_init_256 (fun H hw => ?_)
  rw [← es63] at hw
  obtain ⟨st64, es64⟩ : ∃ z : St, z = sI st63 0 43 (nI 32) := ⟨_, rfl⟩
  replace hf := bnd_nm hf es64
  refine n_put (T := TX12) (st' := sI st63 0 43 (nI 32)) C hw (by decide) 43 kf_X12_106 (EL_0 X _ _) rfl inA12 tyX12_ok nmX12 (by decide) (Or.inr ⟨rfl, rfl⟩) rfl rfl rfl (Nat.le_of_ble_eq_true rfl) (by rw [gI_sI, gL_sI, EL_0, rfN_up X _ _ (by decide) (by decide)]; rfl) (sI_o _ _ _ _) dX12_init_258 (fun H locs hw => ?_)
  rw [← es64] at hw
  refine lv_aload_n hx hb dX12_init_261 rfl (lv_at hl 0 rfl) ?_
  refine lv_bipush (v := 11) hx hb dX12_init_262 (by decide) ?_
  obtain ⟨st65, es65⟩ : ∃ z : St, z = sZ st64 33 := ⟨_, rfl⟩
  replace hf := bnd_nm hf es65
  refine n_newa (t := 4) (atype := .boolean) (N' := 11) C hw ka_boolean (C.2.1.2 4 _ rfl).2 (EL_33 X _ _) (fun cA => by rw [vp_cell_i]; rfl) (by decide) (by decide) (by decide) (Nat.le_of_ble_eq_true rfl) (Nat.le_of_ble_eq_true rfl) dX12_init_264 (fun H hw => ?_)
  rw [← es65] at hw
  obtain ⟨st66, es66⟩ : ∃ z : St, z = sI st65 0 46 (nI 33) := ⟨_, rfl⟩
  replace hf := bnd_nm hf es66
  refine n_put (T := TX12) (st' := sI st65 0 46 (nI 33)) C hw (by decide) 46 kf_X12_109 (EL_0 X _ _) rfl inA12 tyX12_ok nmX12 (by decide) (Or.inr ⟨rfl, rfl⟩) rfl rfl rfl (Nat.le_of_ble_eq_true rfl) (by rw [gI_sI, gL_sI, EL_0, rfN_up X _ _ (by decide) (by decide)]; rfl) (sI_o _ _ _ _) dX12_init_266 (fun H locs hw => ?_)
  rw [← es66] at hw
  refine lv_aload_n hx hb dX12_init_269 rfl (lv_at hl 0 rfl) ?_
  refine lv_bipush (v := 36) hx hb dX12_init_270 (by decide) ?_
  obtain ⟨st67, es67⟩ : ∃ z : St, z = sZ st66 34 := ⟨_, rfl⟩
  replace hf := bnd_nm hf es67
  refine n_newa (t := 1) (atype := .int) (N' := 36) C hw ka_int (C.2.1.2 1 _ rfl).2 (EL_34 X _ _) (fun cA => by rw [vp_cell_i]; rfl) (by decide) (by decide) (by decide) (Nat.le_of_ble_eq_true rfl) (Nat.le_of_ble_eq_true rfl) dX12_init_272 (fun H hw => ?_)
  rw [← es67] at hw
  obtain ⟨st68, es68⟩ : ∃ z : St, z = sI st67 0 47 (nI 34) := ⟨_, rfl⟩
  replace hf := bnd_nm hf es68
  refine n_put (T := TX12) (st' := sI st67 0 47 (nI 34)) C hw (by decide) 47 kf_X12_112 (EL_0 X _ _) rfl inA12 tyX12_ok nmX12 (by decide) (Or.inr ⟨rfl, rfl⟩) rfl rfl rfl (Nat.le_of_ble_eq_true rfl) (by rw [gI_sI, gL_sI, EL_0, rfN_up X _ _ (by decide) (by decide)]; rfl) (sI_o _ _ _ _) dX12_init_274 (fun H locs hw => ?_)
  rw [← es68] at hw
  refine lv_aload_n hx hb dX12_init_277 rfl (lv_at hl 0 rfl) ?_
  refine lv_bipush (v := 8) hx hb dX12_init_278 (by decide) ?_
  obtain ⟨st69, es69⟩ : ∃ z : St, z = sZ st68 35 := ⟨_, rfl⟩
  replace hf := bnd_nm hf es69
  refine n_newa (t := 1) (atype := .int) (N' := 8) C hw ka_int (C.2.1.2 1 _ rfl).2 (EL_35 X _ _) (fun cA => by rw [vp_cell_i]; rfl) (by decide) (by decide) (by decide) (Nat.le_of_ble_eq_true rfl) (Nat.le_of_ble_eq_true rfl) dX12_init_280 (fun H hw => ?_)
  rw [← es69] at hw
  obtain ⟨st70, es70⟩ : ∃ z : St, z = sI st69 0 48 (nI 35) := ⟨_, rfl⟩
  replace hf := bnd_nm hf es70
  refine n_put (T := TX12) (st' := sI st69 0 48 (nI 35)) C hw (by decide) 48 kf_X12_115 (EL_0 X _ _) rfl inA12 tyX12_ok nmX12 (by decide) (Or.inr ⟨rfl, rfl⟩) rfl rfl rfl (Nat.le_of_ble_eq_true rfl) (by rw [gI_sI, gL_sI, EL_0, rfN_up X _ _ (by decide) (by decide)]; rfl) (sI_o _ _ _ _) dX12_init_282 (fun H locs hw => ?_)
  rw [← es70] at hw
  refine lv_aload_n hx hb dX12_init_285 rfl (lv_at hl 0 rfl) ?_
  refine lv_iconst (v := 4) hx hb dX12_init_286 (by decide) ?_
  obtain ⟨st71, es71⟩ : ∃ z : St, z = sZ st70 36 := ⟨_, rfl⟩
  replace hf := bnd_nm hf es71
  refine n_newa (t := 1) (atype := .int) (N' := 4) C hw ka_int (C.2.1.2 1 _ rfl).2 (EL_36 X _ _) (fun cA => by rw [vp_cell_i]; rfl) (by decide) (by decide) (by decide) (Nat.le_of_ble_eq_true rfl) (Nat.le_of_ble_eq_true rfl) dX12_init_287 (fun H hw => ?_)
  rw [← es71] at hw
  obtain ⟨st72, es72⟩ : ∃ z : St, z = sI st71 0 49 (nI 36) := ⟨_, rfl⟩
  replace hf := bnd_nm hf es72
  refine n_put (T := TX12) (st' := sI st71 0 49 (nI 36)) C hw (by decide) 49 kf_X12_118 (EL_0 X _ _) rfl inA12 tyX12_ok nmX12 (by decide) (Or.inr ⟨rfl, rfl⟩) rfl rfl rfl (Nat.le_of_ble_eq_true rfl) (by rw [gI_sI, gL_sI, EL_0, rfN_up X _ _ (by decide) (by decide)]; rfl) (sI_o _ _ _ _) dX12_init_289 (fun H locs hw => ?_)
  rw [← es72] at hw
  refine lv_aload_n hx hb dX12_init_292 rfl (lv_at hl 0 rfl) ?_
  refine lv_bipush (v := 50) hx hb dX12_init_293 (by decide) ?_
  obtain ⟨st73, es73⟩ : ∃ z : St, z = sZ st72 37 := ⟨_, rfl⟩
  replace hf := bnd_nm hf es73
  refine n_newa (t := 1) (atype := .int) (N' := 50) C hw ka_int (C.2.1.2 1 _ rfl).2 (EL_37 X _ _) (fun cA => by rw [vp_cell_i]; rfl) (by decide) (by decide) (by decide) (Nat.le_of_ble_eq_true rfl) (Nat.le_of_ble_eq_true rfl) dX12_init_295 (fun H hw => ?_)
  rw [← es73] at hw
  obtain ⟨st74, es74⟩ : ∃ z : St, z = sI st73 0 51 (nI 37) := ⟨_, rfl⟩
  replace hf := bnd_nm hf es74
  refine n_put (T := TX12) (st' := sI st73 0 51 (nI 37)) C hw (by decide) 51 kf_X12_121 (EL_0 X _ _) rfl inA12 tyX12_ok nmX12 (by decide) (Or.inr ⟨rfl, rfl⟩) rfl rfl rfl (Nat.le_of_ble_eq_true rfl) (by rw [gI_sI, gL_sI, EL_0, rfN_up X _ _ (by decide) (by decide)]; rfl) (sI_o _ _ _ _) dX12_init_297 (fun H locs hw => ?_)
  rw [← es74] at hw
  refine lv_aload_n hx hb dX12_init_300 rfl (lv_at hl 0 rfl) ?_
  refine lv_bipush (v := 24) hx hb dX12_init_301 (by decide) ?_
  obtain ⟨st75, es75⟩ : ∃ z : St, z = sZ st74 38 := ⟨_, rfl⟩
  replace hf := bnd_nm hf es75
  refine n_newa (t := 1) (atype := .int) (N' := 24) C hw ka_int (C.2.1.2 1 _ rfl).2 (EL_38 X _ _) (fun cA => by rw [vp_cell_i]; rfl) (by decide) (by decide) (by decide) (Nat.le_of_ble_eq_true rfl) (Nat.le_of_ble_eq_true rfl) dX12_init_303 (fun H hw => ?_)
  rw [← es75] at hw
  obtain ⟨st76, es76⟩ : ∃ z : St, z = sI st75 0 53 (nI 38) := ⟨_, rfl⟩
  replace hf := bnd_nm hf es76
  refine n_put (T := TX12) (st' := sI st75 0 53 (nI 38)) C hw (by decide) 53 kf_X12_124 (EL_0 X _ _) rfl inA12 tyX12_ok nmX12 (by decide) (Or.inr ⟨rfl, rfl⟩) rfl rfl rfl (Nat.le_of_ble_eq_true rfl) (by rw [gI_sI, gL_sI, EL_0, rfN_up X _ _ (by decide) (by decide)]; rfl) (sI_o _ _ _ _) dX12_init_305 (fun H locs hw => ?_)
  rw [← es76] at hw
  refine lv_aload_n hx hb dX12_init_308 rfl (lv_at hl 0 rfl) ?_
  refine lv_bipush (v := 6) hx hb dX12_init_309 (by decide) ?_
  obtain ⟨st77, es77⟩ : ∃ z : St, z = sZ st76 39 := ⟨_, rfl⟩
  replace hf := bnd_nm hf es77
  refine n_newa (t := 1) (atype := .int) (N' := 6) C hw ka_int (C.2.1.2 1 _ rfl).2 (EL_39 X _ _) (fun cA => by rw [vp_cell_i]; rfl) (by decide) (by decide) (by decide) (Nat.le_of_ble_eq_true rfl) (Nat.le_of_ble_eq_true rfl) dX12_init_311 (fun H hw => ?_)
  rw [← es77] at hw
  refine lv_dup hx hb dX12_init_313 rfl ?_
  refine lv_iconst (v := 0) hx hb dX12_init_314 (by decide) ?_
  refine lv_iconst (v := -1) hx hb dX12_init_315 (by decide) ?_
  obtain ⟨st78, es78⟩ : ∃ z : St, z = sI st77 39 0 (-1) := ⟨_, rfl⟩
  replace hf := bnd_nm hf es78
  refine n_iast C hw (by decide) (fun f9 => EL_39 X f9 _) (by decide) (show (0 : Int32).toNatClampNeg = 0 by decide) dX12_init_316 (fun H locs hw => ?_)
  rw [← es78] at hw
  refine lv_dup hx hb dX12_init_317 rfl ?_
  refine lv_iconst (v := 1) hx hb dX12_init_318 (by decide) ?_
  refine lv_iconst (v := -1) hx hb dX12_init_319 (by decide) ?_
  obtain ⟨st79, es79⟩ : ∃ z : St, z = sI st78 39 1 (-1) := ⟨_, rfl⟩
  replace hf := bnd_nm hf es79
  refine n_iast C hw (by decide) (fun f9 => EL_39 X f9 _) (by decide) (show (1 : Int32).toNatClampNeg = 1 by decide) dX12_init_320 (fun H locs hw => ?_)
  rw [← es79] at hw
  refine lv_dup hx hb dX12_init_321 rfl ?_
  refine lv_iconst (v := 2) hx hb dX12_init_322 (by decide) ?_
  refine lv_iconst (v := -1) hx hb dX12_init_323 (by decide) ?_
  obtain ⟨st80, es80⟩ : ∃ z : St, z = sI st79 39 2 (-1) := ⟨_, rfl⟩
  replace hf := bnd_nm hf es80
  refine n_iast C hw (by decide) (fun f9 => EL_39 X f9 _) (by decide) (show (2 : Int32).toNatClampNeg = 2 by decide) dX12_init_324 (fun H locs hw => ?_)
  rw [← es80] at hw
  refine lv_dup hx hb dX12_init_325 rfl ?_
  refine lv_iconst (v := 3) hx hb dX12_init_326 (by decide) ?_
  refine lv_iconst (v := -1) hx hb dX12_init_327 (by decide) ?_
  obtain ⟨st81, es81⟩ : ∃ z : St, z = sI st80 39 3 (-1) := ⟨_, rfl⟩
  replace hf := bnd_nm hf es81
  refine n_iast C hw (by decide) (fun f9 => EL_39 X f9 _) (by decide) (show (3 : Int32).toNatClampNeg = 3 by decide) dX12_init_328 (fun H locs hw => ?_)
  rw [← es81] at hw
  refine lv_dup hx hb dX12_init_329 rfl ?_
  refine lv_iconst (v := 4) hx hb dX12_init_330 (by decide) ?_
  refine lv_iconst (v := -1) hx hb dX12_init_331 (by decide) ?_
  obtain ⟨st82, es82⟩ : ∃ z : St, z = sI st81 39 4 (-1) := ⟨_, rfl⟩
  replace hf := bnd_nm hf es82
  refine n_iast C hw (by decide) (fun f9 => EL_39 X f9 _) (by decide) (show (4 : Int32).toNatClampNeg = 4 by decide) dX12_init_332 (fun H locs hw => ?_)
  rw [← es82] at hw
  refine lv_dup hx hb dX12_init_333 rfl ?_
  refine lv_iconst (v := 5) hx hb dX12_init_334 (by decide) ?_
  refine lv_iconst (v := -1) hx hb dX12_init_335 (by decide) ?_
  obtain ⟨st83, es83⟩ : ∃ z : St, z = sI st82 39 5 (-1) := ⟨_, rfl⟩
  replace hf := bnd_nm hf es83
  refine n_iast C hw (by decide) (fun f9 => EL_39 X f9 _) (by decide) (show (5 : Int32).toNatClampNeg = 5 by decide) dX12_init_336 (fun H locs hw => ?_)
  rw [← es83] at hw
  obtain ⟨st84, es84⟩ : ∃ z : St, z = sI st83 0 54 (nI 39) := ⟨_, rfl⟩
  replace hf := bnd_nm hf es84
  refine n_put (T := TX12) (st' := sI st83 0 54 (nI 39)) C hw (by decide) 54 kf_X12_127 (EL_0 X _ _) rfl inA12 tyX12_ok nmX12 (by decide) (Or.inr ⟨rfl, rfl⟩) rfl rfl rfl (Nat.le_of_ble_eq_true rfl) (by rw [gI_sI, gL_sI, EL_0, rfN_up X _ _ (by decide) (by decide)]; rfl) (sI_o _ _ _ _) dX12_init_337 (fun H locs hw => ?_)
  rw [← es84] at hw
  refine lv_aload_n hx hb dX12_init_340 rfl (lv_at hl 0 rfl) ?_
  refine lv_bipush (v := 6) hx hb dX12_init_341 (by decide) ?_
  obtain ⟨st85, es85⟩ : ∃ z : St, z = sZ st84 40 := ⟨_, rfl⟩
  replace hf := bnd_nm hf es85
  refine n_newa (t := 1) (atype := .int) (N' := 6) C hw ka_int (C.2.1.2 1 _ rfl).2 (EL_40 X _ _) (fun cA => by rw [vp_cell_i]; rfl) (by decide) (by decide) (by decide) (Nat.le_of_ble_eq_true rfl) (Nat.le_of_ble_eq_true rfl) dX12_init_343 (fun H hw => ?_)
  rw [← es85] at hw
  obtain ⟨st86, es86⟩ : ∃ z : St, z = sI st85 0 55 (nI 40) := ⟨_, rfl⟩
  replace hf := bnd_nm hf es86
  refine n_put (T := TX12) (st' := sI st85 0 55 (nI 40)) C hw (by decide) 55 kf_X12_130 (EL_0 X _ _) rfl inA12 tyX12_ok nmX12 (by decide) (Or.inr ⟨rfl, rfl⟩) rfl rfl rfl (Nat.le_of_ble_eq_true rfl) (by rw [gI_sI, gL_sI, EL_0, rfN_up X _ _ (by decide) (by decide)]; rfl) (sI_o _ _ _ _) dX12_init_345 (fun H locs hw => ?_)
  rw [← es86] at hw
  refine lv_aload_n hx hb dX12_init_348 rfl (lv_at hl 0 rfl) ?_
  refine lv_sipush (v := 360) hx hb dX12_init_349 (by decide) ?_
  obtain ⟨st87, es87⟩ : ∃ z : St, z = sZ st86 41 := ⟨_, rfl⟩
  replace hf := bnd_nm hf es87
  refine n_newa (t := 2) (atype := .long) (N' := 360) C hw ka_long (C.2.1.2 2 _ rfl).2 (EL_41 X _ _) (fun cA => by rw [vp_cell_l]; rfl) (by decide) (by decide) (by decide) (Nat.le_of_ble_eq_true rfl) (Nat.le_of_ble_eq_true rfl) dX12_init_352 (fun H hw => ?_)
  rw [← es87] at hw
  obtain ⟨st88, es88⟩ : ∃ z : St, z = sI st87 0 56 (nI 41) := ⟨_, rfl⟩
  replace hf := bnd_nm hf es88
  refine n_put (T := TX12) (st' := sI st87 0 56 (nI 41)) C hw (by decide) 56 kf_X12_133 (EL_0 X _ _) rfl inA12 tyX12_ok nmX12 (by decide) (Or.inr ⟨rfl, rfl⟩) rfl rfl rfl (Nat.le_of_ble_eq_true rfl) (by rw [gI_sI, gL_sI, EL_0, rfN_up X _ _ (by decide) (by decide)]; rfl) (sI_o _ _ _ _) dX12_init_354 (fun H locs hw => ?_)
  rw [← es88] at hw
  refine lv_aload_n hx hb dX12_init_357 rfl (lv_at hl 0 rfl) ?_
  refine lv_bipush (v := 60) hx hb dX12_init_358 (by decide) ?_
  obtain ⟨st89, es89⟩ : ∃ z : St, z = sZ st88 42 := ⟨_, rfl⟩
  replace hf := bnd_nm hf es89
  refine n_newa (t := 2) (atype := .long) (N' := 60) C hw ka_long (C.2.1.2 2 _ rfl).2 (EL_42 X _ _) (fun cA => by rw [vp_cell_l]; rfl) (by decide) (by decide) (by decide) (Nat.le_of_ble_eq_true rfl) (Nat.le_of_ble_eq_true rfl) dX12_init_360 (fun H hw => ?_)
  rw [← es89] at hw
  obtain ⟨st90, es90⟩ : ∃ z : St, z = sI st89 0 57 (nI 42) := ⟨_, rfl⟩
  replace hf := bnd_nm hf es90
  refine n_put (T := TX12) (st' := sI st89 0 57 (nI 42)) C hw (by decide) 57 kf_X12_137 (EL_0 X _ _) rfl inA12 tyX12_ok nmX12 (by decide) (Or.inr ⟨rfl, rfl⟩) rfl rfl rfl (Nat.le_of_ble_eq_true rfl) (by rw [gI_sI, gL_sI, EL_0, rfN_up X _ _ (by decide) (by decide)]; rfl) (sI_o _ _ _ _) dX12_init_362 (fun H locs hw => ?_)
  rw [← es90] at hw
  exact n_ret C hw rfl hf rfl rfl dX12_init_365
