theorem iX7_goes_2 : zI cX7_goes 2 (.invokevirtual 51) 3 5 := ⟨by decide +kernel, rfl⟩
set_option maxRecDepth 100000 in
theorem wX7_141 : zCv RX7 141 yX7_aim cX7_aim 3 (some .int) 2 := ⟨⟨(zmem 936 (by decide +kernel) (by decide +kernel)), (zmem 76 (by decide +kernel) (by decide +kernel)), (zmem 939 rfl rfl), ⟨by decide, by decide, by decide +kernel⟩, by decide⟩, (zmem 938 (by decide +kernel) (by decide +kernel)), (zmem 41 (by decide +kernel) (by decide +kernel))⟩
theorem iX7_goes_18 : zI cX7_goes 18 (.invokevirtual 141) 3 21 := ⟨by decide +kernel, rfl⟩
set_option maxRecDepth 100000 in
theorem wX7_144 : zCv RX7 144 yX7_follow cX7_follow 8 none 2 := ⟨⟨(zmem 940 (by decide +kernel) (by decide +kernel)), (zmem 76 (by decide +kernel) (by decide +kernel)), (zmem 943 rfl rfl), ⟨by decide, by decide, by decide +kernel⟩, by decide⟩, (zmem 942 (by decide +kernel) (by decide +kernel)), (zmem 42 (by decide +kernel) (by decide +kernel))⟩
theorem iX7_goes_21 : zI cX7_goes 21 (.invokevirtual 144) 3 24 := ⟨by decide +kernel, rfl⟩
theorem iX7_goes_27 : zI cX7_goes 27 (.invokevirtual 130) 3 30 := ⟨by decide +kernel, rfl⟩
theorem iX7_goes_75 : zI cX7_goes 75 (.ifCond .eq 10) 3 78 := ⟨by decide +kernel, rfl⟩
set_option maxRecDepth 100000 in
theorem wX7_147 : zCv RX7 147 yX7_goesDark cX7_goesDark 3 none 1 := ⟨⟨(zmem 948 (by decide +kernel) (by decide +kernel)), (zmem 76 (by decide +kernel) (by decide +kernel)), (zmem 951 rfl rfl), ⟨by decide, by decide, by decide +kernel⟩, by decide⟩, (zmem 950 (by decide +kernel) (by decide +kernel)), (zmem 44 (by decide +kernel) (by decide +kernel))⟩
theorem iX7_goes_87 : zI cX7_goes 87 (.invokevirtual 147) 3 90 := ⟨by decide +kernel, rfl⟩
theorem iX7_goes_90 : zI cX7_goes 90 (.return_) 1 91 := ⟨by decide +kernel, rfl⟩
theorem iX7_goes_86 : zI cX7_goes 86 (.iload_n 2) 1 87 := ⟨by decide +kernel, rfl⟩
theorem iX7_goes_85 : zI cX7_goes 85 (.aload_n 0) 1 86 := ⟨by decide +kernel, rfl⟩
theorem iX7_goes_82 : zI cX7_goes 82 (.if_icmp .ge 9) 3 85 := ⟨by decide +kernel, rfl⟩
theorem iX7_goes_94 : zI cX7_goes 94 (.invokevirtual 134) 3 97 := ⟨by decide +kernel, rfl⟩
theorem iX7_goes_108 : zI cX7_goes 108 (.if_icmp .gt 89) 3 111 := ⟨by decide +kernel, rfl⟩
set_option maxRecDepth 100000 in
theorem wX7_150 : zCv RX7 150 yX7_counts cX7_counts 6 none 3 := ⟨⟨(zmem 964 (by decide +kernel) (by decide +kernel)), (zmem 76 (by decide +kernel) (by decide +kernel)), (zmem 967 rfl rfl), ⟨by decide, by decide, by decide +kernel⟩, by decide⟩, (zmem 966 (by decide +kernel) (by decide +kernel)), (zmem 48 (by decide +kernel) (by decide +kernel))⟩
theorem iX7_goes_154 : zI cX7_goes 154 (.invokevirtual 150) 3 157 := ⟨by decide +kernel, rfl⟩
theorem iX7_goes_170 : zI cX7_goes 170 (.if_icmp .lt 21) 3 173 := ⟨by decide +kernel, rfl⟩
theorem iX7_goes_194 : zI cX7_goes 194 (.goto (-94)) 3 197 := ⟨by decide +kernel, rfl⟩
theorem iX7_goes_191 : zI cX7_goes 191 (.iinc 5 1) 3 194 := ⟨by decide +kernel, rfl⟩
theorem iX7_goes_177 : zI cX7_goes 177 (.invokevirtual 138) 3 180 := ⟨by decide +kernel, rfl⟩
theorem iX7_goes_180 : zI cX7_goes 180 (.ifCond .eq 11) 3 183 := ⟨by decide +kernel, rfl⟩
theorem iX7_goes_188 : zI cX7_goes 188 (.invokevirtual 150) 3 191 := ⟨by decide +kernel, rfl⟩
theorem iX7_goes_187 : zI cX7_goes 187 (.iconst 0) 1 188 := ⟨by decide +kernel, rfl⟩
theorem iX7_goes_185 : zI cX7_goes 185 (.iload 5) 2 187 := ⟨by decide +kernel, rfl⟩
theorem iX7_goes_184 : zI cX7_goes 184 (.iload_n 2) 1 185 := ⟨by decide +kernel, rfl⟩
theorem iX7_goes_183 : zI cX7_goes 183 (.aload_n 0) 1 184 := ⟨by decide +kernel, rfl⟩
theorem iX7_goes_175 : zI cX7_goes 175 (.iload 5) 2 177 := ⟨by decide +kernel, rfl⟩
theorem iX7_goes_174 : zI cX7_goes 174 (.iload_n 2) 1 175 := ⟨by decide +kernel, rfl⟩
theorem iX7_goes_173 : zI cX7_goes 173 (.aload_n 0) 1 174 := ⟨by decide +kernel, rfl⟩
theorem iX7_goes_169 : zI cX7_goes 169 (.iaload) 1 170 := ⟨by decide +kernel, rfl⟩
theorem iX7_goes_168 : zI cX7_goes 168 (.iadd) 1 169 := ⟨by decide +kernel, rfl⟩
theorem iX7_goes_167 : zI cX7_goes 167 (.iconst 1) 1 168 := ⟨by decide +kernel, rfl⟩
theorem iX7_goes_166 : zI cX7_goes 166 (.imul) 1 167 := ⟨by decide +kernel, rfl⟩
theorem iX7_goes_164 : zI cX7_goes 164 (.iload 5) 2 166 := ⟨by decide +kernel, rfl⟩
theorem iX7_goes_163 : zI cX7_goes 163 (.iconst 2) 1 164 := ⟨by decide +kernel, rfl⟩
theorem iX7_goes_160 : zI cX7_goes 160 (.getfield 25) 3 163 := ⟨by decide +kernel, rfl⟩
theorem iX7_goes_159 : zI cX7_goes 159 (.aload_n 0) 1 160 := ⟨by decide +kernel, rfl⟩
theorem iX7_goes_157 : zI cX7_goes 157 (.iload 6) 2 159 := ⟨by decide +kernel, rfl⟩
theorem iX7_goes_152 : zI cX7_goes 152 (.iload 6) 2 154 := ⟨by decide +kernel, rfl⟩
theorem iX7_goes_150 : zI cX7_goes 150 (.iload 5) 2 152 := ⟨by decide +kernel, rfl⟩
theorem iX7_goes_149 : zI cX7_goes 149 (.iload_n 2) 1 150 := ⟨by decide +kernel, rfl⟩
theorem iX7_goes_148 : zI cX7_goes 148 (.aload_n 0) 1 149 := ⟨by decide +kernel, rfl⟩
theorem iX7_goes_146 : zI cX7_goes 146 (.istore 6) 2 148 := ⟨by decide +kernel, rfl⟩
theorem iX7_goes_122 : zI cX7_goes 122 (.if_icmp .ge 23) 3 125 := ⟨by decide +kernel, rfl⟩
theorem iX7_goes_145 : zI cX7_goes 145 (.iconst 0) 1 146 := ⟨by decide +kernel, rfl⟩
theorem iX7_goes_142 : zI cX7_goes 142 (.goto 4) 3 145 := ⟨by decide +kernel, rfl⟩
theorem iX7_goes_141 : zI cX7_goes 141 (.iadd) 1 142 := ⟨by decide +kernel, rfl⟩
theorem iX7_goes_140 : zI cX7_goes 140 (.iconst 1) 1 141 := ⟨by decide +kernel, rfl⟩
theorem iX7_goes_139 : zI cX7_goes 139 (.iaload) 1 140 := ⟨by decide +kernel, rfl⟩
theorem iX7_goes_138 : zI cX7_goes 138 (.iadd) 1 139 := ⟨by decide +kernel, rfl⟩
theorem iX7_goes_136 : zI cX7_goes 136 (.iload 5) 2 138 := ⟨by decide +kernel, rfl⟩
theorem iX7_goes_135 : zI cX7_goes 135 (.iadd) 1 136 := ⟨by decide +kernel, rfl⟩
theorem iX7_goes_134 : zI cX7_goes 134 (.imul) 1 135 := ⟨by decide +kernel, rfl⟩
theorem iX7_goes_133 : zI cX7_goes 133 (.iload_n 1) 1 134 := ⟨by decide +kernel, rfl⟩
theorem iX7_goes_131 : zI cX7_goes 131 (.bipush 6) 2 133 := ⟨by decide +kernel, rfl⟩
theorem iX7_goes_129 : zI cX7_goes 129 (.bipush 6) 2 131 := ⟨by decide +kernel, rfl⟩
theorem iX7_goes_126 : zI cX7_goes 126 (.getfield 28) 3 129 := ⟨by decide +kernel, rfl⟩
theorem iX7_goes_125 : zI cX7_goes 125 (.aload_n 0) 1 126 := ⟨by decide +kernel, rfl⟩
theorem iX7_goes_121 : zI cX7_goes 121 (.iaload) 1 122 := ⟨by decide +kernel, rfl⟩
theorem iX7_goes_120 : zI cX7_goes 120 (.iadd) 1 121 := ⟨by decide +kernel, rfl⟩
theorem iX7_goes_118 : zI cX7_goes 118 (.iload 5) 2 120 := ⟨by decide +kernel, rfl⟩
theorem iX7_goes_116 : zI cX7_goes 116 (.bipush 60) 2 118 := ⟨by decide +kernel, rfl⟩
theorem iX7_goes_113 : zI cX7_goes 113 (.getfield 28) 3 116 := ⟨by decide +kernel, rfl⟩
theorem iX7_goes_112 : zI cX7_goes 112 (.aload_n 0) 1 113 := ⟨by decide +kernel, rfl⟩
theorem iX7_goes_111 : zI cX7_goes 111 (.iload_n 3) 1 112 := ⟨by decide +kernel, rfl⟩
theorem iX7_goes_107 : zI cX7_goes 107 (.iaload) 1 108 := ⟨by decide +kernel, rfl⟩
theorem iX7_goes_106 : zI cX7_goes 106 (.iconst 4) 1 107 := ⟨by decide +kernel, rfl⟩
theorem iX7_goes_103 : zI cX7_goes 103 (.getfield 13) 3 106 := ⟨by decide +kernel, rfl⟩
theorem iX7_goes_102 : zI cX7_goes 102 (.aload_n 0) 1 103 := ⟨by decide +kernel, rfl⟩
theorem iX7_goes_100 : zI cX7_goes 100 (.iload 5) 2 102 := ⟨by decide +kernel, rfl⟩
theorem iX7_goes_267 : zI cX7_goes 267 (.invokevirtual 150) 3 270 := ⟨by decide +kernel, rfl⟩
theorem iX7_goes_274 : zI cX7_goes 274 (.if_icmp .eq 19) 3 277 := ⟨by decide +kernel, rfl⟩
theorem iX7_goes_293 : zI cX7_goes 293 (.return_) 1 294 := ⟨by decide +kernel, rfl⟩
set_option maxRecDepth 100000 in
theorem wX7_157 : zCv RX7 157 yX7_on cX7_on 4 none 1 := ⟨⟨(zmem 972 (by decide +kernel) (by decide +kernel)), (zmem 76 (by decide +kernel) (by decide +kernel)), (zmem 975 rfl rfl), ⟨by decide, by decide, by decide +kernel⟩, by decide⟩, (zmem 974 (by decide +kernel) (by decide +kernel)), (zmem 50 (by decide +kernel) (by decide +kernel))⟩
theorem iX7_goes_280 : zI cX7_goes 280 (.invokevirtual 157) 3 283 := ⟨by decide +kernel, rfl⟩
theorem fX7_160 : zFl RX7 160 7 15 := ⟨RX7, TX7, 17, rfl, by decide, (zmem 812 (by decide +kernel) (by decide +kernel)), u_inX7⟩
theorem pX7_160 : zFp RX7 160 7 15 := ⟨RX7, TX7, 17, rfl, by decide, (zmem 812 (by decide +kernel) (by decide +kernel)), u_inX7, by decide +kernel, by decide +kernel, ⟨tyX7, tyX7_ok⟩, nmX7⟩
theorem iX7_goes_290 : zI cX7_goes 290 (.putfield 160) 3 293 := ⟨by decide +kernel, rfl⟩
theorem iX7_goes_289 : zI cX7_goes 289 (.iadd) 1 290 := ⟨by decide +kernel, rfl⟩
theorem iX7_goes_288 : zI cX7_goes 288 (.iconst 1) 1 289 := ⟨by decide +kernel, rfl⟩
theorem iX7_goes_285 : zI cX7_goes 285 (.getfield 160) 3 288 := ⟨by decide +kernel, rfl⟩
theorem iX7_goes_284 : zI cX7_goes 284 (.dup) 1 285 := ⟨by decide +kernel, rfl⟩
theorem iX7_goes_283 : zI cX7_goes 283 (.aload_n 0) 1 284 := ⟨by decide +kernel, rfl⟩
theorem iX7_goes_278 : zI cX7_goes 278 (.iload 6) 2 280 := ⟨by decide +kernel, rfl⟩
theorem iX7_goes_277 : zI cX7_goes 277 (.aload_n 0) 1 278 := ⟨by decide +kernel, rfl⟩
theorem iX7_goes_272 : zI cX7_goes 272 (.bipush (-4)) 2 274 := ⟨by decide +kernel, rfl⟩
theorem iX7_goes_270 : zI cX7_goes 270 (.iload 6) 2 272 := ⟨by decide +kernel, rfl⟩
theorem iX7_goes_258 : zI cX7_goes 258 (.if_icmp .ne 8) 3 261 := ⟨by decide +kernel, rfl⟩
theorem iX7_goes_266 : zI cX7_goes 266 (.iconst 0) 1 267 := ⟨by decide +kernel, rfl⟩
theorem iX7_goes_263 : zI cX7_goes 263 (.goto 4) 3 266 := ⟨by decide +kernel, rfl⟩
theorem iX7_goes_261 : zI cX7_goes 261 (.iload 5) 2 263 := ⟨by decide +kernel, rfl⟩
theorem iX7_goes_256 : zI cX7_goes 256 (.bipush (-4)) 2 258 := ⟨by decide +kernel, rfl⟩
theorem iX7_goes_254 : zI cX7_goes 254 (.iload 6) 2 256 := ⟨by decide +kernel, rfl⟩
theorem iX7_goes_253 : zI cX7_goes 253 (.iconst 0) 1 254 := ⟨by decide +kernel, rfl⟩
theorem iX7_goes_252 : zI cX7_goes 252 (.iload_n 2) 1 253 := ⟨by decide +kernel, rfl⟩
theorem iX7_goes_251 : zI cX7_goes 251 (.aload_n 0) 1 252 := ⟨by decide +kernel, rfl⟩
theorem iX7_goes_249 : zI cX7_goes 249 (.istore 6) 2 251 := ⟨by decide +kernel, rfl⟩
theorem iX7_goes_236 : zI cX7_goes 236 (.if_icmp .lt 11) 3 239 := ⟨by decide +kernel, rfl⟩
theorem iX7_goes_247 : zI cX7_goes 247 (.bipush (-4)) 2 249 := ⟨by decide +kernel, rfl⟩
set_option maxRecDepth 100000 in
theorem wX7_154 : zCv RX7 154 yX7_fitting cX7_fitting 5 (some .int) 1 := ⟨⟨(zmem 968 (by decide +kernel) (by decide +kernel)), (zmem 76 (by decide +kernel) (by decide +kernel)), (zmem 971 rfl rfl), ⟨by decide, by decide, by decide +kernel⟩, by decide⟩, (zmem 970 (by decide +kernel) (by decide +kernel)), (zmem 49 (by decide +kernel) (by decide +kernel))⟩
theorem iX7_goes_241 : zI cX7_goes 241 (.invokevirtual 154) 3 244 := ⟨by decide +kernel, rfl⟩
theorem iX7_goes_244 : zI cX7_goes 244 (.goto 5) 3 247 := ⟨by decide +kernel, rfl⟩
theorem iX7_goes_240 : zI cX7_goes 240 (.iload_n 2) 1 241 := ⟨by decide +kernel, rfl⟩
theorem iX7_goes_239 : zI cX7_goes 239 (.aload_n 0) 1 240 := ⟨by decide +kernel, rfl⟩
theorem iX7_goes_235 : zI cX7_goes 235 (.iaload) 1 236 := ⟨by decide +kernel, rfl⟩
theorem iX7_goes_234 : zI cX7_goes 234 (.iconst 1) 1 235 := ⟨by decide +kernel, rfl⟩
theorem iX7_goes_231 : zI cX7_goes 231 (.getfield 25) 3 234 := ⟨by decide +kernel, rfl⟩
theorem iX7_goes_230 : zI cX7_goes 230 (.aload_n 0) 1 231 := ⟨by decide +kernel, rfl⟩
theorem iX7_goes_228 : zI cX7_goes 228 (.iload 5) 2 230 := ⟨by decide +kernel, rfl⟩
theorem iX7_goes_226 : zI cX7_goes 226 (.istore 5) 2 228 := ⟨by decide +kernel, rfl⟩
theorem iX7_goes_205 : zI cX7_goes 205 (.if_icmp .lt 20) 3 208 := ⟨by decide +kernel, rfl⟩
theorem iX7_goes_225 : zI cX7_goes 225 (.iconst 0) 1 226 := ⟨by decide +kernel, rfl⟩
theorem iX7_goes_222 : zI cX7_goes 222 (.goto 4) 3 225 := ⟨by decide +kernel, rfl⟩
theorem iX7_goes_221 : zI cX7_goes 221 (.iadd) 1 222 := ⟨by decide +kernel, rfl⟩
theorem iX7_goes_220 : zI cX7_goes 220 (.iconst 1) 1 221 := ⟨by decide +kernel, rfl⟩
theorem iX7_goes_219 : zI cX7_goes 219 (.iaload) 1 220 := ⟨by decide +kernel, rfl⟩
theorem iX7_goes_218 : zI cX7_goes 218 (.iadd) 1 219 := ⟨by decide +kernel, rfl⟩
theorem iX7_goes_217 : zI cX7_goes 217 (.imul) 1 218 := ⟨by decide +kernel, rfl⟩
theorem iX7_goes_216 : zI cX7_goes 216 (.iload_n 1) 1 217 := ⟨by decide +kernel, rfl⟩
theorem iX7_goes_214 : zI cX7_goes 214 (.bipush 6) 2 216 := ⟨by decide +kernel, rfl⟩
theorem iX7_goes_212 : zI cX7_goes 212 (.bipush 6) 2 214 := ⟨by decide +kernel, rfl⟩
theorem iX7_goes_209 : zI cX7_goes 209 (.getfield 28) 3 212 := ⟨by decide +kernel, rfl⟩
theorem iX7_goes_208 : zI cX7_goes 208 (.aload_n 0) 1 209 := ⟨by decide +kernel, rfl⟩
theorem iX7_goes_204 : zI cX7_goes 204 (.iaload) 1 205 := ⟨by decide +kernel, rfl⟩
theorem iX7_goes_202 : zI cX7_goes 202 (.bipush 60) 2 204 := ⟨by decide +kernel, rfl⟩
theorem iX7_goes_199 : zI cX7_goes 199 (.getfield 28) 3 202 := ⟨by decide +kernel, rfl⟩
theorem iX7_goes_198 : zI cX7_goes 198 (.aload_n 0) 1 199 := ⟨by decide +kernel, rfl⟩
theorem iX7_goes_197 : zI cX7_goes 197 (.iload_n 3) 1 198 := ⟨by decide +kernel, rfl⟩
theorem iX7_goes_98 : zI cX7_goes 98 (.istore 5) 2 100 := ⟨by decide +kernel, rfl⟩
theorem iX7_goes_97 : zI cX7_goes 97 (.iconst 1) 1 98 := ⟨by decide +kernel, rfl⟩
theorem iX7_goes_93 : zI cX7_goes 93 (.iload_n 3) 1 94 := ⟨by decide +kernel, rfl⟩
theorem iX7_goes_92 : zI cX7_goes 92 (.iload_n 2) 1 93 := ⟨by decide +kernel, rfl⟩
theorem iX7_goes_91 : zI cX7_goes 91 (.aload_n 0) 1 92 := ⟨by decide +kernel, rfl⟩
theorem iX7_goes_79 : zI cX7_goes 79 (.sipush 4700) 3 82 := ⟨by decide +kernel, rfl⟩
theorem iX7_goes_78 : zI cX7_goes 78 (.iload_n 3) 1 79 := ⟨by decide +kernel, rfl⟩
theorem iX7_goes_73 : zI cX7_goes 73 (.iload 4) 2 75 := ⟨by decide +kernel, rfl⟩
theorem iX7_goes_34 : zI cX7_goes 34 (.ifCond .le 39) 3 37 := ⟨by decide +kernel, rfl⟩
theorem iX7_goes_43 : zI cX7_goes 43 (.invokevirtual 130) 3 46 := ⟨by decide +kernel, rfl⟩
theorem iX7_goes_48 : zI cX7_goes 48 (.invokevirtual 63) 3 51 := ⟨by decide +kernel, rfl⟩
theorem iX7_goes_62 : zI cX7_goes 62 (.if_icmp .le 9) 3 65 := ⟨by decide +kernel, rfl⟩
theorem iX7_goes_72 : zI cX7_goes 72 (.istore_n 3) 1 73 := ⟨by decide +kernel, rfl⟩
theorem iX7_goes_71 : zI cX7_goes 71 (.iload_n 3) 1 72 := ⟨by decide +kernel, rfl⟩
theorem iX7_goes_68 : zI cX7_goes 68 (.goto 4) 3 71 := ⟨by decide +kernel, rfl⟩
theorem iX7_goes_65 : zI cX7_goes 65 (.sipush 5200) 3 68 := ⟨by decide +kernel, rfl⟩
theorem iX7_goes_59 : zI cX7_goes 59 (.sipush 5200) 3 62 := ⟨by decide +kernel, rfl⟩
theorem iX7_goes_58 : zI cX7_goes 58 (.iload_n 3) 1 59 := ⟨by decide +kernel, rfl⟩
theorem iX7_goes_57 : zI cX7_goes 57 (.istore_n 3) 1 58 := ⟨by decide +kernel, rfl⟩
theorem iX7_goes_56 : zI cX7_goes 56 (.iadd) 1 57 := ⟨by decide +kernel, rfl⟩
theorem iX7_goes_55 : zI cX7_goes 55 (.idiv) 1 56 := ⟨by decide +kernel, rfl⟩
theorem iX7_goes_53 : zI cX7_goes 53 (.iload 4) 2 55 := ⟨by decide +kernel, rfl⟩
theorem iX7_goes_52 : zI cX7_goes 52 (.imul) 1 53 := ⟨by decide +kernel, rfl⟩
theorem iX7_goes_51 : zI cX7_goes 51 (.isub) 1 52 := ⟨by decide +kernel, rfl⟩
theorem iX7_goes_47 : zI cX7_goes 47 (.iload_n 2) 1 48 := ⟨by decide +kernel, rfl⟩
theorem iX7_goes_46 : zI cX7_goes 46 (.aload_n 0) 1 47 := ⟨by decide +kernel, rfl⟩
theorem iX7_goes_42 : zI cX7_goes 42 (.iconst 0) 1 43 := ⟨by decide +kernel, rfl⟩
theorem iX7_goes_41 : zI cX7_goes 41 (.iload_n 2) 1 42 := ⟨by decide +kernel, rfl⟩
theorem iX7_goes_40 : zI cX7_goes 40 (.aload_n 0) 1 41 := ⟨by decide +kernel, rfl⟩
theorem iX7_goes_38 : zI cX7_goes 38 (.bipush 10) 2 40 := ⟨by decide +kernel, rfl⟩
theorem iX7_goes_37 : zI cX7_goes 37 (.iload_n 3) 1 38 := ⟨by decide +kernel, rfl⟩
theorem iX7_goes_32 : zI cX7_goes 32 (.iload 4) 2 34 := ⟨by decide +kernel, rfl⟩
theorem iX7_goes_30 : zI cX7_goes 30 (.istore 4) 2 32 := ⟨by decide +kernel, rfl⟩
theorem iX7_goes_26 : zI cX7_goes 26 (.iconst 3) 1 27 := ⟨by decide +kernel, rfl⟩
theorem iX7_goes_25 : zI cX7_goes 25 (.iload_n 2) 1 26 := ⟨by decide +kernel, rfl⟩
theorem iX7_goes_24 : zI cX7_goes 24 (.aload_n 0) 1 25 := ⟨by decide +kernel, rfl⟩
theorem iX7_goes_17 : zI cX7_goes 17 (.iload_n 3) 1 18 := ⟨by decide +kernel, rfl⟩
theorem iX7_goes_16 : zI cX7_goes 16 (.iload_n 2) 1 17 := ⟨by decide +kernel, rfl⟩
theorem iX7_goes_15 : zI cX7_goes 15 (.aload_n 0) 1 16 := ⟨by decide +kernel, rfl⟩
theorem iX7_goes_14 : zI cX7_goes 14 (.iload_n 2) 1 15 := ⟨by decide +kernel, rfl⟩
theorem iX7_goes_13 : zI cX7_goes 13 (.aload_n 0) 1 14 := ⟨by decide +kernel, rfl⟩
theorem iX7_goes_12 : zI cX7_goes 12 (.istore_n 3) 1 13 := ⟨by decide +kernel, rfl⟩
theorem iX7_goes_11 : zI cX7_goes 11 (.iaload) 1 12 := ⟨by decide +kernel, rfl⟩
theorem iX7_goes_10 : zI cX7_goes 10 (.iload_n 1) 1 11 := ⟨by decide +kernel, rfl⟩
theorem iX7_goes_7 : zI cX7_goes 7 (.getfield 28) 3 10 := ⟨by decide +kernel, rfl⟩
theorem iX7_goes_6 : zI cX7_goes 6 (.aload_n 0) 1 7 := ⟨by decide +kernel, rfl⟩
theorem iX7_goes_5 : zI cX7_goes 5 (.istore_n 2) 1 6 := ⟨by decide +kernel, rfl⟩
theorem iX7_goes_1 : zI cX7_goes 1 (.iload_n 1) 1 2 := ⟨by decide +kernel, rfl⟩
theorem iX7_goes_0 : zI cX7_goes 0 (.aload_n 0) 1 1 := ⟨by decide +kernel, rfl⟩
set_option maxHeartbeats 4000000 in
set_option maxRecDepth 100000 in
theorem m_Mo_goes (x1 : Int32) (h : zH) : zM yX7_goes cX7_goes 7 none 3 shM (fun ad => [.ref (ad 0), .int x1]) h eV (Mo_goes x1 h) := by
  refine zM.of (by decide) (fun _ => rfl) (fun _ => Nat.le_of_ble_eq_true rfl) (fun X ad hnL C => ?_)
  show zG X ad shM eV 0 [some (.ref (ad 0)), some (.int x1), none, none, none, none, none] [] h _
  unfold Mo_goes
  refine g_aload_n C iX7_goes_0 rfl ?_
  refine g_iload_n C iX7_goes_1 rfl ?_
  refine g_callV C wX7_51 iX7_goes_2 (m_Mo_busesOf x1 h) (by decide) mh0 rfl rfl rfl rfl (Nat.le_of_ble_eq_true rfl) (fun r => ?_)
  show zG X ad shM eV 5 [some (.ref (ad 0)), some (.int x1), none, none, none, none, none] [.int r] h _
  refine g_istore_n (lv' := [some (.ref (ad 0)), some (.int x1), some (.int r), none, none, none, none]) C hnL iX7_goes_5 (by decide) rfl ?_
  refine g_aload_n C iX7_goes_6 rfl ?_
  refine g_getR (b := 7) C fX7_28 iX7_goes_7 mh0 rfl ?_
  refine g_iload_n C iX7_goes_10 rfl ?_
  refine g_iaload C iX7_goes_11 mh7 ?_
  refine g_top (fun x3 => ?_)
  refine g_istore_n (lv' := [some (.ref (ad 0)), some (.int x1), some (.int r), some (.int x3), none, none, none]) C hnL iX7_goes_12 (by decide) rfl ?_
  refine g_aload_n C iX7_goes_13 rfl ?_
  refine g_iload_n C iX7_goes_14 rfl ?_
  refine g_aload_n C iX7_goes_15 rfl ?_
  refine g_iload_n C iX7_goes_16 rfl ?_
  refine g_iload_n C iX7_goes_17 rfl ?_
  refine g_callV C wX7_141 iX7_goes_18 (m_Mo_aim r x3 h) (by decide) mh0 rfl rfl rfl rfl (Nat.le_of_ble_eq_true rfl) (fun r_1 => ?_)
  show zG X ad shM eV 21 [some (.ref (ad 0)), some (.int x1), some (.int r), some (.int x3), none, none, none] [.int r_1, .int r, .ref (ad 0)] h _
  refine g_callV C wX7_144 iX7_goes_21 (m_Mo_follow r r_1 h) (by decide) mh0 rfl rfl rfl rfl (Nat.le_of_ble_eq_true rfl) (fun h_1 => ?_)
  show zG X ad shM eV 24 [some (.ref (ad 0)), some (.int x1), some (.int r), some (.int x3), none, none, none] [] h_1 _
  refine g_aload_n C iX7_goes_24 rfl ?_
  refine g_iload_n C iX7_goes_25 rfl ?_
  refine g_iconst C 3 iX7_goes_26 (by decide) ?_
  refine g_callV C wX7_130 iX7_goes_27 (m_Mo_plants r 3 h_1) (by decide) mh0 rfl rfl rfl rfl (Nat.le_of_ble_eq_true rfl) (fun r_2 => ?_)
  show zG X ad shM eV 30 [some (.ref (ad 0)), some (.int x1), some (.int r), some (.int x3), none, none, none] [.int r_2] h_1 _
  refine g_istore (lv' := [some (.ref (ad 0)), some (.int x1), some (.int r), some (.int x3), some (.int r_2), none, none]) C hnL iX7_goes_30 (by decide) rfl ?_
  refine g_iload C iX7_goes_32 rfl ?_
  refine g_let (fun j73 ej73 => ?_)
  have hj73 : ∀ (x3_1 : Int32), zG X ad shM eV 73 [some (.ref (ad 0)), some (.int x1), some (.int r), some (.int x3_1), some (.int r_2), none, none] [] h_1 (j73 x3_1) := by
    intro x3_1
    subst ej73
    refine g_iload C iX7_goes_73 rfl ?_
    refine g_if_eq C 85 iX7_goes_75 (by decide) (fun c75 => ?_) (fun c75 => ?_)
    · refine g_aload_n C iX7_goes_85 rfl ?_
      refine g_iload_n C iX7_goes_86 rfl ?_
      refine g_callV C wX7_147 iX7_goes_87 (m_Mo_goesDark r h_1) (by decide) mh0 rfl rfl rfl rfl (Nat.le_of_ble_eq_true rfl) (fun h_2 => ?_)
      show zG X ad shM eV 90 [some (.ref (ad 0)), some (.int x1), some (.int r), some (.int x3_1), some (.int r_2), none, none] [] h_2 _
      exact g_vret C iX7_goes_90 rfl
    · refine g_iload_n C iX7_goes_78 rfl ?_
      refine g_sipush C 4700 iX7_goes_79 (by decide) ?_
      refine g_icmp_ge C 91 iX7_goes_82 (by decide) (fun c82 => ?_) (fun c82 => ?_)
      · refine g_aload_n C iX7_goes_91 rfl ?_
        refine g_iload_n C iX7_goes_92 rfl ?_
        refine g_iload_n C iX7_goes_93 rfl ?_
        refine g_callV C wX7_134 iX7_goes_94 (m_Mo_frequency r x3_1 h_1) (by decide) mh0 rfl rfl rfl rfl (Nat.le_of_ble_eq_true rfl) (fun h_3 => ?_)
        show zG X ad shM eV 97 [some (.ref (ad 0)), some (.int x1), some (.int r), some (.int x3_1), some (.int r_2), none, none] [] h_3 _
        refine g_iconst C 1 iX7_goes_97 (by decide) ?_
        refine g_istore (lv' := [some (.ref (ad 0)), some (.int x1), some (.int r), some (.int x3_1), some (.int r_2), some (.int 1), none]) C hnL iX7_goes_98 (by decide) rfl ?_
        have L100 : ∀ (k197 : zH → Option (zH)), (∀ (hy : zH), zG X ad shM eV 197 [some (.ref (ad 0)), some (.int x1), some (.int r), some (.int x3_1), none, none, none] [] hy (k197 hy)) → ∀ (n : Nat) (x5 : Int32) (h_4 : zH), zG X ad shM eV 100 [some (.ref (ad 0)), some (.int x1), some (.int r), some (.int x3_1), none, some (.int x5), none] [] h_4 (Mo_goes_L100 x1 r x3_1 k197 n x5 h_4) := by
          intro k197 hk197 n
          induction n with
          | zero =>
            intro x5 h_4
            exact g_none
          | succ n ih100 =>
            intro x5 h_4
            rw [Mo_goes_L100]
            refine g_iload C iX7_goes_100 rfl ?_
            refine g_aload_n C iX7_goes_102 rfl ?_
            refine g_getR (b := 2) C fX7_13 iX7_goes_103 mh0 rfl ?_
            refine g_iconst C 4 iX7_goes_106 (by decide) ?_
            refine g_ialoadL C 4 iX7_goes_107 mh2 (by decide) (by decide) ?_
            refine g_icmp_gt C 197 iX7_goes_108 (by decide) (fun c108 => ?_) (fun c108 => ?_)
            · refine g_sub (lv' := [some (.ref (ad 0)), some (.int x1), some (.int r), some (.int x3_1), none, none, none]) ⟨rfl, ⟨rfl, ⟨rfl, ⟨rfl, trivial⟩⟩⟩⟩ ?_
              exact hk197 _
            · refine g_iload_n C iX7_goes_111 rfl ?_
              refine g_aload_n C iX7_goes_112 rfl ?_
              refine g_getR (b := 7) C fX7_28 iX7_goes_113 mh0 rfl ?_
              refine g_bipush C 60 iX7_goes_116 (by decide) ?_
              refine g_iload C iX7_goes_118 rfl ?_
              refine g_iadd C iX7_goes_120 ?_
              refine g_iaload C iX7_goes_121 mh7 ?_
              refine g_let (fun j146 ej146 => ?_)
              have hj146 : ∀ (v146 : Int32), zG X ad shM eV 146 [some (.ref (ad 0)), some (.int x1), some (.int r), some (.int x3_1), none, some (.int x5), none] [.int v146] h_4 (j146 v146) := by
                intro v146
                subst ej146
                refine g_istore (lv' := [some (.ref (ad 0)), some (.int x1), some (.int r), some (.int x3_1), none, some (.int x5), some (.int v146)]) C hnL iX7_goes_146 (by decide) rfl ?_
                refine g_aload_n C iX7_goes_148 rfl ?_
                refine g_iload_n C iX7_goes_149 rfl ?_
                refine g_iload C iX7_goes_150 rfl ?_
                refine g_iload C iX7_goes_152 rfl ?_
                refine g_callV C wX7_150 iX7_goes_154 (m_Mo_counts r x5 v146 h_4) (by decide) mh0 rfl rfl rfl rfl (Nat.le_of_ble_eq_true rfl) (fun h_5 => ?_)
                show zG X ad shM eV 157 [some (.ref (ad 0)), some (.int x1), some (.int r), some (.int x3_1), none, some (.int x5), some (.int v146)] [] h_5 _
                refine g_iload C iX7_goes_157 rfl ?_
                refine g_aload_n C iX7_goes_159 rfl ?_
                refine g_getR (b := 6) C fX7_25 iX7_goes_160 mh0 rfl ?_
                refine g_iconst C 2 iX7_goes_163 (by decide) ?_
                refine g_iload C iX7_goes_164 rfl ?_
                refine g_imul C iX7_goes_166 ?_
                refine g_iconst C 1 iX7_goes_167 (by decide) ?_
                refine g_iadd C iX7_goes_168 ?_
                refine g_iaload C iX7_goes_169 mh6 ?_
                refine g_icmp_lt C 191 iX7_goes_170 (by decide) (fun c170 => ?_) (fun c170 => ?_)
                · refine g_iinc (v := (x5 + 1)) (lv' := [some (.ref (ad 0)), some (.int x1), some (.int r), some (.int x3_1), none, some (.int (x5 + 1)), some (.int v146)]) C hnL iX7_goes_191 (by decide) rfl rfl rfl ?_
                  refine g_goto C 100 iX7_goes_194 (by decide) ?_
                  refine g_sub (lv' := [some (.ref (ad 0)), some (.int x1), some (.int r), some (.int x3_1), none, some (.int (x5 + 1)), none]) ⟨rfl, ⟨rfl, ⟨rfl, ⟨rfl, ⟨rfl, trivial⟩⟩⟩⟩⟩ ?_
                  exact ih100 _ _
                · refine g_aload_n C iX7_goes_173 rfl ?_
                  refine g_iload_n C iX7_goes_174 rfl ?_
                  refine g_iload C iX7_goes_175 rfl ?_
                  refine g_callV C wX7_138 iX7_goes_177 (m_Mo_dropAll r x5 h_5) (by decide) mh0 rfl rfl rfl rfl (Nat.le_of_ble_eq_true rfl) (fun r_3 => ?_)
                  show zG X ad shM eV 180 [some (.ref (ad 0)), some (.int x1), some (.int r), some (.int x3_1), none, some (.int x5), some (.int v146)] [.int r_3.1] r_3.2 _
                  refine g_if_eq C 191 iX7_goes_180 (by decide) (fun c180 => ?_) (fun c180 => ?_)
                  · refine g_iinc (v := (x5 + 1)) (lv' := [some (.ref (ad 0)), some (.int x1), some (.int r), some (.int x3_1), none, some (.int (x5 + 1)), some (.int v146)]) C hnL iX7_goes_191 (by decide) rfl rfl rfl ?_
                    refine g_goto C 100 iX7_goes_194 (by decide) ?_
                    refine g_sub (lv' := [some (.ref (ad 0)), some (.int x1), some (.int r), some (.int x3_1), none, some (.int (x5 + 1)), none]) ⟨rfl, ⟨rfl, ⟨rfl, ⟨rfl, ⟨rfl, trivial⟩⟩⟩⟩⟩ ?_
                    exact ih100 _ _
                  · refine g_aload_n C iX7_goes_183 rfl ?_
                    refine g_iload_n C iX7_goes_184 rfl ?_
                    refine g_iload C iX7_goes_185 rfl ?_
                    refine g_iconst C 0 iX7_goes_187 (by decide) ?_
                    refine g_callV C wX7_150 iX7_goes_188 (m_Mo_counts r x5 0 r_3.2) (by decide) mh0 rfl rfl rfl rfl (Nat.le_of_ble_eq_true rfl) (fun h_6 => ?_)
                    show zG X ad shM eV 191 [some (.ref (ad 0)), some (.int x1), some (.int r), some (.int x3_1), none, some (.int x5), some (.int v146)] [] h_6 _
                    refine g_iinc (v := (x5 + 1)) (lv' := [some (.ref (ad 0)), some (.int x1), some (.int r), some (.int x3_1), none, some (.int (x5 + 1)), some (.int v146)]) C hnL iX7_goes_191 (by decide) rfl rfl rfl ?_
                    refine g_goto C 100 iX7_goes_194 (by decide) ?_
                    refine g_sub (lv' := [some (.ref (ad 0)), some (.int x1), some (.int r), some (.int x3_1), none, some (.int (x5 + 1)), none]) ⟨rfl, ⟨rfl, ⟨rfl, ⟨rfl, ⟨rfl, trivial⟩⟩⟩⟩⟩ ?_
                    exact ih100 _ _
              clear ej146
              refine g_icmp_ge C 145 iX7_goes_122 (by decide) (fun c122 => ?_) (fun c122 => ?_)
              · refine g_iconst C 0 iX7_goes_145 (by decide) ?_
                exact hj146 _
              · refine g_aload_n C iX7_goes_125 rfl ?_
                refine g_getR (b := 7) C fX7_28 iX7_goes_126 mh0 rfl ?_
                refine g_bipush C 6 iX7_goes_129 (by decide) ?_
                refine g_bipush C 6 iX7_goes_131 (by decide) ?_
                refine g_iload_n C iX7_goes_133 rfl ?_
                refine g_imul C iX7_goes_134 ?_
                refine g_iadd C iX7_goes_135 ?_
                refine g_iload C iX7_goes_136 rfl ?_
                refine g_iadd C iX7_goes_138 ?_
                refine g_iaload C iX7_goes_139 mh7 ?_
                refine g_iconst C 1 iX7_goes_140 (by decide) ?_
                refine g_iadd C iX7_goes_141 ?_
                refine g_goto C 146 iX7_goes_142 (by decide) ?_
                exact hj146 _
        refine g_sub (lv' := [some (.ref (ad 0)), some (.int x1), some (.int r), some (.int x3_1), none, some (.int 1), none]) ⟨rfl, ⟨rfl, ⟨rfl, ⟨rfl, ⟨rfl, trivial⟩⟩⟩⟩⟩ ?_
        refine L100 _ (fun h_7 => ?_) 1000 _ _
        show zG X ad shM eV 197 [some (.ref (ad 0)), some (.int x1), some (.int r), some (.int x3_1), none, none, none] [] h_7 _
        refine g_iload_n C iX7_goes_197 rfl ?_
        refine g_aload_n C iX7_goes_198 rfl ?_
        refine g_getR (b := 7) C fX7_28 iX7_goes_199 mh0 rfl ?_
        refine g_bipush C 60 iX7_goes_202 (by decide) ?_
        refine g_ialoadL C 60 iX7_goes_204 mh7 (by decide) (by decide) ?_
        refine g_let (fun j226 ej226 => ?_)
        have hj226 : ∀ (v226 : Int32), zG X ad shM eV 226 [some (.ref (ad 0)), none, some (.int r), none, none, none, none] [.int v226] h_7 (j226 v226) := by
          intro v226
          subst ej226
          refine g_istore (lv' := [some (.ref (ad 0)), none, some (.int r), none, none, some (.int v226), none]) C hnL iX7_goes_226 (by decide) rfl ?_
          refine g_iload C iX7_goes_228 rfl ?_
          refine g_aload_n C iX7_goes_230 rfl ?_
          refine g_getR (b := 6) C fX7_25 iX7_goes_231 mh0 rfl ?_
          refine g_iconst C 1 iX7_goes_234 (by decide) ?_
          refine g_ialoadL C 1 iX7_goes_235 mh6 (by decide) (by decide) ?_
          refine g_let (fun j249 ej249 => ?_)
          have hj249 : ∀ (v249 : Int32), zG X ad shM eV 249 [some (.ref (ad 0)), none, some (.int r), none, none, some (.int v226), none] [.int v249] h_7 (j249 v249) := by
            intro v249
            subst ej249
            refine g_istore (lv' := [some (.ref (ad 0)), none, some (.int r), none, none, some (.int v226), some (.int v249)]) C hnL iX7_goes_249 (by decide) rfl ?_
            refine g_aload_n C iX7_goes_251 rfl ?_
            refine g_iload_n C iX7_goes_252 rfl ?_
            refine g_iconst C 0 iX7_goes_253 (by decide) ?_
            refine g_iload C iX7_goes_254 rfl ?_
            refine g_bipush C (-4) iX7_goes_256 (by decide) ?_
            refine g_let (fun j267 ej267 => ?_)
            have hj267 : ∀ (v267 : Int32), zG X ad shM eV 267 [some (.ref (ad 0)), none, none, none, none, none, some (.int v249)] [.int v267, .int 0, .int r, .ref (ad 0)] h_7 (j267 v267) := by
              intro v267
              subst ej267
              refine g_callV C wX7_150 iX7_goes_267 (m_Mo_counts r 0 v267 h_7) (by decide) mh0 rfl rfl rfl rfl (Nat.le_of_ble_eq_true rfl) (fun h_8 => ?_)
              show zG X ad shM eV 270 [some (.ref (ad 0)), none, none, none, none, none, some (.int v249)] [] h_8 _
              refine g_iload C iX7_goes_270 rfl ?_
              refine g_bipush C (-4) iX7_goes_272 (by decide) ?_
              refine g_icmp_eq C 293 iX7_goes_274 (by decide) (fun c274 => ?_) (fun c274 => ?_)
              · exact g_vret C iX7_goes_293 rfl
              · refine g_aload_n C iX7_goes_277 rfl ?_
                refine g_iload C iX7_goes_278 rfl ?_
                refine g_callV C wX7_157 iX7_goes_280 (m_Mo_on v249 h_8) (by decide) mh0 rfl rfl rfl rfl (Nat.le_of_ble_eq_true rfl) (fun h_9 => ?_)
                show zG X ad shM eV 283 [some (.ref (ad 0)), none, none, none, none, none, some (.int v249)] [] h_9 _
                refine g_aload_n C iX7_goes_283 rfl ?_
                refine g_dup C iX7_goes_284 rfl ?_
                refine g_getI C fX7_160 iX7_goes_285 mh0 rfl ?_
                refine g_iconst C 1 iX7_goes_288 (by decide) ?_
                refine g_iadd C iX7_goes_289 ?_
                refine g_putI C pX7_160 iX7_goes_290 mh0 rfl (fun h_10 => ?_)
                exact g_vret C iX7_goes_293 rfl
            clear ej267
            refine g_icmp_ne C 266 iX7_goes_258 (by decide) (fun c258 => ?_) (fun c258 => ?_)
            · refine g_iload C iX7_goes_261 rfl ?_
              refine g_goto C 267 iX7_goes_263 (by decide) ?_
              refine g_sub (lv' := [some (.ref (ad 0)), none, none, none, none, none, some (.int v249)]) ⟨rfl, ⟨rfl, trivial⟩⟩ ?_
              exact hj267 _
            · refine g_iconst C 0 iX7_goes_266 (by decide) ?_
              refine g_sub (lv' := [some (.ref (ad 0)), none, none, none, none, none, some (.int v249)]) ⟨rfl, ⟨rfl, trivial⟩⟩ ?_
              exact hj267 _
          clear ej249
          refine g_icmp_lt C 247 iX7_goes_236 (by decide) (fun c236 => ?_) (fun c236 => ?_)
          · refine g_bipush C (-4) iX7_goes_247 (by decide) ?_
            exact hj249 _
          · refine g_aload_n C iX7_goes_239 rfl ?_
            refine g_iload_n C iX7_goes_240 rfl ?_
            refine g_callV C wX7_154 iX7_goes_241 (m_Mo_fitting r h_7) (by decide) mh0 rfl rfl rfl rfl (Nat.le_of_ble_eq_true rfl) (fun r_4 => ?_)
            show zG X ad shM eV 244 [some (.ref (ad 0)), none, some (.int r), none, none, some (.int v226), none] [.int r_4] h_7 _
            refine g_goto C 249 iX7_goes_244 (by decide) ?_
            exact hj249 _
        clear ej226
        refine g_icmp_lt C 225 iX7_goes_205 (by decide) (fun c205 => ?_) (fun c205 => ?_)
        · refine g_iconst C 0 iX7_goes_225 (by decide) ?_
          refine g_sub (lv' := [some (.ref (ad 0)), none, some (.int r), none, none, none, none]) ⟨rfl, ⟨rfl, trivial⟩⟩ ?_
          exact hj226 _
        · refine g_aload_n C iX7_goes_208 rfl ?_
          refine g_getR (b := 7) C fX7_28 iX7_goes_209 mh0 rfl ?_
          refine g_bipush C 6 iX7_goes_212 (by decide) ?_
          refine g_bipush C 6 iX7_goes_214 (by decide) ?_
          refine g_iload_n C iX7_goes_216 rfl ?_
          refine g_imul C iX7_goes_217 ?_
          refine g_iadd C iX7_goes_218 ?_
          refine g_iaload C iX7_goes_219 mh7 ?_
          refine g_iconst C 1 iX7_goes_220 (by decide) ?_
          refine g_iadd C iX7_goes_221 ?_
          refine g_goto C 226 iX7_goes_222 (by decide) ?_
          refine g_sub (lv' := [some (.ref (ad 0)), none, some (.int r), none, none, none, none]) ⟨rfl, ⟨rfl, trivial⟩⟩ ?_
          exact hj226 _
      · refine g_aload_n C iX7_goes_85 rfl ?_
        refine g_iload_n C iX7_goes_86 rfl ?_
        refine g_callV C wX7_147 iX7_goes_87 (m_Mo_goesDark r h_1) (by decide) mh0 rfl rfl rfl rfl (Nat.le_of_ble_eq_true rfl) (fun h_11 => ?_)
        show zG X ad shM eV 90 [some (.ref (ad 0)), some (.int x1), some (.int r), some (.int x3_1), some (.int r_2), none, none] [] h_11 _
        exact g_vret C iX7_goes_90 rfl
  clear ej73
  refine g_if_le C 73 iX7_goes_34 (by decide) (fun c34 => ?_) (fun c34 => ?_)
  · exact hj73 _
  · refine g_iload_n C iX7_goes_37 rfl ?_
    refine g_bipush C 10 iX7_goes_38 (by decide) ?_
    refine g_aload_n C iX7_goes_40 rfl ?_
    refine g_iload_n C iX7_goes_41 rfl ?_
    refine g_iconst C 0 iX7_goes_42 (by decide) ?_
    refine g_callV C wX7_130 iX7_goes_43 (m_Mo_plants r 0 h_1) (by decide) mh0 rfl rfl rfl rfl (Nat.le_of_ble_eq_true rfl) (fun r_5 => ?_)
    show zG X ad shM eV 46 [some (.ref (ad 0)), some (.int x1), some (.int r), some (.int x3), some (.int r_2), none, none] [.int r_5, .int 10, .int x3] h_1 _
    refine g_aload_n C iX7_goes_46 rfl ?_
    refine g_iload_n C iX7_goes_47 rfl ?_
    refine g_callV C wX7_63 iX7_goes_48 (m_Mo_load r h_1) (by decide) mh0 rfl rfl rfl rfl (Nat.le_of_ble_eq_true rfl) (fun r_6 => ?_)
    show zG X ad shM eV 51 [some (.ref (ad 0)), some (.int x1), some (.int r), some (.int x3), some (.int r_2), none, none] [.int r_6, .int r_5, .int 10, .int x3] h_1 _
    refine g_isub C iX7_goes_51 ?_
    refine g_imul C iX7_goes_52 ?_
    refine g_iload C iX7_goes_53 rfl ?_
    refine g_idiv C iX7_goes_55 ?_
    refine g_iadd C iX7_goes_56 ?_
    refine g_top (fun x3_2 => ?_)
    refine g_istore_n (lv' := [some (.ref (ad 0)), some (.int x1), some (.int r), some (.int x3_2), some (.int r_2), none, none]) C hnL iX7_goes_57 (by decide) rfl ?_
    refine g_iload_n C iX7_goes_58 rfl ?_
    refine g_sipush C 5200 iX7_goes_59 (by decide) ?_
    refine g_icmp_le C 71 iX7_goes_62 (by decide) (fun c62 => ?_) (fun c62 => ?_)
    · refine g_iload_n C iX7_goes_71 rfl ?_
      refine g_istore_n (lv' := [some (.ref (ad 0)), some (.int x1), some (.int r), some (.int x3_2), some (.int r_2), none, none]) C hnL iX7_goes_72 (by decide) rfl ?_
      exact hj73 _
    · refine g_sipush C 5200 iX7_goes_65 (by decide) ?_
      refine g_goto C 72 iX7_goes_68 (by decide) ?_
      refine g_istore_n (lv' := [some (.ref (ad 0)), some (.int x1), some (.int r), some (.int 5200), some (.int r_2), none, none]) C hnL iX7_goes_72 (by decide) rfl ?_
      exact hj73 _

theorem iX7_ticks_9 : zI cX7_ticks 9 (.if_icmp .ge 31) 3 12 := ⟨by decide +kernel, rfl⟩
theorem iX7_ticks_14 : zI cX7_ticks 14 (.invokevirtual 47) 3 17 := ⟨by decide +kernel, rfl⟩
theorem iX7_ticks_17 : zI cX7_ticks 17 (.ifCond .eq 17) 3 20 := ⟨by decide +kernel, rfl⟩
theorem iX7_ticks_37 : zI cX7_ticks 37 (.goto (-35)) 3 40 := ⟨by decide +kernel, rfl⟩
theorem iX7_ticks_34 : zI cX7_ticks 34 (.iinc 1 1) 3 37 := ⟨by decide +kernel, rfl⟩
theorem iX7_ticks_26 : zI cX7_ticks 26 (.ifCond .le 8) 3 29 := ⟨by decide +kernel, rfl⟩
set_option maxRecDepth 100000 in
theorem wX7_163 : zCv RX7 163 yX7_goes cX7_goes 7 none 1 := ⟨⟨(zmem 932 (by decide +kernel) (by decide +kernel)), (zmem 76 (by decide +kernel) (by decide +kernel)), (zmem 935 rfl rfl), ⟨by decide, by decide, by decide +kernel⟩, by decide⟩, (zmem 934 (by decide +kernel) (by decide +kernel)), (zmem 40 (by decide +kernel) (by decide +kernel))⟩
theorem iX7_ticks_31 : zI cX7_ticks 31 (.invokevirtual 163) 3 34 := ⟨by decide +kernel, rfl⟩
theorem iX7_ticks_30 : zI cX7_ticks 30 (.iload_n 1) 1 31 := ⟨by decide +kernel, rfl⟩
theorem iX7_ticks_29 : zI cX7_ticks 29 (.aload_n 0) 1 30 := ⟨by decide +kernel, rfl⟩
theorem iX7_ticks_25 : zI cX7_ticks 25 (.iaload) 1 26 := ⟨by decide +kernel, rfl⟩
theorem iX7_ticks_24 : zI cX7_ticks 24 (.iload_n 1) 1 25 := ⟨by decide +kernel, rfl⟩
theorem iX7_ticks_21 : zI cX7_ticks 21 (.getfield 28) 3 24 := ⟨by decide +kernel, rfl⟩
theorem iX7_ticks_20 : zI cX7_ticks 20 (.aload_n 0) 1 21 := ⟨by decide +kernel, rfl⟩
theorem iX7_ticks_13 : zI cX7_ticks 13 (.iload_n 1) 1 14 := ⟨by decide +kernel, rfl⟩
theorem iX7_ticks_12 : zI cX7_ticks 12 (.aload_n 0) 1 13 := ⟨by decide +kernel, rfl⟩
theorem iX7_ticks_8 : zI cX7_ticks 8 (.iaload) 1 9 := ⟨by decide +kernel, rfl⟩
theorem iX7_ticks_7 : zI cX7_ticks 7 (.iconst 0) 1 8 := ⟨by decide +kernel, rfl⟩
theorem iX7_ticks_4 : zI cX7_ticks 4 (.getfield 13) 3 7 := ⟨by decide +kernel, rfl⟩
theorem iX7_ticks_3 : zI cX7_ticks 3 (.aload_n 0) 1 4 := ⟨by decide +kernel, rfl⟩
theorem iX7_ticks_2 : zI cX7_ticks 2 (.iload_n 1) 1 3 := ⟨by decide +kernel, rfl⟩
theorem iX7_ticks_51 : zI cX7_ticks 51 (.return_) 1 52 := ⟨by decide +kernel, rfl⟩
theorem iX7_ticks_50 : zI cX7_ticks 50 (.iastore) 1 51 := ⟨by decide +kernel, rfl⟩
theorem iX7_ticks_49 : zI cX7_ticks 49 (.iadd) 1 50 := ⟨by decide +kernel, rfl⟩
theorem iX7_ticks_48 : zI cX7_ticks 48 (.iconst 1) 1 49 := ⟨by decide +kernel, rfl⟩
theorem iX7_ticks_47 : zI cX7_ticks 47 (.iaload) 1 48 := ⟨by decide +kernel, rfl⟩
theorem iX7_ticks_46 : zI cX7_ticks 46 (.dup2) 1 47 := ⟨by decide +kernel, rfl⟩
theorem iX7_ticks_44 : zI cX7_ticks 44 (.bipush 66) 2 46 := ⟨by decide +kernel, rfl⟩
theorem iX7_ticks_41 : zI cX7_ticks 41 (.getfield 28) 3 44 := ⟨by decide +kernel, rfl⟩
theorem iX7_ticks_40 : zI cX7_ticks 40 (.aload_n 0) 1 41 := ⟨by decide +kernel, rfl⟩
theorem iX7_ticks_1 : zI cX7_ticks 1 (.istore_n 1) 1 2 := ⟨by decide +kernel, rfl⟩
theorem iX7_ticks_0 : zI cX7_ticks 0 (.iconst 0) 1 1 := ⟨by decide +kernel, rfl⟩
set_option maxHeartbeats 4000000 in
set_option maxRecDepth 100000 in
theorem m_Mo_ticks (h : zH) : zM yX7_ticks cX7_ticks 2 none 4 shM (fun ad => [.ref (ad 0)]) h eV (Mo_ticks h) := by
  refine zM.of (by decide) (fun _ => rfl) (fun _ => Nat.le_of_ble_eq_true rfl) (fun X ad hnL C => ?_)
  show zG X ad shM eV 0 [some (.ref (ad 0)), none] [] h _
  unfold Mo_ticks
  refine g_iconst C 0 iX7_ticks_0 (by decide) ?_
  refine g_istore_n (lv' := [some (.ref (ad 0)), some (.int 0)]) C hnL iX7_ticks_1 (by decide) rfl ?_
  have L2 : ∀ (k40 : zH → Option (zH)), (∀ (hy : zH), zG X ad shM eV 40 [some (.ref (ad 0)), none] [] hy (k40 hy)) → ∀ (n : Nat) (x1 : Int32) (h_1 : zH), zG X ad shM eV 2 [some (.ref (ad 0)), some (.int x1)] [] h_1 (Mo_ticks_L2 k40 n x1 h_1) := by
    intro k40 hk40 n
    induction n with
    | zero =>
      intro x1 h_1
      exact g_none
    | succ n ih2 =>
      intro x1 h_1
      rw [Mo_ticks_L2]
      refine g_iload_n C iX7_ticks_2 rfl ?_
      refine g_aload_n C iX7_ticks_3 rfl ?_
      refine g_getR (b := 2) C fX7_13 iX7_ticks_4 mh0 rfl ?_
      refine g_iconst C 0 iX7_ticks_7 (by decide) ?_
      refine g_ialoadL C 0 iX7_ticks_8 mh2 (by decide) (by decide) ?_
      refine g_icmp_ge C 40 iX7_ticks_9 (by decide) (fun c9 => ?_) (fun c9 => ?_)
      · refine g_sub (lv' := [some (.ref (ad 0)), none]) ⟨rfl, trivial⟩ ?_
        exact hk40 _
      · refine g_aload_n C iX7_ticks_12 rfl ?_
        refine g_iload_n C iX7_ticks_13 rfl ?_
        refine g_callV C wX7_47 iX7_ticks_14 (m_Mo_isLowest x1 h_1) (by decide) mh0 rfl rfl rfl rfl (Nat.le_of_ble_eq_true rfl) (fun r => ?_)
        show zG X ad shM eV 17 [some (.ref (ad 0)), some (.int x1)] [.int r] h_1 _
        refine g_if_eq C 34 iX7_ticks_17 (by decide) (fun c17 => ?_) (fun c17 => ?_)
        · refine g_iinc (v := (x1 + 1)) (lv' := [some (.ref (ad 0)), some (.int (x1 + 1))]) C hnL iX7_ticks_34 (by decide) rfl rfl rfl ?_
          refine g_goto C 2 iX7_ticks_37 (by decide) ?_
          exact ih2 _ _
        · refine g_aload_n C iX7_ticks_20 rfl ?_
          refine g_getR (b := 7) C fX7_28 iX7_ticks_21 mh0 rfl ?_
          refine g_iload_n C iX7_ticks_24 rfl ?_
          refine g_iaload C iX7_ticks_25 mh7 ?_
          refine g_if_le C 34 iX7_ticks_26 (by decide) (fun c26 => ?_) (fun c26 => ?_)
          · refine g_iinc (v := (x1 + 1)) (lv' := [some (.ref (ad 0)), some (.int (x1 + 1))]) C hnL iX7_ticks_34 (by decide) rfl rfl rfl ?_
            refine g_goto C 2 iX7_ticks_37 (by decide) ?_
            exact ih2 _ _
          · refine g_aload_n C iX7_ticks_29 rfl ?_
            refine g_iload_n C iX7_ticks_30 rfl ?_
            refine g_callV C wX7_163 iX7_ticks_31 (m_Mo_goes x1 h_1) (by decide) mh0 rfl rfl rfl rfl (Nat.le_of_ble_eq_true rfl) (fun h_2 => ?_)
            show zG X ad shM eV 34 [some (.ref (ad 0)), some (.int x1)] [] h_2 _
            refine g_iinc (v := (x1 + 1)) (lv' := [some (.ref (ad 0)), some (.int (x1 + 1))]) C hnL iX7_ticks_34 (by decide) rfl rfl rfl ?_
            refine g_goto C 2 iX7_ticks_37 (by decide) ?_
            exact ih2 _ _
  refine L2 _ (fun h_3 => ?_) 1000 _ _
  show zG X ad shM eV 40 [some (.ref (ad 0)), none] [] h_3 _
  refine g_aload_n C iX7_ticks_40 rfl ?_
  refine g_getR (b := 7) C fX7_28 iX7_ticks_41 mh0 rfl ?_
  refine g_bipush C 66 iX7_ticks_44 (by decide) ?_
  refine g_dup2 C iX7_ticks_46 rfl rfl ?_
  refine g_ialoadL C 66 iX7_ticks_47 mh7 (by decide) (by decide) ?_
  refine g_iconst C 1 iX7_ticks_48 (by decide) ?_
  refine g_iadd C iX7_ticks_49 ?_
  refine g_iastoreL C 66 iX7_ticks_50 mh7 (by decide) (by decide) (fun h_4 => ?_)
  exact g_vret C iX7_ticks_51 rfl

theorem iX7_fresh_20 : zI cX7_fresh 20 (.return_) 1 21 := ⟨by decide +kernel, rfl⟩
theorem iX7_fresh_17 : zI cX7_fresh 17 (.putfield 124) 3 20 := ⟨by decide +kernel, rfl⟩
theorem iX7_fresh_16 : zI cX7_fresh 16 (.iconst 0) 1 17 := ⟨by decide +kernel, rfl⟩
theorem iX7_fresh_15 : zI cX7_fresh 15 (.aload_n 0) 1 16 := ⟨by decide +kernel, rfl⟩
theorem iX7_fresh_12 : zI cX7_fresh 12 (.putfield 160) 3 15 := ⟨by decide +kernel, rfl⟩
theorem iX7_fresh_11 : zI cX7_fresh 11 (.iconst 0) 1 12 := ⟨by decide +kernel, rfl⟩
theorem iX7_fresh_10 : zI cX7_fresh 10 (.aload_n 0) 1 11 := ⟨by decide +kernel, rfl⟩
theorem iX7_fresh_7 : zI cX7_fresh 7 (.putfield 121) 3 10 := ⟨by decide +kernel, rfl⟩
theorem iX7_fresh_6 : zI cX7_fresh 6 (.iconst 0) 1 7 := ⟨by decide +kernel, rfl⟩
theorem iX7_fresh_5 : zI cX7_fresh 5 (.aload_n 0) 1 6 := ⟨by decide +kernel, rfl⟩
theorem iX7_fresh_2 : zI cX7_fresh 2 (.putfield 118) 3 5 := ⟨by decide +kernel, rfl⟩
theorem iX7_fresh_1 : zI cX7_fresh 1 (.iconst 0) 1 2 := ⟨by decide +kernel, rfl⟩
theorem iX7_fresh_0 : zI cX7_fresh 0 (.aload_n 0) 1 1 := ⟨by decide +kernel, rfl⟩
set_option maxHeartbeats 4000000 in
set_option maxRecDepth 100000 in
theorem m_Mo_fresh (h : zH) : zM yX7_fresh cX7_fresh 1 none 0 shM (fun ad => [.ref (ad 0)]) h eV (Mo_fresh h) := by
  refine zM.of (by decide) (fun _ => rfl) (fun _ => Nat.le_of_ble_eq_true rfl) (fun X ad hnL C => ?_)
  show zG X ad shM eV 0 [some (.ref (ad 0))] [] h _
  unfold Mo_fresh
  refine g_aload_n C iX7_fresh_0 rfl ?_
  refine g_iconst C 0 iX7_fresh_1 (by decide) ?_
  refine g_putI C pX7_118 iX7_fresh_2 mh0 rfl (fun h_1 => ?_)
  refine g_aload_n C iX7_fresh_5 rfl ?_
  refine g_iconst C 0 iX7_fresh_6 (by decide) ?_
  refine g_putI C pX7_121 iX7_fresh_7 mh0 rfl (fun h_2 => ?_)
  refine g_aload_n C iX7_fresh_10 rfl ?_
  refine g_iconst C 0 iX7_fresh_11 (by decide) ?_
  refine g_putI C pX7_160 iX7_fresh_12 mh0 rfl (fun h_3 => ?_)
  refine g_aload_n C iX7_fresh_15 rfl ?_
  refine g_iconst C 0 iX7_fresh_16 (by decide) ?_
  refine g_putI C pX7_124 iX7_fresh_17 mh0 rfl (fun h_4 => ?_)
  exact g_vret C iX7_fresh_20 rfl

theorem fX7_59 : zFl RX7 59 7 10 := ⟨RX7, TX7, 17, rfl, by decide, (zmem 807 (by decide +kernel) (by decide +kernel)), u_inX7⟩
theorem iX7_keeps_53 : zI cX7_keeps 53 (.if_icmp .ge 29) 3 56 := ⟨by decide +kernel, rfl⟩
theorem fX7_31 : zFl RX7 31 7 8 := ⟨RX7, TX7, 17, rfl, by decide, (zmem 805 (by decide +kernel) (by decide +kernel)), u_inX7⟩
theorem iX7_keeps_79 : zI cX7_keeps 79 (.goto (-29)) 3 82 := ⟨by decide +kernel, rfl⟩
theorem iX7_keeps_76 : zI cX7_keeps 76 (.iinc 1 1) 3 79 := ⟨by decide +kernel, rfl⟩
theorem iX7_keeps_75 : zI cX7_keeps 75 (.iastore) 1 76 := ⟨by decide +kernel, rfl⟩
theorem iX7_keeps_74 : zI cX7_keeps 74 (.iaload) 1 75 := ⟨by decide +kernel, rfl⟩
theorem iX7_keeps_73 : zI cX7_keeps 73 (.iload_n 1) 1 74 := ⟨by decide +kernel, rfl⟩
theorem iX7_keeps_70 : zI cX7_keeps 70 (.getfield 28) 3 73 := ⟨by decide +kernel, rfl⟩
theorem iX7_keeps_69 : zI cX7_keeps 69 (.aload_n 0) 1 70 := ⟨by decide +kernel, rfl⟩
theorem iX7_keeps_68 : zI cX7_keeps 68 (.iadd) 1 69 := ⟨by decide +kernel, rfl⟩
theorem iX7_keeps_67 : zI cX7_keeps 67 (.iload_n 1) 1 68 := ⟨by decide +kernel, rfl⟩
theorem iX7_keeps_66 : zI cX7_keeps 66 (.imul) 1 67 := ⟨by decide +kernel, rfl⟩
theorem iX7_keeps_63 : zI cX7_keeps 63 (.getfield 59) 3 66 := ⟨by decide +kernel, rfl⟩
theorem iX7_keeps_62 : zI cX7_keeps 62 (.aload_n 0) 1 63 := ⟨by decide +kernel, rfl⟩
theorem iX7_keeps_60 : zI cX7_keeps 60 (.bipush 67) 2 62 := ⟨by decide +kernel, rfl⟩
theorem iX7_keeps_57 : zI cX7_keeps 57 (.getfield 31) 3 60 := ⟨by decide +kernel, rfl⟩
theorem iX7_keeps_56 : zI cX7_keeps 56 (.aload_n 0) 1 57 := ⟨by decide +kernel, rfl⟩
theorem iX7_keeps_51 : zI cX7_keeps 51 (.bipush 67) 2 53 := ⟨by decide +kernel, rfl⟩
theorem iX7_keeps_50 : zI cX7_keeps 50 (.iload_n 1) 1 51 := ⟨by decide +kernel, rfl⟩
theorem iX7_keeps_92 : zI cX7_keeps 92 (.return_) 1 93 := ⟨by decide +kernel, rfl⟩
theorem iX7_keeps_89 : zI cX7_keeps 89 (.putfield 59) 3 92 := ⟨by decide +kernel, rfl⟩
theorem iX7_keeps_88 : zI cX7_keeps 88 (.iadd) 1 89 := ⟨by decide +kernel, rfl⟩
theorem iX7_keeps_87 : zI cX7_keeps 87 (.iconst 1) 1 88 := ⟨by decide +kernel, rfl⟩
theorem iX7_keeps_84 : zI cX7_keeps 84 (.getfield 59) 3 87 := ⟨by decide +kernel, rfl⟩
theorem iX7_keeps_83 : zI cX7_keeps 83 (.dup) 1 84 := ⟨by decide +kernel, rfl⟩
theorem iX7_keeps_82 : zI cX7_keeps 82 (.aload_n 0) 1 83 := ⟨by decide +kernel, rfl⟩
theorem iX7_keeps_49 : zI cX7_keeps 49 (.istore_n 1) 1 50 := ⟨by decide +kernel, rfl⟩
theorem iX7_keeps_48 : zI cX7_keeps 48 (.iconst 0) 1 49 := ⟨by decide +kernel, rfl⟩
theorem iX7_keeps_5 : zI cX7_keeps 5 (.if_icmp .ne 43) 3 8 := ⟨by decide +kernel, rfl⟩
theorem iX7_keeps_14 : zI cX7_keeps 14 (.if_icmp .ge 24) 3 17 := ⟨by decide +kernel, rfl⟩
theorem iX7_keeps_35 : zI cX7_keeps 35 (.goto (-25)) 3 38 := ⟨by decide +kernel, rfl⟩
theorem iX7_keeps_32 : zI cX7_keeps 32 (.iinc 1 1) 3 35 := ⟨by decide +kernel, rfl⟩
theorem iX7_keeps_31 : zI cX7_keeps 31 (.iastore) 1 32 := ⟨by decide +kernel, rfl⟩
theorem iX7_keeps_30 : zI cX7_keeps 30 (.iaload) 1 31 := ⟨by decide +kernel, rfl⟩
theorem iX7_keeps_29 : zI cX7_keeps 29 (.iadd) 1 30 := ⟨by decide +kernel, rfl⟩
theorem iX7_keeps_27 : zI cX7_keeps 27 (.bipush 67) 2 29 := ⟨by decide +kernel, rfl⟩
theorem iX7_keeps_26 : zI cX7_keeps 26 (.iload_n 1) 1 27 := ⟨by decide +kernel, rfl⟩
theorem iX7_keeps_23 : zI cX7_keeps 23 (.getfield 31) 3 26 := ⟨by decide +kernel, rfl⟩
theorem iX7_keeps_22 : zI cX7_keeps 22 (.aload_n 0) 1 23 := ⟨by decide +kernel, rfl⟩
theorem iX7_keeps_21 : zI cX7_keeps 21 (.iload_n 1) 1 22 := ⟨by decide +kernel, rfl⟩
theorem iX7_keeps_18 : zI cX7_keeps 18 (.getfield 31) 3 21 := ⟨by decide +kernel, rfl⟩
theorem iX7_keeps_17 : zI cX7_keeps 17 (.aload_n 0) 1 18 := ⟨by decide +kernel, rfl⟩
theorem iX7_keeps_11 : zI cX7_keeps 11 (.sipush 201) 3 14 := ⟨by decide +kernel, rfl⟩
theorem iX7_keeps_10 : zI cX7_keeps 10 (.iload_n 1) 1 11 := ⟨by decide +kernel, rfl⟩
theorem iX7_keeps_45 : zI cX7_keeps 45 (.putfield 59) 3 48 := ⟨by decide +kernel, rfl⟩
theorem iX7_keeps_44 : zI cX7_keeps 44 (.isub) 1 45 := ⟨by decide +kernel, rfl⟩
theorem iX7_keeps_43 : zI cX7_keeps 43 (.iconst 1) 1 44 := ⟨by decide +kernel, rfl⟩
theorem iX7_keeps_40 : zI cX7_keeps 40 (.getfield 59) 3 43 := ⟨by decide +kernel, rfl⟩
theorem iX7_keeps_39 : zI cX7_keeps 39 (.dup) 1 40 := ⟨by decide +kernel, rfl⟩
theorem iX7_keeps_38 : zI cX7_keeps 38 (.aload_n 0) 1 39 := ⟨by decide +kernel, rfl⟩
theorem iX7_keeps_9 : zI cX7_keeps 9 (.istore_n 1) 1 10 := ⟨by decide +kernel, rfl⟩
theorem iX7_keeps_8 : zI cX7_keeps 8 (.iconst 0) 1 9 := ⟨by decide +kernel, rfl⟩
theorem iX7_keeps_4 : zI cX7_keeps 4 (.iconst 4) 1 5 := ⟨by decide +kernel, rfl⟩
theorem iX7_keeps_1 : zI cX7_keeps 1 (.getfield 59) 3 4 := ⟨by decide +kernel, rfl⟩
theorem iX7_keeps_0 : zI cX7_keeps 0 (.aload_n 0) 1 1 := ⟨by decide +kernel, rfl⟩
set_option maxHeartbeats 4000000 in
set_option maxRecDepth 100000 in
theorem m_Mo_keeps (h : zH) : zM yX7_keeps cX7_keeps 2 none 0 shM (fun ad => [.ref (ad 0)]) h eV (Mo_keeps h) := by
  refine zM.of (by decide) (fun _ => rfl) (fun _ => Nat.le_of_ble_eq_true rfl) (fun X ad hnL C => ?_)
  show zG X ad shM eV 0 [some (.ref (ad 0)), none] [] h _
  unfold Mo_keeps
  refine g_aload_n C iX7_keeps_0 rfl ?_
  refine g_getI C fX7_59 iX7_keeps_1 mh0 rfl ?_
  refine g_iconst C 4 iX7_keeps_4 (by decide) ?_
  refine g_let (fun j48 ej48 => ?_)
  have hj48 : ∀ (h_1 : zH), zG X ad shM eV 48 [some (.ref (ad 0)), none] [] h_1 (j48 h_1) := by
    intro h_1
    subst ej48
    refine g_iconst C 0 iX7_keeps_48 (by decide) ?_
    refine g_istore_n (lv' := [some (.ref (ad 0)), some (.int 0)]) C hnL iX7_keeps_49 (by decide) rfl ?_
    have L50 : ∀ (k82 : zH → Option (zH)), (∀ (hy : zH), zG X ad shM eV 82 [some (.ref (ad 0)), none] [] hy (k82 hy)) → ∀ (n : Nat) (x1 : Int32) (h_2 : zH), zG X ad shM eV 50 [some (.ref (ad 0)), some (.int x1)] [] h_2 (Mo_keeps_L50 k82 n x1 h_2) := by
      intro k82 hk82 n
      induction n with
      | zero =>
        intro x1 h_2
        exact g_none
      | succ n ih50 =>
        intro x1 h_2
        rw [Mo_keeps_L50]
        refine g_iload_n C iX7_keeps_50 rfl ?_
        refine g_bipush C 67 iX7_keeps_51 (by decide) ?_
        refine g_icmp_ge C 82 iX7_keeps_53 (by decide) (fun c53 => ?_) (fun c53 => ?_)
        · refine g_sub (lv' := [some (.ref (ad 0)), none]) ⟨rfl, trivial⟩ ?_
          exact hk82 _
        · refine g_aload_n C iX7_keeps_56 rfl ?_
          refine g_getR (b := 8) C fX7_31 iX7_keeps_57 mh0 rfl ?_
          refine g_bipush C 67 iX7_keeps_60 (by decide) ?_
          refine g_aload_n C iX7_keeps_62 rfl ?_
          refine g_getI C fX7_59 iX7_keeps_63 mh0 rfl ?_
          refine g_imul C iX7_keeps_66 ?_
          refine g_iload_n C iX7_keeps_67 rfl ?_
          refine g_iadd C iX7_keeps_68 ?_
          refine g_aload_n C iX7_keeps_69 rfl ?_
          refine g_getR (b := 7) C fX7_28 iX7_keeps_70 mh0 rfl ?_
          refine g_iload_n C iX7_keeps_73 rfl ?_
          refine g_iaload C iX7_keeps_74 mh7 ?_
          refine g_iastore C iX7_keeps_75 mh8 (fun h_3 => ?_)
          refine g_iinc (v := (x1 + 1)) (lv' := [some (.ref (ad 0)), some (.int (x1 + 1))]) C hnL iX7_keeps_76 (by decide) rfl rfl rfl ?_
          refine g_goto C 50 iX7_keeps_79 (by decide) ?_
          exact ih50 _ _
    refine L50 _ (fun h_4 => ?_) 1000 _ _
    show zG X ad shM eV 82 [some (.ref (ad 0)), none] [] h_4 _
    refine g_aload_n C iX7_keeps_82 rfl ?_
    refine g_dup C iX7_keeps_83 rfl ?_
    refine g_getI C fX7_59 iX7_keeps_84 mh0 rfl ?_
    refine g_iconst C 1 iX7_keeps_87 (by decide) ?_
    refine g_iadd C iX7_keeps_88 ?_
    refine g_putI C pX7_59 iX7_keeps_89 mh0 rfl (fun h_5 => ?_)
    exact g_vret C iX7_keeps_92 rfl
  clear ej48
  refine g_icmp_ne C 48 iX7_keeps_5 (by decide) (fun c5 => ?_) (fun c5 => ?_)
  · refine g_iconst C 0 iX7_keeps_8 (by decide) ?_
    refine g_istore_n (lv' := [some (.ref (ad 0)), some (.int 0)]) C hnL iX7_keeps_9 (by decide) rfl ?_
    have L10 : ∀ (k38 : zH → Option (zH)), (∀ (hy : zH), zG X ad shM eV 38 [some (.ref (ad 0)), none] [] hy (k38 hy)) → ∀ (n_1 : Nat) (x1_1 : Int32) (h_6 : zH), zG X ad shM eV 10 [some (.ref (ad 0)), some (.int x1_1)] [] h_6 (Mo_keeps_L10 k38 n_1 x1_1 h_6) := by
      intro k38 hk38 n_1
      induction n_1 with
      | zero =>
        intro x1_1 h_6
        exact g_none
      | succ n_1 ih10 =>
        intro x1_1 h_6
        rw [Mo_keeps_L10]
        refine g_iload_n C iX7_keeps_10 rfl ?_
        refine g_sipush C 201 iX7_keeps_11 (by decide) ?_
        refine g_icmp_ge C 38 iX7_keeps_14 (by decide) (fun c14 => ?_) (fun c14 => ?_)
        · refine g_sub (lv' := [some (.ref (ad 0)), none]) ⟨rfl, trivial⟩ ?_
          exact hk38 _
        · refine g_aload_n C iX7_keeps_17 rfl ?_
          refine g_getR (b := 8) C fX7_31 iX7_keeps_18 mh0 rfl ?_
          refine g_iload_n C iX7_keeps_21 rfl ?_
          refine g_aload_n C iX7_keeps_22 rfl ?_
          refine g_getR (b := 8) C fX7_31 iX7_keeps_23 mh0 rfl ?_
          refine g_iload_n C iX7_keeps_26 rfl ?_
          refine g_bipush C 67 iX7_keeps_27 (by decide) ?_
          refine g_iadd C iX7_keeps_29 ?_
          refine g_iaload C iX7_keeps_30 mh8 ?_
          refine g_iastore C iX7_keeps_31 mh8 (fun h_7 => ?_)
          refine g_iinc (v := (x1_1 + 1)) (lv' := [some (.ref (ad 0)), some (.int (x1_1 + 1))]) C hnL iX7_keeps_32 (by decide) rfl rfl rfl ?_
          refine g_goto C 10 iX7_keeps_35 (by decide) ?_
          exact ih10 _ _
    refine L10 _ (fun h_8 => ?_) 1000 _ _
    show zG X ad shM eV 38 [some (.ref (ad 0)), none] [] h_8 _
    refine g_aload_n C iX7_keeps_38 rfl ?_
    refine g_dup C iX7_keeps_39 rfl ?_
    refine g_getI C fX7_59 iX7_keeps_40 mh0 rfl ?_
    refine g_iconst C 1 iX7_keeps_43 (by decide) ?_
    refine g_isub C iX7_keeps_44 ?_
    refine g_putI C pX7_59 iX7_keeps_45 mh0 rfl (fun h_9 => ?_)
    exact hj48 _
  · exact hj48 _

theorem iX7_undo_4 : zI cX7_undo 4 (.ifCond .ne 6) 3 7 := ⟨by decide +kernel, rfl⟩
theorem iX7_undo_25 : zI cX7_undo 25 (.if_icmp .ge 29) 3 28 := ⟨by decide +kernel, rfl⟩
theorem iX7_undo_51 : zI cX7_undo 51 (.goto (-29)) 3 54 := ⟨by decide +kernel, rfl⟩
theorem iX7_undo_48 : zI cX7_undo 48 (.iinc 1 1) 3 51 := ⟨by decide +kernel, rfl⟩
theorem iX7_undo_47 : zI cX7_undo 47 (.iastore) 1 48 := ⟨by decide +kernel, rfl⟩
theorem iX7_undo_46 : zI cX7_undo 46 (.iaload) 1 47 := ⟨by decide +kernel, rfl⟩
theorem iX7_undo_45 : zI cX7_undo 45 (.iadd) 1 46 := ⟨by decide +kernel, rfl⟩
theorem iX7_undo_44 : zI cX7_undo 44 (.iload_n 1) 1 45 := ⟨by decide +kernel, rfl⟩
theorem iX7_undo_43 : zI cX7_undo 43 (.imul) 1 44 := ⟨by decide +kernel, rfl⟩
theorem iX7_undo_40 : zI cX7_undo 40 (.getfield 59) 3 43 := ⟨by decide +kernel, rfl⟩
theorem iX7_undo_39 : zI cX7_undo 39 (.aload_n 0) 1 40 := ⟨by decide +kernel, rfl⟩
theorem iX7_undo_37 : zI cX7_undo 37 (.bipush 67) 2 39 := ⟨by decide +kernel, rfl⟩
theorem iX7_undo_34 : zI cX7_undo 34 (.getfield 31) 3 37 := ⟨by decide +kernel, rfl⟩
theorem iX7_undo_33 : zI cX7_undo 33 (.aload_n 0) 1 34 := ⟨by decide +kernel, rfl⟩
theorem iX7_undo_32 : zI cX7_undo 32 (.iload_n 1) 1 33 := ⟨by decide +kernel, rfl⟩
theorem iX7_undo_29 : zI cX7_undo 29 (.getfield 28) 3 32 := ⟨by decide +kernel, rfl⟩
theorem iX7_undo_28 : zI cX7_undo 28 (.aload_n 0) 1 29 := ⟨by decide +kernel, rfl⟩
theorem iX7_undo_23 : zI cX7_undo 23 (.bipush 67) 2 25 := ⟨by decide +kernel, rfl⟩
theorem iX7_undo_22 : zI cX7_undo 22 (.iload_n 1) 1 23 := ⟨by decide +kernel, rfl⟩
theorem iX7_undo_58 : zI cX7_undo 58 (.ireturn) 1 59 := ⟨by decide +kernel, rfl⟩
theorem iX7_undo_55 : zI cX7_undo 55 (.getfield 59) 3 58 := ⟨by decide +kernel, rfl⟩
theorem iX7_undo_54 : zI cX7_undo 54 (.aload_n 0) 1 55 := ⟨by decide +kernel, rfl⟩
theorem iX7_undo_21 : zI cX7_undo 21 (.istore_n 1) 1 22 := ⟨by decide +kernel, rfl⟩
theorem iX7_undo_20 : zI cX7_undo 20 (.iconst 0) 1 21 := ⟨by decide +kernel, rfl⟩
theorem iX7_undo_17 : zI cX7_undo 17 (.putfield 59) 3 20 := ⟨by decide +kernel, rfl⟩
theorem iX7_undo_16 : zI cX7_undo 16 (.isub) 1 17 := ⟨by decide +kernel, rfl⟩
theorem iX7_undo_15 : zI cX7_undo 15 (.iconst 1) 1 16 := ⟨by decide +kernel, rfl⟩
theorem iX7_undo_12 : zI cX7_undo 12 (.getfield 59) 3 15 := ⟨by decide +kernel, rfl⟩
theorem iX7_undo_11 : zI cX7_undo 11 (.dup) 1 12 := ⟨by decide +kernel, rfl⟩
theorem iX7_undo_10 : zI cX7_undo 10 (.aload_n 0) 1 11 := ⟨by decide +kernel, rfl⟩
theorem iX7_undo_9 : zI cX7_undo 9 (.ireturn) 1 10 := ⟨by decide +kernel, rfl⟩
theorem iX7_undo_7 : zI cX7_undo 7 (.bipush (-2)) 2 9 := ⟨by decide +kernel, rfl⟩
theorem iX7_undo_1 : zI cX7_undo 1 (.getfield 59) 3 4 := ⟨by decide +kernel, rfl⟩
theorem iX7_undo_0 : zI cX7_undo 0 (.aload_n 0) 1 1 := ⟨by decide +kernel, rfl⟩
set_option maxHeartbeats 4000000 in
set_option maxRecDepth 100000 in
theorem m_Mo_undo (h : zH) : zM yX7_undo cX7_undo 2 (some .int) 0 shM (fun ad => [.ref (ad 0)]) h eI (Mo_undo h) := by
  refine zM.of (by decide) (fun _ => rfl) (fun _ => Nat.le_of_ble_eq_true rfl) (fun X ad hnL C => ?_)
  show zG X ad shM eI 0 [some (.ref (ad 0)), none] [] h _
  unfold Mo_undo
  refine g_aload_n C iX7_undo_0 rfl ?_
  refine g_getI C fX7_59 iX7_undo_1 mh0 rfl ?_
  refine g_if_ne C 10 iX7_undo_4 (by decide) (fun c4 => ?_) (fun c4 => ?_)
  · refine g_bipush C (-2) iX7_undo_7 (by decide) ?_
    exact g_iret C iX7_undo_9 rfl
  · refine g_aload_n C iX7_undo_10 rfl ?_
    refine g_dup C iX7_undo_11 rfl ?_
    refine g_getI C fX7_59 iX7_undo_12 mh0 rfl ?_
    refine g_iconst C 1 iX7_undo_15 (by decide) ?_
    refine g_isub C iX7_undo_16 ?_
    refine g_putI C pX7_59 iX7_undo_17 mh0 rfl (fun h_1 => ?_)
    refine g_iconst C 0 iX7_undo_20 (by decide) ?_
    refine g_istore_n (lv' := [some (.ref (ad 0)), some (.int 0)]) C hnL iX7_undo_21 (by decide) rfl ?_
    have L22 : ∀ (k54 : zH → Option (Int32 × zH)), (∀ (hy : zH), zG X ad shM eI 54 [some (.ref (ad 0)), none] [] hy (k54 hy)) → ∀ (n : Nat) (x1 : Int32) (h_2 : zH), zG X ad shM eI 22 [some (.ref (ad 0)), some (.int x1)] [] h_2 (Mo_undo_L22 k54 n x1 h_2) := by
      intro k54 hk54 n
      induction n with
      | zero =>
        intro x1 h_2
        exact g_none
      | succ n ih22 =>
        intro x1 h_2
        rw [Mo_undo_L22]
        refine g_iload_n C iX7_undo_22 rfl ?_
        refine g_bipush C 67 iX7_undo_23 (by decide) ?_
        refine g_icmp_ge C 54 iX7_undo_25 (by decide) (fun c25 => ?_) (fun c25 => ?_)
        · refine g_sub (lv' := [some (.ref (ad 0)), none]) ⟨rfl, trivial⟩ ?_
          exact hk54 _
        · refine g_aload_n C iX7_undo_28 rfl ?_
          refine g_getR (b := 7) C fX7_28 iX7_undo_29 mh0 rfl ?_
          refine g_iload_n C iX7_undo_32 rfl ?_
          refine g_aload_n C iX7_undo_33 rfl ?_
          refine g_getR (b := 8) C fX7_31 iX7_undo_34 mh0 rfl ?_
          refine g_bipush C 67 iX7_undo_37 (by decide) ?_
          refine g_aload_n C iX7_undo_39 rfl ?_
          refine g_getI C fX7_59 iX7_undo_40 mh0 rfl ?_
          refine g_imul C iX7_undo_43 ?_
          refine g_iload_n C iX7_undo_44 rfl ?_
          refine g_iadd C iX7_undo_45 ?_
          refine g_iaload C iX7_undo_46 mh8 ?_
          refine g_iastore C iX7_undo_47 mh7 (fun h_3 => ?_)
          refine g_iinc (v := (x1 + 1)) (lv' := [some (.ref (ad 0)), some (.int (x1 + 1))]) C hnL iX7_undo_48 (by decide) rfl rfl rfl ?_
          refine g_goto C 22 iX7_undo_51 (by decide) ?_
          exact ih22 _ _
    refine L22 _ (fun h_4 => ?_) 1000 _ _
    show zG X ad shM eI 54 [some (.ref (ad 0)), none] [] h_4 _
    refine g_aload_n C iX7_undo_54 rfl ?_
    refine g_getI C fX7_59 iX7_undo_55 mh0 rfl ?_
    exact g_iret C iX7_undo_58 rfl

theorem iX7_tick_4 : zI cX7_tick 4 (.invokestatic 82) 3 7 := ⟨by decide +kernel, rfl⟩
theorem iX7_tick_7 : zI cX7_tick 7 (.ifCond .ne 5) 3 10 := ⟨by decide +kernel, rfl⟩
theorem iX7_tick_24 : zI cX7_tick 24 (.if_icmp .le 6) 3 27 := ⟨by decide +kernel, rfl⟩
set_option maxRecDepth 100000 in
theorem wX7_166 : zCv RX7 166 yX7_keeps cX7_keeps 2 none 0 := ⟨⟨(zmem 920 (by decide +kernel) (by decide +kernel)), (zmem 76 (by decide +kernel) (by decide +kernel)), (zmem 923 rfl rfl), ⟨by decide, by decide, by decide +kernel⟩, by decide⟩, (zmem 922 (by decide +kernel) (by decide +kernel)), (zmem 37 (by decide +kernel) (by decide +kernel))⟩
theorem iX7_tick_31 : zI cX7_tick 31 (.invokevirtual 166) 3 34 := ⟨by decide +kernel, rfl⟩
set_option maxRecDepth 100000 in
theorem wX7_169 : zCv RX7 169 yX7_fresh cX7_fresh 1 none 0 := ⟨⟨(zmem 924 (by decide +kernel) (by decide +kernel)), (zmem 76 (by decide +kernel) (by decide +kernel)), (zmem 927 rfl rfl), ⟨by decide, by decide, by decide +kernel⟩, by decide⟩, (zmem 926 (by decide +kernel) (by decide +kernel)), (zmem 38 (by decide +kernel) (by decide +kernel))⟩
theorem iX7_tick_35 : zI cX7_tick 35 (.invokevirtual 169) 3 38 := ⟨by decide +kernel, rfl⟩
theorem iX7_tick_42 : zI cX7_tick 42 (.if_icmp .ge 13) 3 45 := ⟨by decide +kernel, rfl⟩
set_option maxRecDepth 100000 in
theorem wX7_172 : zCv RX7 172 yX7_ticks cX7_ticks 2 none 0 := ⟨⟨(zmem 928 (by decide +kernel) (by decide +kernel)), (zmem 76 (by decide +kernel) (by decide +kernel)), (zmem 931 rfl rfl), ⟨by decide, by decide, by decide +kernel⟩, by decide⟩, (zmem 930 (by decide +kernel) (by decide +kernel)), (zmem 39 (by decide +kernel) (by decide +kernel))⟩
theorem iX7_tick_46 : zI cX7_tick 46 (.invokevirtual 172) 3 49 := ⟨by decide +kernel, rfl⟩
theorem iX7_tick_52 : zI cX7_tick 52 (.goto (-12)) 3 55 := ⟨by decide +kernel, rfl⟩
theorem iX7_tick_49 : zI cX7_tick 49 (.iinc 2 1) 3 52 := ⟨by decide +kernel, rfl⟩
theorem iX7_tick_45 : zI cX7_tick 45 (.aload_n 0) 1 46 := ⟨by decide +kernel, rfl⟩
theorem iX7_tick_41 : zI cX7_tick 41 (.iload_n 1) 1 42 := ⟨by decide +kernel, rfl⟩
theorem iX7_tick_40 : zI cX7_tick 40 (.iload_n 2) 1 41 := ⟨by decide +kernel, rfl⟩
theorem iX7_tick_59 : zI cX7_tick 59 (.ireturn) 1 60 := ⟨by decide +kernel, rfl⟩
theorem iX7_tick_56 : zI cX7_tick 56 (.getfield 118) 3 59 := ⟨by decide +kernel, rfl⟩
theorem iX7_tick_55 : zI cX7_tick 55 (.aload_n 0) 1 56 := ⟨by decide +kernel, rfl⟩
theorem iX7_tick_39 : zI cX7_tick 39 (.istore_n 2) 1 40 := ⟨by decide +kernel, rfl⟩
theorem iX7_tick_38 : zI cX7_tick 38 (.iconst 0) 1 39 := ⟨by decide +kernel, rfl⟩
theorem iX7_tick_34 : zI cX7_tick 34 (.aload_n 0) 1 35 := ⟨by decide +kernel, rfl⟩
theorem iX7_tick_30 : zI cX7_tick 30 (.aload_n 0) 1 31 := ⟨by decide +kernel, rfl⟩
theorem iX7_tick_29 : zI cX7_tick 29 (.ireturn) 1 30 := ⟨by decide +kernel, rfl⟩
theorem iX7_tick_27 : zI cX7_tick 27 (.bipush (-2)) 2 29 := ⟨by decide +kernel, rfl⟩
theorem iX7_tick_21 : zI cX7_tick 21 (.sipush 9999) 3 24 := ⟨by decide +kernel, rfl⟩
theorem iX7_tick_20 : zI cX7_tick 20 (.iadd) 1 21 := ⟨by decide +kernel, rfl⟩
theorem iX7_tick_19 : zI cX7_tick 19 (.iload_n 1) 1 20 := ⟨by decide +kernel, rfl⟩
theorem iX7_tick_18 : zI cX7_tick 18 (.iaload) 1 19 := ⟨by decide +kernel, rfl⟩
theorem iX7_tick_16 : zI cX7_tick 16 (.bipush 66) 2 18 := ⟨by decide +kernel, rfl⟩
theorem iX7_tick_13 : zI cX7_tick 13 (.getfield 28) 3 16 := ⟨by decide +kernel, rfl⟩
theorem iX7_tick_12 : zI cX7_tick 12 (.aload_n 0) 1 13 := ⟨by decide +kernel, rfl⟩
theorem iX7_tick_11 : zI cX7_tick 11 (.ireturn) 1 12 := ⟨by decide +kernel, rfl⟩
theorem iX7_tick_10 : zI cX7_tick 10 (.iconst (-1)) 1 11 := ⟨by decide +kernel, rfl⟩
theorem iX7_tick_2 : zI cX7_tick 2 (.bipush 60) 2 4 := ⟨by decide +kernel, rfl⟩
theorem iX7_tick_1 : zI cX7_tick 1 (.iconst 1) 1 2 := ⟨by decide +kernel, rfl⟩
theorem iX7_tick_0 : zI cX7_tick 0 (.iload_n 1) 1 1 := ⟨by decide +kernel, rfl⟩
set_option maxHeartbeats 4000000 in
set_option maxRecDepth 100000 in
theorem m_Mo_tick (x1 : Int32) (h : zH) : zM yX7_tick cX7_tick 3 (some .int) 5 shM (fun ad => [.ref (ad 0), .int x1]) h eI (Mo_tick x1 h) := by
  refine zM.of (by decide) (fun _ => rfl) (fun _ => Nat.le_of_ble_eq_true rfl) (fun X ad hnL C => ?_)
  show zG X ad shM eI 0 [some (.ref (ad 0)), some (.int x1), none] [] h _
  unfold Mo_tick
  refine g_iload_n C iX7_tick_0 rfl ?_
  refine g_iconst C 1 iX7_tick_1 (by decide) ?_
  refine g_bipush C 60 iX7_tick_2 (by decide) ?_
  refine g_callS C wX7_82 iX7_tick_4 (m_Mo_isIn x1 1 60 h) (by decide) rfl rfl rfl (Nat.le_of_ble_eq_true rfl) (fun r => ?_)
  show zG X ad shM eI 7 [some (.ref (ad 0)), some (.int x1), none] [.int r] h _
  refine g_if_ne C 12 iX7_tick_7 (by decide) (fun c7 => ?_) (fun c7 => ?_)
  · refine g_iconst C (-1) iX7_tick_10 (by decide) ?_
    exact g_iret C iX7_tick_11 rfl
  · refine g_aload_n C iX7_tick_12 rfl ?_
    refine g_getR (b := 7) C fX7_28 iX7_tick_13 mh0 rfl ?_
    refine g_bipush C 66 iX7_tick_16 (by decide) ?_
    refine g_ialoadL C 66 iX7_tick_18 mh7 (by decide) (by decide) ?_
    refine g_iload_n C iX7_tick_19 rfl ?_
    refine g_iadd C iX7_tick_20 ?_
    refine g_sipush C 9999 iX7_tick_21 (by decide) ?_
    refine g_icmp_le C 30 iX7_tick_24 (by decide) (fun c24 => ?_) (fun c24 => ?_)
    · refine g_aload_n C iX7_tick_30 rfl ?_
      refine g_callV C wX7_166 iX7_tick_31 (m_Mo_keeps h) (by decide) mh0 rfl rfl rfl rfl (Nat.le_of_ble_eq_true rfl) (fun h_1 => ?_)
      show zG X ad shM eI 34 [some (.ref (ad 0)), some (.int x1), none] [] h_1 _
      refine g_aload_n C iX7_tick_34 rfl ?_
      refine g_callV C wX7_169 iX7_tick_35 (m_Mo_fresh h_1) (by decide) mh0 rfl rfl rfl rfl (Nat.le_of_ble_eq_true rfl) (fun h_2 => ?_)
      show zG X ad shM eI 38 [some (.ref (ad 0)), some (.int x1), none] [] h_2 _
      refine g_iconst C 0 iX7_tick_38 (by decide) ?_
      refine g_istore_n (lv' := [some (.ref (ad 0)), some (.int x1), some (.int 0)]) C hnL iX7_tick_39 (by decide) rfl ?_
      have L40 : ∀ (k55 : zH → Option (Int32 × zH)), (∀ (hy : zH), zG X ad shM eI 55 [some (.ref (ad 0)), none, none] [] hy (k55 hy)) → ∀ (n : Nat) (x2 : Int32) (h_3 : zH), zG X ad shM eI 40 [some (.ref (ad 0)), some (.int x1), some (.int x2)] [] h_3 (Mo_tick_L40 x1 k55 n x2 h_3) := by
        intro k55 hk55 n
        induction n with
        | zero =>
          intro x2 h_3
          exact g_none
        | succ n ih40 =>
          intro x2 h_3
          rw [Mo_tick_L40]
          refine g_iload_n C iX7_tick_40 rfl ?_
          refine g_iload_n C iX7_tick_41 rfl ?_
          refine g_icmp_ge C 55 iX7_tick_42 (by decide) (fun c42 => ?_) (fun c42 => ?_)
          · refine g_sub (lv' := [some (.ref (ad 0)), none, none]) ⟨rfl, trivial⟩ ?_
            exact hk55 _
          · refine g_aload_n C iX7_tick_45 rfl ?_
            refine g_callV C wX7_172 iX7_tick_46 (m_Mo_ticks h_3) (by decide) mh0 rfl rfl rfl rfl (Nat.le_of_ble_eq_true rfl) (fun h_4 => ?_)
            show zG X ad shM eI 49 [some (.ref (ad 0)), some (.int x1), some (.int x2)] [] h_4 _
            refine g_iinc (v := (x2 + 1)) (lv' := [some (.ref (ad 0)), some (.int x1), some (.int (x2 + 1))]) C hnL iX7_tick_49 (by decide) rfl rfl rfl ?_
            refine g_goto C 40 iX7_tick_52 (by decide) ?_
            exact ih40 _ _
      refine L40 _ (fun h_5 => ?_) 1000 _ _
      show zG X ad shM eI 55 [some (.ref (ad 0)), none, none] [] h_5 _
      refine g_aload_n C iX7_tick_55 rfl ?_
      refine g_getI C fX7_118 iX7_tick_56 mh0 rfl ?_
      exact g_iret C iX7_tick_59 rfl
    · refine g_bipush C (-2) iX7_tick_27 (by decide) ?_
      exact g_iret C iX7_tick_29 rfl

theorem iX7_canClose_16 : zI cX7_canClose 16 (.invokevirtual 51) 3 19 := ⟨by decide +kernel, rfl⟩
theorem iX7_canClose_20 : zI cX7_canClose 20 (.invokestatic 66) 3 23 := ⟨by decide +kernel, rfl⟩
theorem iX7_canClose_23 : zI cX7_canClose 23 (.ifCond .ne 32) 3 26 := ⟨by decide +kernel, rfl⟩
theorem iX7_canClose_60 : zI cX7_canClose 60 (.ireturn) 1 61 := ⟨by decide +kernel, rfl⟩
theorem iX7_canClose_56 : zI cX7_canClose 56 (.goto 4) 3 59 := ⟨by decide +kernel, rfl⟩
theorem iX7_canClose_55 : zI cX7_canClose 55 (.iconst 1) 1 56 := ⟨by decide +kernel, rfl⟩
theorem iX7_canClose_32 : zI cX7_canClose 32 (.ifCond .eq 23) 3 35 := ⟨by decide +kernel, rfl⟩
theorem iX7_canClose_41 : zI cX7_canClose 41 (.ifCond .eq 14) 3 44 := ⟨by decide +kernel, rfl⟩
theorem iX7_canClose_49 : zI cX7_canClose 49 (.invokestatic 82) 3 52 := ⟨by decide +kernel, rfl⟩
theorem iX7_canClose_52 : zI cX7_canClose 52 (.ifCond .eq 7) 3 55 := ⟨by decide +kernel, rfl⟩
theorem iX7_canClose_59 : zI cX7_canClose 59 (.iconst 0) 1 60 := ⟨by decide +kernel, rfl⟩
theorem iX7_canClose_47 : zI cX7_canClose 47 (.bipush 20) 2 49 := ⟨by decide +kernel, rfl⟩
theorem iX7_canClose_45 : zI cX7_canClose 45 (.bipush (-20)) 2 47 := ⟨by decide +kernel, rfl⟩
theorem iX7_canClose_44 : zI cX7_canClose 44 (.iload_n 3) 1 45 := ⟨by decide +kernel, rfl⟩
theorem iX7_canClose_40 : zI cX7_canClose 40 (.iaload) 1 41 := ⟨by decide +kernel, rfl⟩
theorem iX7_canClose_39 : zI cX7_canClose 39 (.iload_n 2) 1 40 := ⟨by decide +kernel, rfl⟩
theorem iX7_canClose_36 : zI cX7_canClose 36 (.getfield 28) 3 39 := ⟨by decide +kernel, rfl⟩
theorem iX7_canClose_35 : zI cX7_canClose 35 (.aload_n 0) 1 36 := ⟨by decide +kernel, rfl⟩
theorem iX7_canClose_31 : zI cX7_canClose 31 (.iaload) 1 32 := ⟨by decide +kernel, rfl⟩
theorem iX7_canClose_30 : zI cX7_canClose 30 (.iload_n 1) 1 31 := ⟨by decide +kernel, rfl⟩
theorem iX7_canClose_27 : zI cX7_canClose 27 (.getfield 28) 3 30 := ⟨by decide +kernel, rfl⟩
theorem iX7_canClose_26 : zI cX7_canClose 26 (.aload_n 0) 1 27 := ⟨by decide +kernel, rfl⟩
theorem iX7_canClose_19 : zI cX7_canClose 19 (.iload_n 2) 1 20 := ⟨by decide +kernel, rfl⟩
theorem iX7_canClose_15 : zI cX7_canClose 15 (.iload_n 1) 1 16 := ⟨by decide +kernel, rfl⟩
theorem iX7_canClose_14 : zI cX7_canClose 14 (.aload_n 0) 1 15 := ⟨by decide +kernel, rfl⟩
theorem iX7_canClose_13 : zI cX7_canClose 13 (.istore_n 3) 1 14 := ⟨by decide +kernel, rfl⟩
theorem iX7_canClose_12 : zI cX7_canClose 12 (.isub) 1 13 := ⟨by decide +kernel, rfl⟩
theorem iX7_canClose_11 : zI cX7_canClose 11 (.iaload) 1 12 := ⟨by decide +kernel, rfl⟩
theorem iX7_canClose_10 : zI cX7_canClose 10 (.iload_n 2) 1 11 := ⟨by decide +kernel, rfl⟩
theorem iX7_canClose_7 : zI cX7_canClose 7 (.getfield 28) 3 10 := ⟨by decide +kernel, rfl⟩
theorem iX7_canClose_6 : zI cX7_canClose 6 (.aload_n 0) 1 7 := ⟨by decide +kernel, rfl⟩
theorem iX7_canClose_5 : zI cX7_canClose 5 (.iaload) 1 6 := ⟨by decide +kernel, rfl⟩
theorem iX7_canClose_4 : zI cX7_canClose 4 (.iload_n 1) 1 5 := ⟨by decide +kernel, rfl⟩
theorem iX7_canClose_1 : zI cX7_canClose 1 (.getfield 28) 3 4 := ⟨by decide +kernel, rfl⟩
theorem iX7_canClose_0 : zI cX7_canClose 0 (.aload_n 0) 1 1 := ⟨by decide +kernel, rfl⟩
set_option maxHeartbeats 4000000 in
set_option maxRecDepth 100000 in
theorem m_Mo_canClose (x1 : Int32) (x2 : Int32) (h : zH) : zM yX7_canClose cX7_canClose 4 (some .boolean) 2 shM (fun ad => [.ref (ad 0), .int x1, .int x2]) h (eP h) (Mo_canClose x1 x2 h) := by
  refine zM.of (by decide) (fun _ => rfl) (fun _ => Nat.le_of_ble_eq_true rfl) (fun X ad hnL C => ?_)
  show zG X ad shM (eP h) 0 [some (.ref (ad 0)), some (.int x1), some (.int x2), none] [] h _
  unfold Mo_canClose
  refine g_aload_n C iX7_canClose_0 rfl ?_
  refine g_getR (b := 7) C fX7_28 iX7_canClose_1 mh0 rfl ?_
  refine g_iload_n C iX7_canClose_4 rfl ?_
  refine g_iaload C iX7_canClose_5 mh7 ?_
  refine g_aload_n C iX7_canClose_6 rfl ?_
  refine g_getR (b := 7) C fX7_28 iX7_canClose_7 mh0 rfl ?_
  refine g_iload_n C iX7_canClose_10 rfl ?_
  refine g_iaload C iX7_canClose_11 mh7 ?_
  refine g_isub C iX7_canClose_12 ?_
  refine g_top (fun x3 => ?_)
  refine g_istore_n (lv' := [some (.ref (ad 0)), some (.int x1), some (.int x2), some (.int x3)]) C hnL iX7_canClose_13 (by decide) rfl ?_
  refine g_aload_n C iX7_canClose_14 rfl ?_
  refine g_iload_n C iX7_canClose_15 rfl ?_
  refine g_callV C wX7_51 iX7_canClose_16 (m_Mo_busesOf x1 h) (by decide) mh0 rfl rfl rfl rfl (Nat.le_of_ble_eq_true rfl) (fun r => ?_)
  show zG X ad shM (eP h) 19 [some (.ref (ad 0)), some (.int x1), some (.int x2), some (.int x3)] [.int r] h _
  refine g_iload_n C iX7_canClose_19 rfl ?_
  refine g_callS C wX7_66 iX7_canClose_20 (m_Mo_has r x2 h) (by decide) rfl rfl rfl (Nat.le_of_ble_eq_true rfl) (fun r_1 => ?_)
  show zG X ad shM (eP h) 23 [some (.ref (ad 0)), some (.int x1), some (.int x2), some (.int x3)] [.int r_1] h _
  refine g_if_ne C 55 iX7_canClose_23 (by decide) (fun c23 => ?_) (fun c23 => ?_)
  · refine g_aload_n C iX7_canClose_26 rfl ?_
    refine g_getR (b := 7) C fX7_28 iX7_canClose_27 mh0 rfl ?_
    refine g_iload_n C iX7_canClose_30 rfl ?_
    refine g_iaload C iX7_canClose_31 mh7 ?_
    refine g_if_eq C 55 iX7_canClose_32 (by decide) (fun c32 => ?_) (fun c32 => ?_)
    · refine g_iconst C 1 iX7_canClose_55 (by decide) ?_
      refine g_goto C 60 iX7_canClose_56 (by decide) ?_
      exact g_zret C iX7_canClose_60 rfl rfl
    · refine g_aload_n C iX7_canClose_35 rfl ?_
      refine g_getR (b := 7) C fX7_28 iX7_canClose_36 mh0 rfl ?_
      refine g_iload_n C iX7_canClose_39 rfl ?_
      refine g_iaload C iX7_canClose_40 mh7 ?_
      refine g_if_eq C 55 iX7_canClose_41 (by decide) (fun c41 => ?_) (fun c41 => ?_)
      · refine g_iconst C 1 iX7_canClose_55 (by decide) ?_
        refine g_goto C 60 iX7_canClose_56 (by decide) ?_
        exact g_zret C iX7_canClose_60 rfl rfl
      · refine g_iload_n C iX7_canClose_44 rfl ?_
        refine g_bipush C (-20) iX7_canClose_45 (by decide) ?_
        refine g_bipush C 20 iX7_canClose_47 (by decide) ?_
        refine g_callS C wX7_82 iX7_canClose_49 (m_Mo_isIn x3 (-20) 20 h) (by decide) rfl rfl rfl (Nat.le_of_ble_eq_true rfl) (fun r_2 => ?_)
        show zG X ad shM (eP h) 52 [some (.ref (ad 0)), some (.int x1), some (.int x2), some (.int x3)] [.int r_2] h _
        refine g_if_eq C 59 iX7_canClose_52 (by decide) (fun c52 => ?_) (fun c52 => ?_)
        · refine g_iconst C 0 iX7_canClose_59 (by decide) ?_
          exact g_zret C iX7_canClose_60 rfl rfl
        · refine g_iconst C 1 iX7_canClose_55 (by decide) ?_
          refine g_goto C 60 iX7_canClose_56 (by decide) ?_
          exact g_zret C iX7_canClose_60 rfl rfl
  · refine g_iconst C 1 iX7_canClose_55 (by decide) ?_
    refine g_goto C 60 iX7_canClose_56 (by decide) ?_
    exact g_zret C iX7_canClose_60 rfl rfl

theorem iX7_bothF_33 : zI cX7_bothF 33 (.ireturn) 1 34 := ⟨by decide +kernel, rfl⟩
theorem iX7_bothF_32 : zI cX7_bothF 32 (.iadd) 1 33 := ⟨by decide +kernel, rfl⟩
theorem iX7_bothF_31 : zI cX7_bothF 31 (.iaload) 1 32 := ⟨by decide +kernel, rfl⟩
theorem iX7_bothF_29 : zI cX7_bothF 29 (.iload 4) 2 31 := ⟨by decide +kernel, rfl⟩
theorem iX7_bothF_26 : zI cX7_bothF 26 (.getfield 28) 3 29 := ⟨by decide +kernel, rfl⟩
theorem iX7_bothF_25 : zI cX7_bothF 25 (.aload_n 0) 1 26 := ⟨by decide +kernel, rfl⟩
theorem iX7_bothF_24 : zI cX7_bothF 24 (.iaload) 1 25 := ⟨by decide +kernel, rfl⟩
theorem iX7_bothF_23 : zI cX7_bothF 23 (.iload_n 3) 1 24 := ⟨by decide +kernel, rfl⟩
theorem iX7_bothF_20 : zI cX7_bothF 20 (.getfield 28) 3 23 := ⟨by decide +kernel, rfl⟩
theorem iX7_bothF_19 : zI cX7_bothF 19 (.aload_n 0) 1 20 := ⟨by decide +kernel, rfl⟩
theorem iX7_bothF_6 : zI cX7_bothF 6 (.ifCond .eq 13) 3 9 := ⟨by decide +kernel, rfl⟩
theorem iX7_bothF_16 : zI cX7_bothF 16 (.ifCond .ne 18) 3 19 := ⟨by decide +kernel, rfl⟩
theorem iX7_bothF_37 : zI cX7_bothF 37 (.invokevirtual 130) 3 40 := ⟨by decide +kernel, rfl⟩
theorem iX7_bothF_45 : zI cX7_bothF 45 (.invokevirtual 130) 3 48 := ⟨by decide +kernel, rfl⟩
theorem iX7_bothF_55 : zI cX7_bothF 55 (.ifCond .ne 36) 3 58 := ⟨by decide +kernel, rfl⟩
theorem iX7_bothF_117 : zI cX7_bothF 117 (.ireturn) 1 118 := ⟨by decide +kernel, rfl⟩
theorem iX7_bothF_116 : zI cX7_bothF 116 (.idiv) 1 117 := ⟨by decide +kernel, rfl⟩
theorem iX7_bothF_115 : zI cX7_bothF 115 (.iadd) 1 116 := ⟨by decide +kernel, rfl⟩
theorem iX7_bothF_113 : zI cX7_bothF 113 (.iload 6) 2 115 := ⟨by decide +kernel, rfl⟩
theorem iX7_bothF_111 : zI cX7_bothF 111 (.iload 5) 2 113 := ⟨by decide +kernel, rfl⟩
theorem iX7_bothF_110 : zI cX7_bothF 110 (.iadd) 1 111 := ⟨by decide +kernel, rfl⟩
theorem iX7_bothF_109 : zI cX7_bothF 109 (.imul) 1 110 := ⟨by decide +kernel, rfl⟩
theorem iX7_bothF_107 : zI cX7_bothF 107 (.iload 6) 2 109 := ⟨by decide +kernel, rfl⟩
theorem iX7_bothF_106 : zI cX7_bothF 106 (.iaload) 1 107 := ⟨by decide +kernel, rfl⟩
theorem iX7_bothF_104 : zI cX7_bothF 104 (.iload 4) 2 106 := ⟨by decide +kernel, rfl⟩
theorem iX7_bothF_101 : zI cX7_bothF 101 (.getfield 28) 3 104 := ⟨by decide +kernel, rfl⟩
theorem iX7_bothF_100 : zI cX7_bothF 100 (.aload_n 0) 1 101 := ⟨by decide +kernel, rfl⟩
theorem iX7_bothF_99 : zI cX7_bothF 99 (.imul) 1 100 := ⟨by decide +kernel, rfl⟩
theorem iX7_bothF_97 : zI cX7_bothF 97 (.iload 5) 2 99 := ⟨by decide +kernel, rfl⟩
theorem iX7_bothF_96 : zI cX7_bothF 96 (.iaload) 1 97 := ⟨by decide +kernel, rfl⟩
theorem iX7_bothF_95 : zI cX7_bothF 95 (.iload_n 3) 1 96 := ⟨by decide +kernel, rfl⟩
theorem iX7_bothF_92 : zI cX7_bothF 92 (.getfield 28) 3 95 := ⟨by decide +kernel, rfl⟩
theorem iX7_bothF_91 : zI cX7_bothF 91 (.aload_n 0) 1 92 := ⟨by decide +kernel, rfl⟩
theorem iX7_bothF_71 : zI cX7_bothF 71 (.if_icmp .ge 12) 3 74 := ⟨by decide +kernel, rfl⟩
theorem iX7_bothF_90 : zI cX7_bothF 90 (.ireturn) 1 91 := ⟨by decide +kernel, rfl⟩
theorem iX7_bothF_89 : zI cX7_bothF 89 (.iaload) 1 90 := ⟨by decide +kernel, rfl⟩
theorem iX7_bothF_87 : zI cX7_bothF 87 (.iload 4) 2 89 := ⟨by decide +kernel, rfl⟩
theorem iX7_bothF_84 : zI cX7_bothF 84 (.getfield 28) 3 87 := ⟨by decide +kernel, rfl⟩
theorem iX7_bothF_83 : zI cX7_bothF 83 (.aload_n 0) 1 84 := ⟨by decide +kernel, rfl⟩
theorem iX7_bothF_80 : zI cX7_bothF 80 (.goto 10) 3 83 := ⟨by decide +kernel, rfl⟩
theorem iX7_bothF_79 : zI cX7_bothF 79 (.iaload) 1 80 := ⟨by decide +kernel, rfl⟩
theorem iX7_bothF_78 : zI cX7_bothF 78 (.iload_n 3) 1 79 := ⟨by decide +kernel, rfl⟩
theorem iX7_bothF_75 : zI cX7_bothF 75 (.getfield 28) 3 78 := ⟨by decide +kernel, rfl⟩
theorem iX7_bothF_74 : zI cX7_bothF 74 (.aload_n 0) 1 75 := ⟨by decide +kernel, rfl⟩
theorem iX7_bothF_70 : zI cX7_bothF 70 (.iaload) 1 71 := ⟨by decide +kernel, rfl⟩
theorem iX7_bothF_68 : zI cX7_bothF 68 (.iload 4) 2 70 := ⟨by decide +kernel, rfl⟩
theorem iX7_bothF_65 : zI cX7_bothF 65 (.getfield 28) 3 68 := ⟨by decide +kernel, rfl⟩
theorem iX7_bothF_64 : zI cX7_bothF 64 (.aload_n 0) 1 65 := ⟨by decide +kernel, rfl⟩
theorem iX7_bothF_63 : zI cX7_bothF 63 (.iaload) 1 64 := ⟨by decide +kernel, rfl⟩
theorem iX7_bothF_62 : zI cX7_bothF 62 (.iload_n 3) 1 63 := ⟨by decide +kernel, rfl⟩
theorem iX7_bothF_59 : zI cX7_bothF 59 (.getfield 28) 3 62 := ⟨by decide +kernel, rfl⟩
theorem iX7_bothF_58 : zI cX7_bothF 58 (.aload_n 0) 1 59 := ⟨by decide +kernel, rfl⟩
theorem iX7_bothF_54 : zI cX7_bothF 54 (.iadd) 1 55 := ⟨by decide +kernel, rfl⟩
theorem iX7_bothF_52 : zI cX7_bothF 52 (.iload 6) 2 54 := ⟨by decide +kernel, rfl⟩
theorem iX7_bothF_50 : zI cX7_bothF 50 (.iload 5) 2 52 := ⟨by decide +kernel, rfl⟩
theorem iX7_bothF_48 : zI cX7_bothF 48 (.istore 6) 2 50 := ⟨by decide +kernel, rfl⟩
theorem iX7_bothF_44 : zI cX7_bothF 44 (.iconst 3) 1 45 := ⟨by decide +kernel, rfl⟩
theorem iX7_bothF_43 : zI cX7_bothF 43 (.iload_n 2) 1 44 := ⟨by decide +kernel, rfl⟩
theorem iX7_bothF_42 : zI cX7_bothF 42 (.aload_n 0) 1 43 := ⟨by decide +kernel, rfl⟩
theorem iX7_bothF_40 : zI cX7_bothF 40 (.istore 5) 2 42 := ⟨by decide +kernel, rfl⟩
theorem iX7_bothF_36 : zI cX7_bothF 36 (.iconst 3) 1 37 := ⟨by decide +kernel, rfl⟩
theorem iX7_bothF_35 : zI cX7_bothF 35 (.iload_n 1) 1 36 := ⟨by decide +kernel, rfl⟩
theorem iX7_bothF_34 : zI cX7_bothF 34 (.aload_n 0) 1 35 := ⟨by decide +kernel, rfl⟩
theorem iX7_bothF_15 : zI cX7_bothF 15 (.iaload) 1 16 := ⟨by decide +kernel, rfl⟩
theorem iX7_bothF_13 : zI cX7_bothF 13 (.iload 4) 2 15 := ⟨by decide +kernel, rfl⟩
theorem iX7_bothF_10 : zI cX7_bothF 10 (.getfield 28) 3 13 := ⟨by decide +kernel, rfl⟩
theorem iX7_bothF_9 : zI cX7_bothF 9 (.aload_n 0) 1 10 := ⟨by decide +kernel, rfl⟩
theorem iX7_bothF_5 : zI cX7_bothF 5 (.iaload) 1 6 := ⟨by decide +kernel, rfl⟩
theorem iX7_bothF_4 : zI cX7_bothF 4 (.iload_n 3) 1 5 := ⟨by decide +kernel, rfl⟩
theorem iX7_bothF_1 : zI cX7_bothF 1 (.getfield 28) 3 4 := ⟨by decide +kernel, rfl⟩
theorem iX7_bothF_0 : zI cX7_bothF 0 (.aload_n 0) 1 1 := ⟨by decide +kernel, rfl⟩
set_option maxHeartbeats 4000000 in
set_option maxRecDepth 100000 in
theorem m_Mo_bothF (x1 : Int32) (x2 : Int32) (x3 : Int32) (x4 : Int32) (h : zH) : zM yX7_bothF cX7_bothF 7 (some .int) 2 shM (fun ad => [.ref (ad 0), .int x1, .int x2, .int x3, .int x4]) h (eP h) (Mo_bothF x1 x2 x3 x4 h) := by
  refine zM.of (by decide) (fun _ => rfl) (fun _ => Nat.le_of_ble_eq_true rfl) (fun X ad hnL C => ?_)
  show zG X ad shM (eP h) 0 [some (.ref (ad 0)), some (.int x1), some (.int x2), some (.int x3), some (.int x4), none, none] [] h _
  unfold Mo_bothF
  refine g_aload_n C iX7_bothF_0 rfl ?_
  refine g_getR (b := 7) C fX7_28 iX7_bothF_1 mh0 rfl ?_
  refine g_iload_n C iX7_bothF_4 rfl ?_
  refine g_iaload C iX7_bothF_5 mh7 ?_
  refine g_let (fun j19 ej19 => ?_)
  have hj19 : zG X ad shM (eP h) 19 [some (.ref (ad 0)), none, none, some (.int x3), some (.int x4), none, none] [] h j19 := by
    subst ej19
    refine g_aload_n C iX7_bothF_19 rfl ?_
    refine g_getR (b := 7) C fX7_28 iX7_bothF_20 mh0 rfl ?_
    refine g_iload_n C iX7_bothF_23 rfl ?_
    refine g_iaload C iX7_bothF_24 mh7 ?_
    refine g_aload_n C iX7_bothF_25 rfl ?_
    refine g_getR (b := 7) C fX7_28 iX7_bothF_26 mh0 rfl ?_
    refine g_iload C iX7_bothF_29 rfl ?_
    refine g_iaload C iX7_bothF_31 mh7 ?_
    refine g_iadd C iX7_bothF_32 ?_
    exact g_iret C iX7_bothF_33 rfl
  clear ej19
  refine g_if_eq C 19 iX7_bothF_6 (by decide) (fun c6 => ?_) (fun c6 => ?_)
  · refine g_sub (lv' := [some (.ref (ad 0)), none, none, some (.int x3), some (.int x4), none, none]) ⟨rfl, ⟨rfl, ⟨rfl, trivial⟩⟩⟩ ?_
    exact hj19
  · refine g_aload_n C iX7_bothF_9 rfl ?_
    refine g_getR (b := 7) C fX7_28 iX7_bothF_10 mh0 rfl ?_
    refine g_iload C iX7_bothF_13 rfl ?_
    refine g_iaload C iX7_bothF_15 mh7 ?_
    refine g_if_ne C 34 iX7_bothF_16 (by decide) (fun c16 => ?_) (fun c16 => ?_)
    · refine g_sub (lv' := [some (.ref (ad 0)), none, none, some (.int x3), some (.int x4), none, none]) ⟨rfl, ⟨rfl, ⟨rfl, trivial⟩⟩⟩ ?_
      exact hj19
    · refine g_aload_n C iX7_bothF_34 rfl ?_
      refine g_iload_n C iX7_bothF_35 rfl ?_
      refine g_iconst C 3 iX7_bothF_36 (by decide) ?_
      refine g_callV C wX7_130 iX7_bothF_37 (m_Mo_plants x1 3 h) (by decide) mh0 rfl rfl rfl rfl (Nat.le_of_ble_eq_true rfl) (fun r => ?_)
      show zG X ad shM (eP h) 40 [some (.ref (ad 0)), some (.int x1), some (.int x2), some (.int x3), some (.int x4), none, none] [.int r] h _
      refine g_istore (lv' := [some (.ref (ad 0)), some (.int x1), some (.int x2), some (.int x3), some (.int x4), some (.int r), none]) C hnL iX7_bothF_40 (by decide) rfl ?_
      refine g_aload_n C iX7_bothF_42 rfl ?_
      refine g_iload_n C iX7_bothF_43 rfl ?_
      refine g_iconst C 3 iX7_bothF_44 (by decide) ?_
      refine g_callV C wX7_130 iX7_bothF_45 (m_Mo_plants x2 3 h) (by decide) mh0 rfl rfl rfl rfl (Nat.le_of_ble_eq_true rfl) (fun r_1 => ?_)
      show zG X ad shM (eP h) 48 [some (.ref (ad 0)), some (.int x1), some (.int x2), some (.int x3), some (.int x4), some (.int r), none] [.int r_1] h _
      refine g_istore (lv' := [some (.ref (ad 0)), some (.int x1), some (.int x2), some (.int x3), some (.int x4), some (.int r), some (.int r_1)]) C hnL iX7_bothF_48 (by decide) rfl ?_
      refine g_iload C iX7_bothF_50 rfl ?_
      refine g_iload C iX7_bothF_52 rfl ?_
      refine g_iadd C iX7_bothF_54 ?_
      refine g_if_ne C 91 iX7_bothF_55 (by decide) (fun c55 => ?_) (fun c55 => ?_)
      · refine g_aload_n C iX7_bothF_58 rfl ?_
        refine g_getR (b := 7) C fX7_28 iX7_bothF_59 mh0 rfl ?_
        refine g_iload_n C iX7_bothF_62 rfl ?_
        refine g_iaload C iX7_bothF_63 mh7 ?_
        refine g_aload_n C iX7_bothF_64 rfl ?_
        refine g_getR (b := 7) C fX7_28 iX7_bothF_65 mh0 rfl ?_
        refine g_iload C iX7_bothF_68 rfl ?_
        refine g_iaload C iX7_bothF_70 mh7 ?_
        refine g_icmp_ge C 83 iX7_bothF_71 (by decide) (fun c71 => ?_) (fun c71 => ?_)
        · refine g_aload_n C iX7_bothF_83 rfl ?_
          refine g_getR (b := 7) C fX7_28 iX7_bothF_84 mh0 rfl ?_
          refine g_iload C iX7_bothF_87 rfl ?_
          refine g_iaload C iX7_bothF_89 mh7 ?_
          exact g_iret C iX7_bothF_90 rfl
        · refine g_aload_n C iX7_bothF_74 rfl ?_
          refine g_getR (b := 7) C fX7_28 iX7_bothF_75 mh0 rfl ?_
          refine g_iload_n C iX7_bothF_78 rfl ?_
          refine g_iaload C iX7_bothF_79 mh7 ?_
          refine g_goto C 90 iX7_bothF_80 (by decide) ?_
          exact g_iret C iX7_bothF_90 rfl
      · refine g_aload_n C iX7_bothF_91 rfl ?_
        refine g_getR (b := 7) C fX7_28 iX7_bothF_92 mh0 rfl ?_
        refine g_iload_n C iX7_bothF_95 rfl ?_
        refine g_iaload C iX7_bothF_96 mh7 ?_
        refine g_iload C iX7_bothF_97 rfl ?_
        refine g_imul C iX7_bothF_99 ?_
        refine g_aload_n C iX7_bothF_100 rfl ?_
        refine g_getR (b := 7) C fX7_28 iX7_bothF_101 mh0 rfl ?_
        refine g_iload C iX7_bothF_104 rfl ?_
        refine g_iaload C iX7_bothF_106 mh7 ?_
        refine g_iload C iX7_bothF_107 rfl ?_
        refine g_imul C iX7_bothF_109 ?_
        refine g_iadd C iX7_bothF_110 ?_
        refine g_iload C iX7_bothF_111 rfl ?_
        refine g_iload C iX7_bothF_113 rfl ?_
        refine g_iadd C iX7_bothF_115 ?_
        refine g_idiv C iX7_bothF_116 ?_
        exact g_iret C iX7_bothF_117 rfl

