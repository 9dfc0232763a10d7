/-! MODULE Model: what writes, two: light and what calls it -/
theorem d_Md_light_0 : decode prog_10_method_11_code 0 = .ok (.iconst 0, 1) := by decide +kernel
theorem d_Md_light_1 : decode prog_10_method_11_code 1 = .ok (.istore_n 2, 1) := by decide +kernel
theorem d_Md_light_2 : decode prog_10_method_11_code 2 = .ok (.iload_n 2, 1) := by decide +kernel
theorem d_Md_light_3 : decode prog_10_method_11_code 3 = .ok (.sipush 26280, 3) := by decide +kernel
theorem d_Md_light_6 : decode prog_10_method_11_code 6 = .ok (.if_icmp .ge 27, 3) := by decide +kernel
theorem d_Md_light_9 : decode prog_10_method_11_code 9 = .ok (.aload_n 0, 1) := by decide +kernel
theorem d_Md_light_10 : decode prog_10_method_11_code 10 = .ok (.getfield 26, 3) := by decide +kernel
theorem d_Md_light_13 : decode prog_10_method_11_code 13 = .ok (.sipush 26280, 3) := by decide +kernel
theorem d_Md_light_16 : decode prog_10_method_11_code 16 = .ok (.iload_n 1, 1) := by decide +kernel
theorem d_Md_light_17 : decode prog_10_method_11_code 17 = .ok (.imul, 1) := by decide +kernel
theorem d_Md_light_18 : decode prog_10_method_11_code 18 = .ok (.iload_n 2, 1) := by decide +kernel
theorem d_Md_light_19 : decode prog_10_method_11_code 19 = .ok (.iadd, 1) := by decide +kernel
theorem d_Md_light_20 : decode prog_10_method_11_code 20 = .ok (.aload_n 0, 1) := by decide +kernel
theorem d_Md_light_21 : decode prog_10_method_11_code 21 = .ok (.getfield 16, 3) := by decide +kernel
theorem d_Md_light_24 : decode prog_10_method_11_code 24 = .ok (.iload_n 1, 1) := by decide +kernel
theorem d_Md_light_25 : decode prog_10_method_11_code 25 = .ok (.iaload, 1) := by decide +kernel
theorem d_Md_light_26 : decode prog_10_method_11_code 26 = .ok (.iastore, 1) := by decide +kernel
theorem d_Md_light_27 : decode prog_10_method_11_code 27 = .ok (.iinc 2 1, 3) := by decide +kernel
theorem d_Md_light_30 : decode prog_10_method_11_code 30 = .ok (.goto (-28), 3) := by decide +kernel
theorem d_Md_light_33 : decode prog_10_method_11_code 33 = .ok (.iconst 0, 1) := by decide +kernel
theorem d_Md_light_34 : decode prog_10_method_11_code 34 = .ok (.istore_n 2, 1) := by decide +kernel
theorem d_Md_light_35 : decode prog_10_method_11_code 35 = .ok (.iload_n 2, 1) := by decide +kernel
theorem d_Md_light_36 : decode prog_10_method_11_code 36 = .ok (.aload_n 0, 1) := by decide +kernel
theorem d_Md_light_37 : decode prog_10_method_11_code 37 = .ok (.getfield 48, 3) := by decide +kernel
theorem d_Md_light_40 : decode prog_10_method_11_code 40 = .ok (.iload_n 1, 1) := by decide +kernel
theorem d_Md_light_41 : decode prog_10_method_11_code 41 = .ok (.iaload, 1) := by decide +kernel
theorem d_Md_light_42 : decode prog_10_method_11_code 42 = .ok (.if_icmp .ge 125, 3) := by decide +kernel
theorem d_Md_light_45 : decode prog_10_method_11_code 45 = .ok (.sipush 26280, 3) := by decide +kernel
theorem d_Md_light_48 : decode prog_10_method_11_code 48 = .ok (.istore_n 3, 1) := by decide +kernel
theorem d_Md_light_49 : decode prog_10_method_11_code 49 = .ok (.iconst 0, 1) := by decide +kernel
theorem d_Md_light_50 : decode prog_10_method_11_code 50 = .ok (.istore 4, 2) := by decide +kernel
theorem d_Md_light_52 : decode prog_10_method_11_code 52 = .ok (.iload 4, 2) := by decide +kernel
theorem d_Md_light_54 : decode prog_10_method_11_code 54 = .ok (.aload_n 0, 1) := by decide +kernel
theorem d_Md_light_55 : decode prog_10_method_11_code 55 = .ok (.getfield 48, 3) := by decide +kernel
theorem d_Md_light_58 : decode prog_10_method_11_code 58 = .ok (.iload_n 1, 1) := by decide +kernel
theorem d_Md_light_59 : decode prog_10_method_11_code 59 = .ok (.iaload, 1) := by decide +kernel
theorem d_Md_light_60 : decode prog_10_method_11_code 60 = .ok (.if_icmp .ge 52, 3) := by decide +kernel
theorem d_Md_light_63 : decode prog_10_method_11_code 63 = .ok (.aload_n 0, 1) := by decide +kernel
theorem d_Md_light_64 : decode prog_10_method_11_code 64 = .ok (.getfield 51, 3) := by decide +kernel
theorem d_Md_light_67 : decode prog_10_method_11_code 67 = .ok (.bipush 20, 2) := by decide +kernel
theorem d_Md_light_69 : decode prog_10_method_11_code 69 = .ok (.iload_n 1, 1) := by decide +kernel
theorem d_Md_light_70 : decode prog_10_method_11_code 70 = .ok (.imul, 1) := by decide +kernel
theorem d_Md_light_71 : decode prog_10_method_11_code 71 = .ok (.iload 4, 2) := by decide +kernel
theorem d_Md_light_73 : decode prog_10_method_11_code 73 = .ok (.iadd, 1) := by decide +kernel
theorem d_Md_light_74 : decode prog_10_method_11_code 74 = .ok (.iaload, 1) := by decide +kernel
theorem d_Md_light_75 : decode prog_10_method_11_code 75 = .ok (.istore 5, 2) := by decide +kernel
theorem d_Md_light_77 : decode prog_10_method_11_code 77 = .ok (.iload 5, 2) := by decide +kernel
theorem d_Md_light_79 : decode prog_10_method_11_code 79 = .ok (.aload_n 0, 1) := by decide +kernel
theorem d_Md_light_80 : decode prog_10_method_11_code 80 = .ok (.getfield 51, 3) := by decide +kernel
theorem d_Md_light_83 : decode prog_10_method_11_code 83 = .ok (.bipush 20, 2) := by decide +kernel
theorem d_Md_light_85 : decode prog_10_method_11_code 85 = .ok (.iload_n 1, 1) := by decide +kernel
theorem d_Md_light_86 : decode prog_10_method_11_code 86 = .ok (.imul, 1) := by decide +kernel
theorem d_Md_light_87 : decode prog_10_method_11_code 87 = .ok (.iload_n 2, 1) := by decide +kernel
theorem d_Md_light_88 : decode prog_10_method_11_code 88 = .ok (.iadd, 1) := by decide +kernel
theorem d_Md_light_89 : decode prog_10_method_11_code 89 = .ok (.iaload, 1) := by decide +kernel
theorem d_Md_light_90 : decode prog_10_method_11_code 90 = .ok (.if_icmp .le 14, 3) := by decide +kernel
theorem d_Md_light_93 : decode prog_10_method_11_code 93 = .ok (.iload 5, 2) := by decide +kernel
theorem d_Md_light_95 : decode prog_10_method_11_code 95 = .ok (.iload_n 3, 1) := by decide +kernel
theorem d_Md_light_96 : decode prog_10_method_11_code 96 = .ok (.if_icmp .ge 8, 3) := by decide +kernel
theorem d_Md_light_99 : decode prog_10_method_11_code 99 = .ok (.iload 5, 2) := by decide +kernel
theorem d_Md_light_101 : decode prog_10_method_11_code 101 = .ok (.goto 4, 3) := by decide +kernel
theorem d_Md_light_104 : decode prog_10_method_11_code 104 = .ok (.iload_n 3, 1) := by decide +kernel
theorem d_Md_light_105 : decode prog_10_method_11_code 105 = .ok (.istore_n 3, 1) := by decide +kernel
theorem d_Md_light_106 : decode prog_10_method_11_code 106 = .ok (.iinc 4 1, 3) := by decide +kernel
theorem d_Md_light_109 : decode prog_10_method_11_code 109 = .ok (.goto (-57), 3) := by decide +kernel
theorem d_Md_light_112 : decode prog_10_method_11_code 112 = .ok (.aload_n 0, 1) := by decide +kernel
theorem d_Md_light_113 : decode prog_10_method_11_code 113 = .ok (.getfield 51, 3) := by decide +kernel
theorem d_Md_light_116 : decode prog_10_method_11_code 116 = .ok (.bipush 20, 2) := by decide +kernel
theorem d_Md_light_118 : decode prog_10_method_11_code 118 = .ok (.iload_n 1, 1) := by decide +kernel
theorem d_Md_light_119 : decode prog_10_method_11_code 119 = .ok (.imul, 1) := by decide +kernel
theorem d_Md_light_120 : decode prog_10_method_11_code 120 = .ok (.iload_n 2, 1) := by decide +kernel
theorem d_Md_light_121 : decode prog_10_method_11_code 121 = .ok (.iadd, 1) := by decide +kernel
theorem d_Md_light_122 : decode prog_10_method_11_code 122 = .ok (.iaload, 1) := by decide +kernel
theorem d_Md_light_123 : decode prog_10_method_11_code 123 = .ok (.istore 4, 2) := by decide +kernel
theorem d_Md_light_125 : decode prog_10_method_11_code 125 = .ok (.iload 4, 2) := by decide +kernel
theorem d_Md_light_127 : decode prog_10_method_11_code 127 = .ok (.iload_n 3, 1) := by decide +kernel
theorem d_Md_light_128 : decode prog_10_method_11_code 128 = .ok (.if_icmp .ge 33, 3) := by decide +kernel
theorem d_Md_light_131 : decode prog_10_method_11_code 131 = .ok (.aload_n 0, 1) := by decide +kernel
theorem d_Md_light_132 : decode prog_10_method_11_code 132 = .ok (.getfield 26, 3) := by decide +kernel
theorem d_Md_light_135 : decode prog_10_method_11_code 135 = .ok (.sipush 26280, 3) := by decide +kernel
theorem d_Md_light_138 : decode prog_10_method_11_code 138 = .ok (.iload_n 1, 1) := by decide +kernel
theorem d_Md_light_139 : decode prog_10_method_11_code 139 = .ok (.imul, 1) := by decide +kernel
theorem d_Md_light_140 : decode prog_10_method_11_code 140 = .ok (.iload 4, 2) := by decide +kernel
theorem d_Md_light_142 : decode prog_10_method_11_code 142 = .ok (.iadd, 1) := by decide +kernel
theorem d_Md_light_143 : decode prog_10_method_11_code 143 = .ok (.aload_n 0, 1) := by decide +kernel
theorem d_Md_light_144 : decode prog_10_method_11_code 144 = .ok (.getfield 54, 3) := by decide +kernel
theorem d_Md_light_147 : decode prog_10_method_11_code 147 = .ok (.bipush 20, 2) := by decide +kernel
theorem d_Md_light_149 : decode prog_10_method_11_code 149 = .ok (.iload_n 1, 1) := by decide +kernel
theorem d_Md_light_150 : decode prog_10_method_11_code 150 = .ok (.imul, 1) := by decide +kernel
theorem d_Md_light_151 : decode prog_10_method_11_code 151 = .ok (.iload_n 2, 1) := by decide +kernel
theorem d_Md_light_152 : decode prog_10_method_11_code 152 = .ok (.iadd, 1) := by decide +kernel
theorem d_Md_light_153 : decode prog_10_method_11_code 153 = .ok (.iaload, 1) := by decide +kernel
theorem d_Md_light_154 : decode prog_10_method_11_code 154 = .ok (.iastore, 1) := by decide +kernel
theorem d_Md_light_155 : decode prog_10_method_11_code 155 = .ok (.iinc 4 1, 3) := by decide +kernel
theorem d_Md_light_158 : decode prog_10_method_11_code 158 = .ok (.goto (-33), 3) := by decide +kernel
theorem d_Md_light_161 : decode prog_10_method_11_code 161 = .ok (.iinc 2 1, 3) := by decide +kernel
theorem d_Md_light_164 : decode prog_10_method_11_code 164 = .ok (.goto (-129), 3) := by decide +kernel
theorem d_Md_light_167 : decode prog_10_method_11_code 167 = .ok (.iconst 0, 1) := by decide +kernel
theorem d_Md_light_168 : decode prog_10_method_11_code 168 = .ok (.istore_n 2, 1) := by decide +kernel
theorem d_Md_light_169 : decode prog_10_method_11_code 169 = .ok (.iload_n 2, 1) := by decide +kernel
theorem d_Md_light_170 : decode prog_10_method_11_code 170 = .ok (.aload_n 0, 1) := by decide +kernel
theorem d_Md_light_171 : decode prog_10_method_11_code 171 = .ok (.getfield 38, 3) := by decide +kernel
theorem d_Md_light_174 : decode prog_10_method_11_code 174 = .ok (.iload_n 1, 1) := by decide +kernel
theorem d_Md_light_175 : decode prog_10_method_11_code 175 = .ok (.iaload, 1) := by decide +kernel
theorem d_Md_light_176 : decode prog_10_method_11_code 176 = .ok (.if_icmp .ge 129, 3) := by decide +kernel
theorem d_Md_light_179 : decode prog_10_method_11_code 179 = .ok (.sipush 26280, 3) := by decide +kernel
theorem d_Md_light_182 : decode prog_10_method_11_code 182 = .ok (.istore_n 3, 1) := by decide +kernel
theorem d_Md_light_183 : decode prog_10_method_11_code 183 = .ok (.iconst 0, 1) := by decide +kernel
theorem d_Md_light_184 : decode prog_10_method_11_code 184 = .ok (.istore 4, 2) := by decide +kernel
theorem d_Md_light_186 : decode prog_10_method_11_code 186 = .ok (.iload 4, 2) := by decide +kernel
theorem d_Md_light_188 : decode prog_10_method_11_code 188 = .ok (.aload_n 0, 1) := by decide +kernel
theorem d_Md_light_189 : decode prog_10_method_11_code 189 = .ok (.getfield 38, 3) := by decide +kernel
theorem d_Md_light_192 : decode prog_10_method_11_code 192 = .ok (.iload_n 1, 1) := by decide +kernel
theorem d_Md_light_193 : decode prog_10_method_11_code 193 = .ok (.iaload, 1) := by decide +kernel
theorem d_Md_light_194 : decode prog_10_method_11_code 194 = .ok (.if_icmp .ge 52, 3) := by decide +kernel
theorem d_Md_light_197 : decode prog_10_method_11_code 197 = .ok (.aload_n 0, 1) := by decide +kernel
theorem d_Md_light_198 : decode prog_10_method_11_code 198 = .ok (.getfield 41, 3) := by decide +kernel
theorem d_Md_light_201 : decode prog_10_method_11_code 201 = .ok (.bipush 20, 2) := by decide +kernel
theorem d_Md_light_203 : decode prog_10_method_11_code 203 = .ok (.iload_n 1, 1) := by decide +kernel
theorem d_Md_light_204 : decode prog_10_method_11_code 204 = .ok (.imul, 1) := by decide +kernel
theorem d_Md_light_205 : decode prog_10_method_11_code 205 = .ok (.iload 4, 2) := by decide +kernel
theorem d_Md_light_207 : decode prog_10_method_11_code 207 = .ok (.iadd, 1) := by decide +kernel
theorem d_Md_light_208 : decode prog_10_method_11_code 208 = .ok (.iaload, 1) := by decide +kernel
theorem d_Md_light_209 : decode prog_10_method_11_code 209 = .ok (.istore 5, 2) := by decide +kernel
theorem d_Md_light_211 : decode prog_10_method_11_code 211 = .ok (.iload 5, 2) := by decide +kernel
theorem d_Md_light_213 : decode prog_10_method_11_code 213 = .ok (.aload_n 0, 1) := by decide +kernel
theorem d_Md_light_214 : decode prog_10_method_11_code 214 = .ok (.getfield 41, 3) := by decide +kernel
theorem d_Md_light_217 : decode prog_10_method_11_code 217 = .ok (.bipush 20, 2) := by decide +kernel
theorem d_Md_light_219 : decode prog_10_method_11_code 219 = .ok (.iload_n 1, 1) := by decide +kernel
theorem d_Md_light_220 : decode prog_10_method_11_code 220 = .ok (.imul, 1) := by decide +kernel
theorem d_Md_light_221 : decode prog_10_method_11_code 221 = .ok (.iload_n 2, 1) := by decide +kernel
theorem d_Md_light_222 : decode prog_10_method_11_code 222 = .ok (.iadd, 1) := by decide +kernel
theorem d_Md_light_223 : decode prog_10_method_11_code 223 = .ok (.iaload, 1) := by decide +kernel
theorem d_Md_light_224 : decode prog_10_method_11_code 224 = .ok (.if_icmp .le 14, 3) := by decide +kernel
theorem d_Md_light_227 : decode prog_10_method_11_code 227 = .ok (.iload 5, 2) := by decide +kernel
theorem d_Md_light_229 : decode prog_10_method_11_code 229 = .ok (.iload_n 3, 1) := by decide +kernel
theorem d_Md_light_230 : decode prog_10_method_11_code 230 = .ok (.if_icmp .ge 8, 3) := by decide +kernel
theorem d_Md_light_233 : decode prog_10_method_11_code 233 = .ok (.iload 5, 2) := by decide +kernel
theorem d_Md_light_235 : decode prog_10_method_11_code 235 = .ok (.goto 4, 3) := by decide +kernel
theorem d_Md_light_238 : decode prog_10_method_11_code 238 = .ok (.iload_n 3, 1) := by decide +kernel
theorem d_Md_light_239 : decode prog_10_method_11_code 239 = .ok (.istore_n 3, 1) := by decide +kernel
theorem d_Md_light_240 : decode prog_10_method_11_code 240 = .ok (.iinc 4 1, 3) := by decide +kernel
theorem d_Md_light_243 : decode prog_10_method_11_code 243 = .ok (.goto (-57), 3) := by decide +kernel
theorem d_Md_light_246 : decode prog_10_method_11_code 246 = .ok (.aload_n 0, 1) := by decide +kernel
theorem d_Md_light_247 : decode prog_10_method_11_code 247 = .ok (.getfield 41, 3) := by decide +kernel
theorem d_Md_light_250 : decode prog_10_method_11_code 250 = .ok (.bipush 20, 2) := by decide +kernel
theorem d_Md_light_252 : decode prog_10_method_11_code 252 = .ok (.iload_n 1, 1) := by decide +kernel
theorem d_Md_light_253 : decode prog_10_method_11_code 253 = .ok (.imul, 1) := by decide +kernel
theorem d_Md_light_254 : decode prog_10_method_11_code 254 = .ok (.iload_n 2, 1) := by decide +kernel
theorem d_Md_light_255 : decode prog_10_method_11_code 255 = .ok (.iadd, 1) := by decide +kernel
theorem d_Md_light_256 : decode prog_10_method_11_code 256 = .ok (.iaload, 1) := by decide +kernel
theorem d_Md_light_257 : decode prog_10_method_11_code 257 = .ok (.istore 4, 2) := by decide +kernel
theorem d_Md_light_259 : decode prog_10_method_11_code 259 = .ok (.iload 4, 2) := by decide +kernel
theorem d_Md_light_261 : decode prog_10_method_11_code 261 = .ok (.iload_n 3, 1) := by decide +kernel
theorem d_Md_light_262 : decode prog_10_method_11_code 262 = .ok (.if_icmp .ge 37, 3) := by decide +kernel
theorem d_Md_light_265 : decode prog_10_method_11_code 265 = .ok (.aload_n 0, 1) := by decide +kernel
theorem d_Md_light_266 : decode prog_10_method_11_code 266 = .ok (.getfield 44, 3) := by decide +kernel
theorem d_Md_light_269 : decode prog_10_method_11_code 269 = .ok (.bipush 20, 2) := by decide +kernel
theorem d_Md_light_271 : decode prog_10_method_11_code 271 = .ok (.iload_n 1, 1) := by decide +kernel
theorem d_Md_light_272 : decode prog_10_method_11_code 272 = .ok (.imul, 1) := by decide +kernel
theorem d_Md_light_273 : decode prog_10_method_11_code 273 = .ok (.iload_n 2, 1) := by decide +kernel
theorem d_Md_light_274 : decode prog_10_method_11_code 274 = .ok (.iadd, 1) := by decide +kernel
theorem d_Md_light_275 : decode prog_10_method_11_code 275 = .ok (.baload, 1) := by decide +kernel
theorem d_Md_light_276 : decode prog_10_method_11_code 276 = .ok (.ifCond .ne 23, 3) := by decide +kernel
theorem d_Md_light_279 : decode prog_10_method_11_code 279 = .ok (.aload_n 0, 1) := by decide +kernel
theorem d_Md_light_280 : decode prog_10_method_11_code 280 = .ok (.getfield 26, 3) := by decide +kernel
theorem d_Md_light_283 : decode prog_10_method_11_code 283 = .ok (.sipush 26280, 3) := by decide +kernel
theorem d_Md_light_286 : decode prog_10_method_11_code 286 = .ok (.iload_n 1, 1) := by decide +kernel
theorem d_Md_light_287 : decode prog_10_method_11_code 287 = .ok (.imul, 1) := by decide +kernel
theorem d_Md_light_288 : decode prog_10_method_11_code 288 = .ok (.iload 4, 2) := by decide +kernel
theorem d_Md_light_290 : decode prog_10_method_11_code 290 = .ok (.iadd, 1) := by decide +kernel
theorem d_Md_light_291 : decode prog_10_method_11_code 291 = .ok (.iconst 0, 1) := by decide +kernel
theorem d_Md_light_292 : decode prog_10_method_11_code 292 = .ok (.iastore, 1) := by decide +kernel
theorem d_Md_light_293 : decode prog_10_method_11_code 293 = .ok (.iinc 4 1, 3) := by decide +kernel
theorem d_Md_light_296 : decode prog_10_method_11_code 296 = .ok (.goto (-37), 3) := by decide +kernel
theorem d_Md_light_299 : decode prog_10_method_11_code 299 = .ok (.iinc 2 1, 3) := by decide +kernel
theorem d_Md_light_302 : decode prog_10_method_11_code 302 = .ok (.goto (-133), 3) := by decide +kernel
theorem d_Md_light_305 : decode prog_10_method_11_code 305 = .ok (.aload_n 0, 1) := by decide +kernel
theorem d_Md_light_306 : decode prog_10_method_11_code 306 = .ok (.iconst 0, 1) := by decide +kernel
theorem d_Md_light_307 : decode prog_10_method_11_code 307 = .ok (.putfield 100, 3) := by decide +kernel
theorem d_Md_light_310 : decode prog_10_method_11_code 310 = .ok (.return_, 1) := by decide +kernel
def vc_Md_light (th : Int) (no : Int) (ca : Nat → Int) (ba : Nat → Int) (nl : Int) (xa : Nat → Int) (sa : Nat → Int) (da : Nat → Int) (la : Nat → Int) (ra : Nat → Int) (fa : Nat → Int) (ta : Nat → Int) (ua : Nat → Int) (uh : Nat → Int) (uo : Nat → Int) (ma : Nat → Int) (mh : Nat → Int) (ml : Nat → Int) (nf : Int) (fo : Nat → Int) (fh : Nat → Int) (fs : Nat → Int) (rs : Int) (ic : Int) (mn : Int) (bh : Nat → Int) (bo : Nat → Int) (ya : Nat → Int) (np : Int) (pa : Nat → Int) (nc : Int) (cp : Nat → Int) (lp : Int) (post : (Nat → Int) → Int → Prop) : Prop := ∃ (I1 : Int → (Nat → Int) → Prop) (μ2 : Int → (Nat → Int) → Nat), I1 0 la ∧ ∀ (h1_ : Int) (g1 : Nat → Int), I1 h1_ g1 → (r32 h1_) ∧ ((26280 ≤ h1_ → ∃ (I7 : Int → (Nat → Int) → Prop) (μ8 : Int → (Nat → Int) → Nat), I7 0 g1 ∧ ∀ (ka : Int) (g2 : Nat → Int), I7 ka g2 → (0 ≤ lp ∧ lp < 8) ∧ ((r32 ka) ∧ ((r32 (ma (lp).toNat)) ∧ ((ma (lp).toNat ≤ ka → ∃ (I15 : Int → (Nat → Int) → Prop) (μ16 : Int → (Nat → Int) → Nat), I15 0 g2 ∧ ∀ (kb : Int) (g4 : Nat → Int), I15 kb g4 → (0 ≤ lp ∧ lp < 8) ∧ ((r32 kb) ∧ ((r32 (ua (lp).toNat)) ∧ ((ua (lp).toNat ≤ kb → post g4 0) ∧ (kb < ua (lp).toNat → ∃ (I23 : Int → Int → Prop) (μ24 : Int → Int → Nat), I23 26280 0 ∧ ∀ (enb : Int) (ib : Int), I23 enb ib → (0 ≤ lp ∧ lp < 8) ∧ ((r32 ib) ∧ ((ua (lp).toNat ≤ ib → (0 ≤ 20 * lp + kb ∧ 20 * lp + kb < 160) ∧ (∃ (I31 : Int → (Nat → Int) → Prop) (μ32 : Int → (Nat → Int) → Nat), I31 (uh (20 * lp + kb).toNat) g4 ∧ ∀ (h3_ : Int) (g5 : Nat → Int), I31 h3_ g5 → (r32 h3_) ∧ ((r32 enb) ∧ ((enb ≤ h3_ → I15 (kb + 1) g5 ∧ μ16 (kb + 1) g5 < μ16 kb g4) ∧ (h3_ < enb → (0 ≤ 20 * lp + kb ∧ 20 * lp + kb < 160) ∧ ((r32 (uo (20 * lp + kb).toNat)) ∧ ((¬ uo (20 * lp + kb).toNat = 0 → I15 (kb + 1) g5 ∧ μ16 (kb + 1) g5 < μ16 kb g4) ∧ (uo (20 * lp + kb).toNat = 0 → (0 ≤ 26280 * lp + h3_ ∧ 26280 * lp + h3_ < 210240) ∧ (I31 (h3_ + 1) (va_up g5 (26280 * lp + h3_).toNat 0) ∧ μ32 (h3_ + 1) (va_up g5 (26280 * lp + h3_).toNat 0) < μ32 h3_ g5))))))))) ∧ (ib < ua (lp).toNat → (0 ≤ 20 * lp + ib ∧ 20 * lp + ib < 160) ∧ ((0 ≤ 20 * lp + kb ∧ 20 * lp + kb < 160) ∧ ((r32 (uh (20 * lp + ib).toNat)) ∧ ((r32 (uh (20 * lp + kb).toNat)) ∧ ((uh (20 * lp + ib).toNat ≤ uh (20 * lp + kb).toNat → I23 enb (ib + 1) ∧ μ24 enb (ib + 1) < μ24 enb ib) ∧ (uh (20 * lp + kb).toNat < uh (20 * lp + ib).toNat → (r32 enb) ∧ ((enb ≤ uh (20 * lp + ib).toNat → I23 enb (ib + 1) ∧ μ24 enb (ib + 1) < μ24 enb ib) ∧ (uh (20 * lp + ib).toNat < enb → I23 (uh (20 * lp + ib).toNat) (ib + 1) ∧ μ24 (uh (20 * lp + ib).toNat) (ib + 1) < μ24 enb ib))))))))))))))) ∧ (ka < ma (lp).toNat → ∃ (I58 : Int → Int → Prop) (μ59 : Int → Int → Nat), I58 26280 0 ∧ ∀ (ena : Int) (ia : Int), I58 ena ia → (0 ≤ lp ∧ lp < 8) ∧ ((r32 ia) ∧ ((ma (lp).toNat ≤ ia → (0 ≤ 20 * lp + ka ∧ 20 * lp + ka < 160) ∧ (∃ (I66 : Int → (Nat → Int) → Prop) (μ67 : Int → (Nat → Int) → Nat), I66 (mh (20 * lp + ka).toNat) g2 ∧ ∀ (h2_ : Int) (g3 : Nat → Int), I66 h2_ g3 → (r32 h2_) ∧ ((r32 ena) ∧ ((ena ≤ h2_ → I7 (ka + 1) g3 ∧ μ8 (ka + 1) g3 < μ8 ka g2) ∧ (h2_ < ena → (0 ≤ 20 * lp + ka ∧ 20 * lp + ka < 160) ∧ ((0 ≤ 26280 * lp + h2_ ∧ 26280 * lp + h2_ < 210240) ∧ (I66 (h2_ + 1) (va_up g3 (26280 * lp + h2_).toNat (ml (20 * lp + ka).toNat)) ∧ μ67 (h2_ + 1) (va_up g3 (26280 * lp + h2_).toNat (ml (20 * lp + ka).toNat)) < μ67 h2_ g3))))))) ∧ (ia < ma (lp).toNat → (0 ≤ 20 * lp + ia ∧ 20 * lp + ia < 160) ∧ ((0 ≤ 20 * lp + ka ∧ 20 * lp + ka < 160) ∧ ((r32 (mh (20 * lp + ia).toNat)) ∧ ((r32 (mh (20 * lp + ka).toNat)) ∧ ((mh (20 * lp + ia).toNat ≤ mh (20 * lp + ka).toNat → I58 ena (ia + 1) ∧ μ59 ena (ia + 1) < μ59 ena ia) ∧ (mh (20 * lp + ka).toNat < mh (20 * lp + ia).toNat → (r32 ena) ∧ ((ena ≤ mh (20 * lp + ia).toNat → I58 ena (ia + 1) ∧ μ59 ena (ia + 1) < μ59 ena ia) ∧ (mh (20 * lp + ia).toNat < ena → I58 (mh (20 * lp + ia).toNat) (ia + 1) ∧ μ59 (mh (20 * lp + ia).toNat) (ia + 1) < μ59 ena ia))))))))))))))) ∧ (h1_ < 26280 → (0 ≤ lp ∧ lp < 8) ∧ ((0 ≤ 26280 * lp + h1_ ∧ 26280 * lp + h1_ < 210240) ∧ (I1 (h1_ + 1) (va_up g1 (26280 * lp + h1_).toNat (xa (lp).toNat)) ∧ μ2 (h1_ + 1) (va_up g1 (26280 * lp + h1_).toNat (xa (lp).toNat)) < μ2 h1_ g1))))
set_option maxHeartbeats 4000000 in
set_option maxRecDepth 100000 in
theorem m_Md_light (l : Launch) (D : va_G) (cI cJ cO cZ : ClassId) (h0 h1 h2 h3 h4 h5 h6 h7 h8 h9 h10 h11 h12 h13 h14 h15 h16 h17 h18 h19 h20 h21 h22 h23 : Nat) (sz : Nat) (th : Int) (no : Int) (ca : Nat → Int) (ba : Nat → Int) (nl : Int) (xa : Nat → Int) (sa : Nat → Int) (da : Nat → Int) (la : Nat → Int) (ra : Nat → Int) (fa : Nat → Int) (ta : Nat → Int) (ua : Nat → Int) (uh : Nat → Int) (uo : Nat → Int) (ma : Nat → Int) (mh : Nat → Int) (ml : Nat → Int) (nf : Int) (fo : Nat → Int) (fh : Nat → Int) (fs : Nat → Int) (rs : Int) (ic : Int) (mn : Int) (bh : Nat → Int) (bo : Nat → Int) (ya : Nat → Int) (np : Int) (pa : Nat → Int) (nc : Int) (cp : Nat → Int) (lp : Int) (post : (Nat → Int) → Int → Prop) (v : vc_Md_light th no ca ba nl xa sa da la ra fa ta ua uh uo ma mh ml nf fo fh fs rs ic mn bh bo ya np pa nc cp lp post) : Met l ⟨"LightDosesModel", "light", "(I)V"⟩ (.code ⟨"LightDosesModel", "light", "(I)V"⟩ prog_10_method_11_code 6 none :: TG) { frames := 0, cells := 0, slots := 0, locals := 0 } (va_Pc [.ref h0, .int (iI lp)] (fun U => U.heap.size = sz ∧ va_P D vwCl (wMd cI cJ cZ h0 h1 h2 h3 h4 h5 h6 h7 h8 h9 h10 h11 h12 h13 h14 h15 h16 h17 h18 h19 h20 h21 h22 h23 th no ca ba nl xa sa da la ra fa ta ua uh uo ma mh ml nf fo fh fs rs ic mn bh bo ya np pa nc cp) U.heap ∧ va_K D vwCl (tyx cI cJ cO cZ) U ∧ va_D (fun _ => True) (wMd cI cJ cZ h0 h1 h2 h3 h4 h5 h6 h7 h8 h9 h10 h11 h12 h13 h14 h15 h16 h17 h18 h19 h20 h21 h22 h23 th no ca ba nl xa sa da la ra fa ta ua uh uo ma mh ml nf fo fh fs rs ic mn bh bo ya np pa nc cp))) (va_Qv (fun u : (Nat → Int) × Int => post u.1 u.2) (fun u t => va_P D vwCl (wMd cI cJ cZ h0 h1 h2 h3 h4 h5 h6 h7 h8 h9 h10 h11 h12 h13 h14 h15 h16 h17 h18 h19 h20 h21 h22 h23 th no ca ba nl xa sa da u.1 ra fa ta ua uh uo ma mh ml nf fo fh fs rs u.2 mn bh bo ya np pa nc cp) t.heap ∧ va_K D vwCl (tyx cI cJ cO cZ) t ∧ va_D (va_A (wMd cI cJ cZ h0 h1 h2 h3 h4 h5 h6 h7 h8 h9 h10 h11 h12 h13 h14 h15 h16 h17 h18 h19 h20 h21 h22 h23 th no ca ba nl xa sa da la ra fa ta ua uh uo ma mh ml nf fo fh fs rs ic mn bh bo ya np pa nc cp) sz) (wMd cI cJ cZ h0 h1 h2 h3 h4 h5 h6 h7 h8 h9 h10 h11 h12 h13 h14 h15 h16 h17 h18 h19 h20 h21 h22 h23 th no ca ba nl xa sa da u.1 ra fa ta ua uh uo ma mh ml nf fo fh fs rs u.2 mn bh bo ya np pa nc cp)) (va_A (wMd cI cJ cZ h0 h1 h2 h3 h4 h5 h6 h7 h8 h9 h10 h11 h12 h13 h14 h15 h16 h17 h18 h19 h20 h21 h22 h23 th no ca ba nl xa sa da la ra fa ta ua uh uo ma mh ml nf fo fh fs rs ic mn bh bo ya np pa nc cp) sz)) 0 0 (va_A (wMd cI cJ cZ h0 h1 h2 h3 h4 h5 h6 h7 h8 h9 h10 h11 h12 h13 h14 h15 h16 h17 h18 h19 h20 h21 h22 h23 th no ca ba nl xa sa da la ra fa ta ua uh uo ma mh ml nf fo fh fs rs ic mn bh bo ya np pa nc cp) sz) := by
  refine Met.ofW (cc := prog_10_method_11_code) (maxL := 6) (ret := none) (by decide) rfl ?_
  intro p e s m args below meth c s₁ B hml hv
  obtain ⟨rfl, hsz, hP, hK, hD0⟩ := hv
  have hx := B.exec
  have hb := B.bytes
  have hr := B.returns
  have hts0 := atoms_spec (ws := (.code ⟨"LightDosesModel", "light", "(I)V"⟩ prog_10_method_11_code 6 none :: TG)) B.pre
  have hts : ∀ w ∈ TG, w.before _ s = true := fun w h => hts0 w (List.mem_cons_of_mem _ h)
  have hown : s.vm.findClass "LightDosesModel" = some m.cls := findClass_of_methodNamed B.named
  have hlocks := B.notSynchronized
  subst hsz
  have hD := hD0.self (sz := s.heap.size)
  generalize hAe : va_A (wMd cI cJ cZ h0 h1 h2 h3 h4 h5 h6 h7 h8 h9 h10 h11 h12 h13 h14 h15 h16 h17 h18 h19 h20 h21 h22 h23 th no ca ba nl xa sa da la ra fa ta ua uh uo ma mh ml nf fo fh fs rs ic mn bh bo ya np pa nc cp) s.heap.size = A at hD ⊢
  have hA : ∀ q : Nat, s.heap.size ≤ q → A q := fun q h => by rw [← hAe]; exact Or.inr h
  have hS : va_S A s.heap s.heap [] := va_S.rf
  have hP : va_P D vwCl (wMd cI cJ cZ h0 h1 h2 h3 h4 h5 h6 h7 h8 h9 h10 h11 h12 h13 h14 h15 h16 h17 h18 h19 h20 h21 h22 h23 th no ca ba nl xa sa da la ra fa ta ua uh uo ma mh ml nf fo fh fs rs ic mn bh bo ya np pa nc cp) s.heap := hP
  have hl := lv_entry ([Value.ref h0, Value.int (iI lp)]) (n := 6) (Nat.le_of_ble_eq_true rfl)
  rw [lg_entry_eq]
  generalize (lg_sl ([Value.ref h0, Value.int (iI lp)]) ++ List.replicate (6 - (lg_sl ([Value.ref h0, Value.int (iI lp)])).length) Slot.unset).toArray = ls at hl ⊢
  have hl : lv_has ls 6 [(0, .ref h0), (1, .int (iI lp))] := hl
  unfold vc_Md_light at v
  obtain ⟨H, hH⟩ : ∃ H, H = s.heap := ⟨_, rfl⟩
  obtain ⟨locs, hlc⟩ : ∃ L : List Loc, L = [] := ⟨_, rfl⟩
  rw [← hlc] at hS ⊢
  have hP : va_P D vwCl (wMd cI cJ cZ h0 h1 h2 h3 h4 h5 h6 h7 h8 h9 h10 h11 h12 h13 h14 h15 h16 h17 h18 h19 h20 h21 h22 h23 th no ca ba nl xa sa da la ra fa ta ua uh uo ma mh ml nf fo fh fs rs ic mn bh bo ya np pa nc cp) H := by rw [hH]; exact hP
  have hS : va_S A s.heap H locs := by rw [hH]; exact hS
  have hW0 : ∀ {X : Heap → Prop}, X H → X s.heap := fun h => by rw [← hH]; exact h
  refine hW0 (X := fun Z => W p l e _ s m _ below meth c Z locs 0 0 _ _) ?_
  refine nv_iconst (n := 0) hx hb d_Md_light_0 ?_
  refine lv_istore_n (lv' := [(2, .int (iI 0)), (0, .ref h0), (1, .int (iI lp))]) hx hb d_Md_light_1 rfl hl (by decide) rfl (fun ls hl => ?_)
  obtain ⟨I1, μ2, v93, v94⟩ := v
  have L95 : ∀ (N : Nat) (h1_ : Int) (g1 : Nat → Int) (H : Heap) (locs : List Loc) (ls : Array Slot), μ2 h1_ g1 < N → I1 h1_ g1 → va_P D vwCl (wMd cI cJ cZ h0 h1 h2 h3 h4 h5 h6 h7 h8 h9 h10 h11 h12 h13 h14 h15 h16 h17 h18 h19 h20 h21 h22 h23 th no ca ba nl xa sa da g1 ra fa ta ua uh uo ma mh ml nf fo fh fs rs ic mn bh bo ya np pa nc cp) H → va_D A (wMd cI cJ cZ h0 h1 h2 h3 h4 h5 h6 h7 h8 h9 h10 h11 h12 h13 h14 h15 h16 h17 h18 h19 h20 h21 h22 h23 th no ca ba nl xa sa da g1 ra fa ta ua uh uo ma mh ml nf fo fh fs rs ic mn bh bo ya np pa nc cp) → va_S A s.heap H locs → lv_has ls 6 [(0, .ref h0), (1, .int (iI lp)), (2, .int (iI h1_))] → W p l e (headSpec (.code ⟨"LightDosesModel", "light", "(I)V"⟩ prog_10_method_11_code 6 none :: TG) { frames := 0, cells := 0, slots := 0, locals := 0 }).room s m ([Value.ref h0, Value.int (iI lp)] : List Value).toArray below meth c H locs 0 0 (MQ below (va_Qv (fun u : (Nat → Int) × Int => post u.1 u.2) (fun u t => va_P D vwCl (wMd cI cJ cZ h0 h1 h2 h3 h4 h5 h6 h7 h8 h9 h10 h11 h12 h13 h14 h15 h16 h17 h18 h19 h20 h21 h22 h23 th no ca ba nl xa sa da u.1 ra fa ta ua uh uo ma mh ml nf fo fh fs rs u.2 mn bh bo ya np pa nc cp) t.heap ∧ va_K D vwCl (tyx cI cJ cO cZ) t ∧ va_D A (wMd cI cJ cZ h0 h1 h2 h3 h4 h5 h6 h7 h8 h9 h10 h11 h12 h13 h14 h15 h16 h17 h18 h19 h20 h21 h22 h23 th no ca ba nl xa sa da u.1 ra fa ta ua uh uo ma mh ml nf fo fh fs rs u.2 mn bh bo ya np pa nc cp)) A) ([Value.ref h0, Value.int (iI lp)] : List Value).toArray s 0 0 A) (F0 m 2 ls []) := by
    intro N
    induction N with
    | zero => intro h1_ g1 H locs ls hN; exact absurd hN (Nat.not_lt_zero _)
    | succ N ih3 =>
      intro h1_ g1 H locs ls hN4 hI hP hD hS hl
      have v := v94 h1_ g1 hI
      refine lv_iload_n hx hb d_Md_light_2 rfl (lv_at hl 2 rfl) ?_
      refine nv_sipush (z := 26280) hx hb d_Md_light_3 (by decide) ?_
      obtain ⟨k5, v⟩ := v
      refine nv_icmp_ge (tgt := 33) hx hb d_Md_light_6 (by decide) k5 (by decide) (fun c6 => ?_) (fun c6 => ?_)
      · replace v := v.1 c6
        refine nv_iconst (n := 0) hx hb d_Md_light_33 ?_
        refine lv_istore_n (lv' := [(2, .int (iI 0)), (0, .ref h0), (1, .int (iI lp))]) hx hb d_Md_light_34 rfl hl (by decide) rfl (fun ls hl => ?_)
        obtain ⟨I7, μ8, v88, v89⟩ := v
        have L90 : ∀ (N : Nat) (ka : Int) (g2 : Nat → Int) (H : Heap) (locs : List Loc) (ls : Array Slot), μ8 ka g2 < N → I7 ka g2 → va_P D vwCl (wMd cI cJ cZ h0 h1 h2 h3 h4 h5 h6 h7 h8 h9 h10 h11 h12 h13 h14 h15 h16 h17 h18 h19 h20 h21 h22 h23 th no ca ba nl xa sa da g2 ra fa ta ua uh uo ma mh ml nf fo fh fs rs ic mn bh bo ya np pa nc cp) H → va_D A (wMd cI cJ cZ h0 h1 h2 h3 h4 h5 h6 h7 h8 h9 h10 h11 h12 h13 h14 h15 h16 h17 h18 h19 h20 h21 h22 h23 th no ca ba nl xa sa da g2 ra fa ta ua uh uo ma mh ml nf fo fh fs rs ic mn bh bo ya np pa nc cp) → va_S A s.heap H locs → lv_has ls 6 [(0, .ref h0), (1, .int (iI lp)), (2, .int (iI ka))] → W p l e (headSpec (.code ⟨"LightDosesModel", "light", "(I)V"⟩ prog_10_method_11_code 6 none :: TG) { frames := 0, cells := 0, slots := 0, locals := 0 }).room s m ([Value.ref h0, Value.int (iI lp)] : List Value).toArray below meth c H locs 0 0 (MQ below (va_Qv (fun u : (Nat → Int) × Int => post u.1 u.2) (fun u t => va_P D vwCl (wMd cI cJ cZ h0 h1 h2 h3 h4 h5 h6 h7 h8 h9 h10 h11 h12 h13 h14 h15 h16 h17 h18 h19 h20 h21 h22 h23 th no ca ba nl xa sa da u.1 ra fa ta ua uh uo ma mh ml nf fo fh fs rs u.2 mn bh bo ya np pa nc cp) t.heap ∧ va_K D vwCl (tyx cI cJ cO cZ) t ∧ va_D A (wMd cI cJ cZ h0 h1 h2 h3 h4 h5 h6 h7 h8 h9 h10 h11 h12 h13 h14 h15 h16 h17 h18 h19 h20 h21 h22 h23 th no ca ba nl xa sa da u.1 ra fa ta ua uh uo ma mh ml nf fo fh fs rs u.2 mn bh bo ya np pa nc cp)) A) ([Value.ref h0, Value.int (iI lp)] : List Value).toArray s 0 0 A) (F0 m 35 ls []) := by
          intro N
          induction N with
          | zero => intro ka g2 H locs ls hN; exact absurd hN (Nat.not_lt_zero _)
          | succ N ih9 =>
            intro ka g2 H locs ls hN10 hI hP hD hS hl
            have v := v89 ka g2 hI
            refine lv_iload_n hx hb d_Md_light_35 rfl (lv_at hl 2 rfl) ?_
            refine lv_aload_n hx hb d_Md_light_36 rfl (lv_at hl 0 rfl) ?_
            refine va_get (D := D) (ci := 8) (v := .ref h13) (C := "LightDosesModel") (T := T_Md) (N := 32) hx hb hts in_Md hown hK hP 0 rfl rfl 15 (by decide) (hts _ wd_718) (fun _ h9 => h9) rfl d_Md_light_37 ?_
            refine lv_iload_n hx hb d_Md_light_40 rfl (lv_at hl 1 rfl) ?_
            obtain ⟨k11, v⟩ := v
            refine nv_iald (f := ma) hx hb hK 0 (hP 13 _ rfl) rfl (lp).toNat (Int.toNat_of_nonneg k11.1).symm (by omega) (by decide) d_Md_light_41 ?_
            obtain ⟨k12, v⟩ := v
            obtain ⟨k13, v⟩ := v
            refine nv_icmp_ge (tgt := 167) hx hb d_Md_light_42 (by decide) k12 k13 (fun c14 => ?_) (fun c14 => ?_)
            · replace v := v.1 c14
              refine nv_iconst (n := 0) hx hb d_Md_light_167 ?_
              refine lv_istore_n (lv' := [(2, .int (iI 0)), (0, .ref h0), (1, .int (iI lp))]) hx hb d_Md_light_168 rfl hl (by decide) rfl (fun ls hl => ?_)
              obtain ⟨I15, μ16, v55, v56⟩ := v
              have L57 : ∀ (N : Nat) (kb : Int) (g4 : Nat → Int) (H : Heap) (locs : List Loc) (ls : Array Slot), μ16 kb g4 < N → I15 kb g4 → va_P D vwCl (wMd cI cJ cZ h0 h1 h2 h3 h4 h5 h6 h7 h8 h9 h10 h11 h12 h13 h14 h15 h16 h17 h18 h19 h20 h21 h22 h23 th no ca ba nl xa sa da g4 ra fa ta ua uh uo ma mh ml nf fo fh fs rs ic mn bh bo ya np pa nc cp) H → va_D A (wMd cI cJ cZ h0 h1 h2 h3 h4 h5 h6 h7 h8 h9 h10 h11 h12 h13 h14 h15 h16 h17 h18 h19 h20 h21 h22 h23 th no ca ba nl xa sa da g4 ra fa ta ua uh uo ma mh ml nf fo fh fs rs ic mn bh bo ya np pa nc cp) → va_S A s.heap H locs → lv_has ls 6 [(0, .ref h0), (1, .int (iI lp)), (2, .int (iI kb))] → W p l e (headSpec (.code ⟨"LightDosesModel", "light", "(I)V"⟩ prog_10_method_11_code 6 none :: TG) { frames := 0, cells := 0, slots := 0, locals := 0 }).room s m ([Value.ref h0, Value.int (iI lp)] : List Value).toArray below meth c H locs 0 0 (MQ below (va_Qv (fun u : (Nat → Int) × Int => post u.1 u.2) (fun u t => va_P D vwCl (wMd cI cJ cZ h0 h1 h2 h3 h4 h5 h6 h7 h8 h9 h10 h11 h12 h13 h14 h15 h16 h17 h18 h19 h20 h21 h22 h23 th no ca ba nl xa sa da u.1 ra fa ta ua uh uo ma mh ml nf fo fh fs rs u.2 mn bh bo ya np pa nc cp) t.heap ∧ va_K D vwCl (tyx cI cJ cO cZ) t ∧ va_D A (wMd cI cJ cZ h0 h1 h2 h3 h4 h5 h6 h7 h8 h9 h10 h11 h12 h13 h14 h15 h16 h17 h18 h19 h20 h21 h22 h23 th no ca ba nl xa sa da u.1 ra fa ta ua uh uo ma mh ml nf fo fh fs rs u.2 mn bh bo ya np pa nc cp)) A) ([Value.ref h0, Value.int (iI lp)] : List Value).toArray s 0 0 A) (F0 m 169 ls []) := by
                intro N
                induction N with
                | zero => intro kb g4 H locs ls hN; exact absurd hN (Nat.not_lt_zero _)
                | succ N ih17 =>
                  intro kb g4 H locs ls hN18 hI hP hD hS hl
                  have v := v56 kb g4 hI
                  refine lv_iload_n hx hb d_Md_light_169 rfl (lv_at hl 2 rfl) ?_
                  refine lv_aload_n hx hb d_Md_light_170 rfl (lv_at hl 0 rfl) ?_
                  refine va_get (D := D) (ci := 8) (v := .ref h10) (C := "LightDosesModel") (T := T_Md) (N := 32) hx hb hts in_Md hown hK hP 0 rfl rfl 12 (by decide) (hts _ wd_715) (fun _ h9 => h9) rfl d_Md_light_171 ?_
                  refine lv_iload_n hx hb d_Md_light_174 rfl (lv_at hl 1 rfl) ?_
                  obtain ⟨k19, v⟩ := v
                  refine nv_iald (f := ua) hx hb hK 0 (hP 10 _ rfl) rfl (lp).toNat (Int.toNat_of_nonneg k19.1).symm (by omega) (by decide) d_Md_light_175 ?_
                  obtain ⟨k20, v⟩ := v
                  obtain ⟨k21, v⟩ := v
                  refine nv_icmp_ge (tgt := 305) hx hb d_Md_light_176 (by decide) k20 k21 (fun c22 => ?_) (fun c22 => ?_)
                  · replace v := v.1 c22
                    refine lv_aload_n hx hb d_Md_light_305 rfl (lv_at hl 0 rfl) ?_
                    refine nv_iconst (n := 0) hx hb d_Md_light_306 ?_
                    refine va_put (D := D) (ci := 8) (v := .int (iI 0)) (ty := .boolean) (C := "LightDosesModel") (T := T_Md) (N := 32) hx hb hts in_Md t_Md tok_Md n_Md hown hK hP hD hS 0 rfl rfl 23 (by decide) (hts _ wd_726) (fun _ h9 => h9) rfl (by decide +kernel) (by decide) (by decide) (Nat.le_of_ble_eq_true rfl) d_Md_light_307 (fun H locs hP hD hS => ?_)
                    have hP : va_P D vwCl (wMd cI cJ cZ h0 h1 h2 h3 h4 h5 h6 h7 h8 h9 h10 h11 h12 h13 h14 h15 h16 h17 h18 h19 h20 h21 h22 h23 th no ca ba nl xa sa da g4 ra fa ta ua uh uo ma mh ml nf fo fh fs rs 0 mn bh bo ya np pa nc cp) H := hP
                    have hD : va_D A (wMd cI cJ cZ h0 h1 h2 h3 h4 h5 h6 h7 h8 h9 h10 h11 h12 h13 h14 h15 h16 h17 h18 h19 h20 h21 h22 h23 th no ca ba nl xa sa da g4 ra fa ta ua uh uo ma mh ml nf fo fh fs rs 0 mn bh bo ya np pa nc cp) := hD
                    have hP9 := hP.sub (ws' := (wMd cI cJ cZ h0 h1 h2 h3 h4 h5 h6 h7 h8 h9 h10 h11 h12 h13 h14 h15 h16 h17 h18 h19 h20 h21 h22 h23 th no ca ba nl xa sa da g4 ra fa ta ua uh uo ma mh ml nf fo fh fs rs 0 mn bh bo ya np pa nc cp)) [0, 1, 2, 3, 4, 5, 6, 7, 8, 9, 10, 11, 12, 13, 14, 15, 16, 17, 18, 19, 20, 21, 22, 23] rfl
                    have hD9 := hD.sub (ws' := (wMd cI cJ cZ h0 h1 h2 h3 h4 h5 h6 h7 h8 h9 h10 h11 h12 h13 h14 h15 h16 h17 h18 h19 h20 h21 h22 h23 th no ca ba nl xa sa da g4 ra fa ta ua uh uo ma mh ml nf fo fh fs rs 0 mn bh bo ya np pa nc cp)) [0, 1, 2, 3, 4, 5, 6, 7, 8, 9, 10, 11, 12, 13, 14, 15, 16, 17, 18, 19, 20, 21, 22, 23] (by decide) rfl
                    exact W.vret hx hb hr (fun t ht hW => ⟨⟨((g4), (0)), rfl, v, by rw [ht]; exact hP9, va_K.moved hW.alike hK, hD9⟩, hS.F ht⟩) hS.2.2 d_Md_light_310
                  · replace v := v.2 c22
                    refine nv_sipush (z := 26280) hx hb d_Md_light_179 (by decide) ?_
                    refine lv_istore_n (lv' := [(3, .int (iI 26280)), (0, .ref h0), (1, .int (iI lp)), (2, .int (iI kb))]) hx hb d_Md_light_182 rfl hl (by decide) rfl (fun ls hl => ?_)
                    refine nv_iconst (n := 0) hx hb d_Md_light_183 ?_
                    refine lv_istore (lv' := [(4, .int (iI 0)), (3, .int (iI 26280)), (0, .ref h0), (1, .int (iI lp)), (2, .int (iI kb))]) hx hb d_Md_light_184 hl (by decide) rfl (fun ls hl => ?_)
                    obtain ⟨I23, μ24, v52, v53⟩ := v
                    have L54 : ∀ (N : Nat) (enb : Int) (ib : Int) (H : Heap) (locs : List Loc) (ls : Array Slot), μ24 enb ib < N → I23 enb ib → va_P D vwCl (wMd cI cJ cZ h0 h1 h2 h3 h4 h5 h6 h7 h8 h9 h10 h11 h12 h13 h14 h15 h16 h17 h18 h19 h20 h21 h22 h23 th no ca ba nl xa sa da g4 ra fa ta ua uh uo ma mh ml nf fo fh fs rs ic mn bh bo ya np pa nc cp) H → va_D A (wMd cI cJ cZ h0 h1 h2 h3 h4 h5 h6 h7 h8 h9 h10 h11 h12 h13 h14 h15 h16 h17 h18 h19 h20 h21 h22 h23 th no ca ba nl xa sa da g4 ra fa ta ua uh uo ma mh ml nf fo fh fs rs ic mn bh bo ya np pa nc cp) → va_S A s.heap H locs → lv_has ls 6 [(0, .ref h0), (1, .int (iI lp)), (2, .int (iI kb)), (3, .int (iI enb)), (4, .int (iI ib))] → W p l e (headSpec (.code ⟨"LightDosesModel", "light", "(I)V"⟩ prog_10_method_11_code 6 none :: TG) { frames := 0, cells := 0, slots := 0, locals := 0 }).room s m ([Value.ref h0, Value.int (iI lp)] : List Value).toArray below meth c H locs 0 0 (MQ below (va_Qv (fun u : (Nat → Int) × Int => post u.1 u.2) (fun u t => va_P D vwCl (wMd cI cJ cZ h0 h1 h2 h3 h4 h5 h6 h7 h8 h9 h10 h11 h12 h13 h14 h15 h16 h17 h18 h19 h20 h21 h22 h23 th no ca ba nl xa sa da u.1 ra fa ta ua uh uo ma mh ml nf fo fh fs rs u.2 mn bh bo ya np pa nc cp) t.heap ∧ va_K D vwCl (tyx cI cJ cO cZ) t ∧ va_D A (wMd cI cJ cZ h0 h1 h2 h3 h4 h5 h6 h7 h8 h9 h10 h11 h12 h13 h14 h15 h16 h17 h18 h19 h20 h21 h22 h23 th no ca ba nl xa sa da u.1 ra fa ta ua uh uo ma mh ml nf fo fh fs rs u.2 mn bh bo ya np pa nc cp)) A) ([Value.ref h0, Value.int (iI lp)] : List Value).toArray s 0 0 A) (F0 m 186 ls []) := by
                      intro N
                      induction N with
                      | zero => intro enb ib H locs ls hN; exact absurd hN (Nat.not_lt_zero _)
                      | succ N ih25 =>
                        intro enb ib H locs ls hN26 hI hP hD hS hl
                        have v := v53 enb ib hI
                        refine lv_iload hx hb d_Md_light_186 (lv_at hl 4 rfl) ?_
                        refine lv_aload_n hx hb d_Md_light_188 rfl (lv_at hl 0 rfl) ?_
                        refine va_get (D := D) (ci := 8) (v := .ref h10) (C := "LightDosesModel") (T := T_Md) (N := 32) hx hb hts in_Md hown hK hP 0 rfl rfl 12 (by decide) (hts _ wd_715) (fun _ h9 => h9) rfl d_Md_light_189 ?_
                        refine lv_iload_n hx hb d_Md_light_192 rfl (lv_at hl 1 rfl) ?_
                        obtain ⟨k27, v⟩ := v
                        refine nv_iald (f := ua) hx hb hK 0 (hP 10 _ rfl) rfl (lp).toNat (Int.toNat_of_nonneg k27.1).symm (by omega) (by decide) d_Md_light_193 ?_
                        obtain ⟨k28, v⟩ := v
                        refine nv_icmp_ge (tgt := 246) hx hb d_Md_light_194 (by decide) k28 k21 (fun c29 => ?_) (fun c29 => ?_)
                        · replace v := v.1 c29
                          refine lv_aload_n hx hb d_Md_light_246 rfl (lv_at hl 0 rfl) ?_
                          refine va_get (D := D) (ci := 8) (v := .ref h11) (C := "LightDosesModel") (T := T_Md) (N := 32) hx hb hts in_Md hown hK hP 0 rfl rfl 13 (by decide) (hts _ wd_716) (fun _ h9 => h9) rfl d_Md_light_247 ?_
                          refine nv_bipush (z := 20) hx hb d_Md_light_250 (by decide) ?_
                          refine lv_iload_n hx hb d_Md_light_252 rfl (lv_at hl 1 rfl) ?_
                          refine nv_imul (z := 20 * lp) hx hb d_Md_light_253 (by first | rfl | omega) ?_
                          refine lv_iload_n hx hb d_Md_light_254 rfl (lv_at hl 2 rfl) ?_
                          refine nv_iadd (z := 20 * lp + kb) hx hb d_Md_light_255 (by first | rfl | omega) ?_
                          obtain ⟨k30, v⟩ := v
                          refine nv_iald (f := uh) hx hb hK 0 (hP 11 _ rfl) rfl (20 * lp + kb).toNat (Int.toNat_of_nonneg k30.1).symm (by omega) (by decide) d_Md_light_256 ?_
                          refine lv_istore (lv' := [(4, .int (iI (uh (20 * lp + kb).toNat))), (0, .ref h0), (1, .int (iI lp)), (2, .int (iI kb)), (3, .int (iI enb))]) hx hb d_Md_light_257 hl (by decide) rfl (fun ls hl => ?_)
                          obtain ⟨I31, μ32, v42, v43⟩ := v
                          have L44 : ∀ (N : Nat) (h3_ : Int) (g5 : Nat → Int) (H : Heap) (locs : List Loc) (ls : Array Slot), μ32 h3_ g5 < N → I31 h3_ g5 → va_P D vwCl (wMd cI cJ cZ h0 h1 h2 h3 h4 h5 h6 h7 h8 h9 h10 h11 h12 h13 h14 h15 h16 h17 h18 h19 h20 h21 h22 h23 th no ca ba nl xa sa da g5 ra fa ta ua uh uo ma mh ml nf fo fh fs rs ic mn bh bo ya np pa nc cp) H → va_D A (wMd cI cJ cZ h0 h1 h2 h3 h4 h5 h6 h7 h8 h9 h10 h11 h12 h13 h14 h15 h16 h17 h18 h19 h20 h21 h22 h23 th no ca ba nl xa sa da g5 ra fa ta ua uh uo ma mh ml nf fo fh fs rs ic mn bh bo ya np pa nc cp) → va_S A s.heap H locs → lv_has ls 6 [(0, .ref h0), (1, .int (iI lp)), (2, .int (iI kb)), (3, .int (iI enb)), (4, .int (iI h3_))] → W p l e (headSpec (.code ⟨"LightDosesModel", "light", "(I)V"⟩ prog_10_method_11_code 6 none :: TG) { frames := 0, cells := 0, slots := 0, locals := 0 }).room s m ([Value.ref h0, Value.int (iI lp)] : List Value).toArray below meth c H locs 0 0 (MQ below (va_Qv (fun u : (Nat → Int) × Int => post u.1 u.2) (fun u t => va_P D vwCl (wMd cI cJ cZ h0 h1 h2 h3 h4 h5 h6 h7 h8 h9 h10 h11 h12 h13 h14 h15 h16 h17 h18 h19 h20 h21 h22 h23 th no ca ba nl xa sa da u.1 ra fa ta ua uh uo ma mh ml nf fo fh fs rs u.2 mn bh bo ya np pa nc cp) t.heap ∧ va_K D vwCl (tyx cI cJ cO cZ) t ∧ va_D A (wMd cI cJ cZ h0 h1 h2 h3 h4 h5 h6 h7 h8 h9 h10 h11 h12 h13 h14 h15 h16 h17 h18 h19 h20 h21 h22 h23 th no ca ba nl xa sa da u.1 ra fa ta ua uh uo ma mh ml nf fo fh fs rs u.2 mn bh bo ya np pa nc cp)) A) ([Value.ref h0, Value.int (iI lp)] : List Value).toArray s 0 0 A) (F0 m 259 ls []) := by
                            intro N
                            induction N with
                            | zero => intro h3_ g5 H locs ls hN; exact absurd hN (Nat.not_lt_zero _)
                            | succ N ih33 =>
                              intro h3_ g5 H locs ls hN34 hI hP hD hS hl
                              have v := v43 h3_ g5 hI
                              refine lv_iload hx hb d_Md_light_259 (lv_at hl 4 rfl) ?_
                              refine lv_iload_n hx hb d_Md_light_261 rfl (lv_at hl 3 rfl) ?_
                              obtain ⟨k35, v⟩ := v
                              obtain ⟨k36, v⟩ := v
                              refine nv_icmp_ge (tgt := 299) hx hb d_Md_light_262 (by decide) k35 k36 (fun c37 => ?_) (fun c37 => ?_)
                              · replace v := v.1 c37
                                refine nv_iinc (k := 2) (z := kb + 1) (lv' := [(2, .int (iI (kb + 1))), (0, .ref h0), (1, .int (iI lp)), (3, .int (iI enb)), (4, .int (iI h3_))]) hx hb d_Md_light_299 hl rfl (by omega) (by decide) rfl (fun ls hl => ?_)
                                refine lv_goto (tgt := 169) hx hb d_Md_light_302 (by decide) ?_
                                exact ih17 (kb + 1) g5 H locs ls (Nat.lt_of_lt_of_le v.2 (Nat.le_of_lt_succ hN18)) v.1 hP hD hS (lv_sub hl [1, 2, 0] rfl)
                              · replace v := v.2 c37
                                refine lv_aload_n hx hb d_Md_light_265 rfl (lv_at hl 0 rfl) ?_
                                refine va_get (D := D) (ci := 8) (v := .ref h12) (C := "LightDosesModel") (T := T_Md) (N := 32) hx hb hts in_Md hown hK hP 0 rfl rfl 14 (by decide) (hts _ wd_717) (fun _ h9 => h9) rfl d_Md_light_266 ?_
                                refine nv_bipush (z := 20) hx hb d_Md_light_269 (by decide) ?_
                                refine lv_iload_n hx hb d_Md_light_271 rfl (lv_at hl 1 rfl) ?_
                                refine nv_imul (z := 20 * lp) hx hb d_Md_light_272 (by first | rfl | omega) ?_
                                refine lv_iload_n hx hb d_Md_light_273 rfl (lv_at hl 2 rfl) ?_
                                refine nv_iadd (z := 20 * lp + kb) hx hb d_Md_light_274 (by first | rfl | omega) ?_
                                obtain ⟨k38, v⟩ := v
                                refine nv_zald (f := uo) hx hb hK 3 (hP 12 _ rfl) rfl (20 * lp + kb).toNat (Int.toNat_of_nonneg k38.1).symm (by omega) (by decide) d_Md_light_275 ?_
                                obtain ⟨k39, v⟩ := v
                                refine nv_if_ne (tgt := 299) hx hb d_Md_light_276 (by decide) k39 (fun c40 => ?_) (fun c40 => ?_)
                                · replace v := v.1 c40
                                  refine nv_iinc (k := 2) (z := kb + 1) (lv' := [(2, .int (iI (kb + 1))), (0, .ref h0), (1, .int (iI lp)), (3, .int (iI enb)), (4, .int (iI h3_))]) hx hb d_Md_light_299 hl rfl (by omega) (by decide) rfl (fun ls hl => ?_)
                                  refine lv_goto (tgt := 169) hx hb d_Md_light_302 (by decide) ?_
                                  exact ih17 (kb + 1) g5 H locs ls (Nat.lt_of_lt_of_le v.2 (Nat.le_of_lt_succ hN18)) v.1 hP hD hS (lv_sub hl [1, 2, 0] rfl)
                                · replace v := v.2 c40
                                  refine lv_aload_n hx hb d_Md_light_279 rfl (lv_at hl 0 rfl) ?_
                                  refine va_get (D := D) (ci := 8) (v := .ref h6) (C := "LightDosesModel") (T := T_Md) (N := 32) hx hb hts in_Md hown hK hP 0 rfl rfl 8 (by decide) (hts _ wd_711) (fun _ h9 => h9) rfl d_Md_light_280 ?_
                                  refine nv_sipush (z := 26280) hx hb d_Md_light_283 (by decide) ?_
                                  refine lv_iload_n hx hb d_Md_light_286 rfl (lv_at hl 1 rfl) ?_
                                  refine nv_imul (z := 26280 * lp) hx hb d_Md_light_287 (by first | rfl | omega) ?_
                                  refine lv_iload hx hb d_Md_light_288 (lv_at hl 4 rfl) ?_
                                  refine nv_iadd (z := 26280 * lp + h3_) hx hb d_Md_light_290 (by first | rfl | omega) ?_
                                  refine nv_iconst (n := 0) hx hb d_Md_light_291 ?_
                                  obtain ⟨k41, v⟩ := v
                                  refine nv_iast (f := g5) hx hb hK hP hD hS 6 0 rfl rfl (26280 * lp + h3_).toNat (Int.toNat_of_nonneg k41.1).symm (by omega) (by decide) d_Md_light_292 (fun H locs hP hD hS => ?_)
                                  have hP : va_P D vwCl (wMd cI cJ cZ h0 h1 h2 h3 h4 h5 h6 h7 h8 h9 h10 h11 h12 h13 h14 h15 h16 h17 h18 h19 h20 h21 h22 h23 th no ca ba nl xa sa da (va_up g5 (26280 * lp + h3_).toNat 0) ra fa ta ua uh uo ma mh ml nf fo fh fs rs ic mn bh bo ya np pa nc cp) H := hP
                                  have hD : va_D A (wMd cI cJ cZ h0 h1 h2 h3 h4 h5 h6 h7 h8 h9 h10 h11 h12 h13 h14 h15 h16 h17 h18 h19 h20 h21 h22 h23 th no ca ba nl xa sa da (va_up g5 (26280 * lp + h3_).toNat 0) ra fa ta ua uh uo ma mh ml nf fo fh fs rs ic mn bh bo ya np pa nc cp) := hD
                                  refine nv_iinc (k := 4) (z := h3_ + 1) (lv' := [(4, .int (iI (h3_ + 1))), (0, .ref h0), (1, .int (iI lp)), (2, .int (iI kb)), (3, .int (iI enb))]) hx hb d_Md_light_293 hl rfl (by omega) (by decide) rfl (fun ls hl => ?_)
                                  refine lv_goto (tgt := 259) hx hb d_Md_light_296 (by decide) ?_
                                  exact ih33 (h3_ + 1) (va_up g5 (26280 * lp + h3_).toNat 0) H locs ls (Nat.lt_of_lt_of_le v.2 (Nat.le_of_lt_succ hN34)) v.1 hP hD hS (lv_sub hl [1, 2, 3, 4, 0] rfl)
                          exact L44 _ (uh (20 * lp + kb).toNat) g4 H locs ls (Nat.lt_succ_self _) v42 hP hD hS (lv_sub hl [1, 2, 3, 4, 0] rfl)
                        · replace v := v.2 c29
                          refine lv_aload_n hx hb d_Md_light_197 rfl (lv_at hl 0 rfl) ?_
                          refine va_get (D := D) (ci := 8) (v := .ref h11) (C := "LightDosesModel") (T := T_Md) (N := 32) hx hb hts in_Md hown hK hP 0 rfl rfl 13 (by decide) (hts _ wd_716) (fun _ h9 => h9) rfl d_Md_light_198 ?_
                          refine nv_bipush (z := 20) hx hb d_Md_light_201 (by decide) ?_
                          refine lv_iload_n hx hb d_Md_light_203 rfl (lv_at hl 1 rfl) ?_
                          refine nv_imul (z := 20 * lp) hx hb d_Md_light_204 (by first | rfl | omega) ?_
                          refine lv_iload hx hb d_Md_light_205 (lv_at hl 4 rfl) ?_
                          refine nv_iadd (z := 20 * lp + ib) hx hb d_Md_light_207 (by first | rfl | omega) ?_
                          obtain ⟨k45, v⟩ := v
                          refine nv_iald (f := uh) hx hb hK 0 (hP 11 _ rfl) rfl (20 * lp + ib).toNat (Int.toNat_of_nonneg k45.1).symm (by omega) (by decide) d_Md_light_208 ?_
                          refine lv_istore (lv' := [(5, .int (iI (uh (20 * lp + ib).toNat))), (0, .ref h0), (1, .int (iI lp)), (2, .int (iI kb)), (3, .int (iI enb)), (4, .int (iI ib))]) hx hb d_Md_light_209 hl (by decide) rfl (fun ls hl => ?_)
                          refine lv_iload hx hb d_Md_light_211 (lv_at hl 0 rfl) ?_
                          refine lv_aload_n hx hb d_Md_light_213 rfl (lv_at hl 1 rfl) ?_
                          refine va_get (D := D) (ci := 8) (v := .ref h11) (C := "LightDosesModel") (T := T_Md) (N := 32) hx hb hts in_Md hown hK hP 0 rfl rfl 13 (by decide) (hts _ wd_716) (fun _ h9 => h9) rfl d_Md_light_214 ?_
                          refine nv_bipush (z := 20) hx hb d_Md_light_217 (by decide) ?_
                          refine lv_iload_n hx hb d_Md_light_219 rfl (lv_at hl 2 rfl) ?_
                          refine nv_imul (z := 20 * lp) hx hb d_Md_light_220 (by first | rfl | omega) ?_
                          refine lv_iload_n hx hb d_Md_light_221 rfl (lv_at hl 3 rfl) ?_
                          refine nv_iadd (z := 20 * lp + kb) hx hb d_Md_light_222 (by first | rfl | omega) ?_
                          obtain ⟨k46, v⟩ := v
                          refine nv_iald (f := uh) hx hb hK 0 (hP 11 _ rfl) rfl (20 * lp + kb).toNat (Int.toNat_of_nonneg k46.1).symm (by omega) (by decide) d_Md_light_223 ?_
                          obtain ⟨k47, v⟩ := v
                          obtain ⟨k48, v⟩ := v
                          refine nv_icmp_le (tgt := 238) hx hb d_Md_light_224 (by decide) k47 k48 (fun c49 => ?_) (fun c49 => ?_)
                          · replace v := v.1 c49
                            refine lv_iload_n hx hb d_Md_light_238 rfl (lv_at hl 4 rfl) ?_
                            refine lv_istore_n (lv' := [(3, .int (iI enb)), (5, .int (iI (uh (20 * lp + ib).toNat))), (0, .ref h0), (1, .int (iI lp)), (2, .int (iI kb)), (4, .int (iI ib))]) hx hb d_Md_light_239 rfl hl (by decide) rfl (fun ls hl => ?_)
                            refine nv_iinc (k := 5) (z := ib + 1) (lv' := [(4, .int (iI (ib + 1))), (3, .int (iI enb)), (5, .int (iI (uh (20 * lp + ib).toNat))), (0, .ref h0), (1, .int (iI lp)), (2, .int (iI kb))]) hx hb d_Md_light_240 hl rfl (by omega) (by decide) rfl (fun ls hl => ?_)
                            refine lv_goto (tgt := 186) hx hb d_Md_light_243 (by decide) ?_
                            exact ih25 enb (ib + 1) H locs ls (Nat.lt_of_lt_of_le v.2 (Nat.le_of_lt_succ hN26)) v.1 hP hD hS (lv_sub hl [3, 4, 5, 1, 0] rfl)
                          · replace v := v.2 c49
                            refine lv_iload hx hb d_Md_light_227 (lv_at hl 0 rfl) ?_
                            refine lv_iload_n hx hb d_Md_light_229 rfl (lv_at hl 4 rfl) ?_
                            obtain ⟨k50, v⟩ := v
                            refine nv_icmp_ge (tgt := 238) hx hb d_Md_light_230 (by decide) k47 k50 (fun c51 => ?_) (fun c51 => ?_)
                            · replace v := v.1 c51
                              refine lv_iload_n hx hb d_Md_light_238 rfl (lv_at hl 4 rfl) ?_
                              refine lv_istore_n (lv' := [(3, .int (iI enb)), (5, .int (iI (uh (20 * lp + ib).toNat))), (0, .ref h0), (1, .int (iI lp)), (2, .int (iI kb)), (4, .int (iI ib))]) hx hb d_Md_light_239 rfl hl (by decide) rfl (fun ls hl => ?_)
                              refine nv_iinc (k := 5) (z := ib + 1) (lv' := [(4, .int (iI (ib + 1))), (3, .int (iI enb)), (5, .int (iI (uh (20 * lp + ib).toNat))), (0, .ref h0), (1, .int (iI lp)), (2, .int (iI kb))]) hx hb d_Md_light_240 hl rfl (by omega) (by decide) rfl (fun ls hl => ?_)
                              refine lv_goto (tgt := 186) hx hb d_Md_light_243 (by decide) ?_
                              exact ih25 enb (ib + 1) H locs ls (Nat.lt_of_lt_of_le v.2 (Nat.le_of_lt_succ hN26)) v.1 hP hD hS (lv_sub hl [3, 4, 5, 1, 0] rfl)
                            · replace v := v.2 c51
                              refine lv_iload hx hb d_Md_light_233 (lv_at hl 0 rfl) ?_
                              refine lv_goto (tgt := 239) hx hb d_Md_light_235 (by decide) ?_
                              refine lv_istore_n (lv' := [(3, .int (iI (uh (20 * lp + ib).toNat))), (5, .int (iI (uh (20 * lp + ib).toNat))), (0, .ref h0), (1, .int (iI lp)), (2, .int (iI kb)), (4, .int (iI ib))]) hx hb d_Md_light_239 rfl hl (by decide) rfl (fun ls hl => ?_)
                              refine nv_iinc (k := 5) (z := ib + 1) (lv' := [(4, .int (iI (ib + 1))), (3, .int (iI (uh (20 * lp + ib).toNat))), (5, .int (iI (uh (20 * lp + ib).toNat))), (0, .ref h0), (1, .int (iI lp)), (2, .int (iI kb))]) hx hb d_Md_light_240 hl rfl (by omega) (by decide) rfl (fun ls hl => ?_)
                              refine lv_goto (tgt := 186) hx hb d_Md_light_243 (by decide) ?_
                              exact ih25 (uh (20 * lp + ib).toNat) (ib + 1) H locs ls (Nat.lt_of_lt_of_le v.2 (Nat.le_of_lt_succ hN26)) v.1 hP hD hS (lv_sub hl [3, 4, 5, 1, 0] rfl)
                    exact L54 _ 26280 0 H locs ls (Nat.lt_succ_self _) v52 hP hD hS (lv_sub hl [2, 3, 4, 1, 0] rfl)
              exact L57 _ 0 g2 H locs ls (Nat.lt_succ_self _) v55 hP hD hS (lv_sub hl [1, 2, 0] rfl)
            · replace v := v.2 c14
              refine nv_sipush (z := 26280) hx hb d_Md_light_45 (by decide) ?_
              refine lv_istore_n (lv' := [(3, .int (iI 26280)), (0, .ref h0), (1, .int (iI lp)), (2, .int (iI ka))]) hx hb d_Md_light_48 rfl hl (by decide) rfl (fun ls hl => ?_)
              refine nv_iconst (n := 0) hx hb d_Md_light_49 ?_
              refine lv_istore (lv' := [(4, .int (iI 0)), (3, .int (iI 26280)), (0, .ref h0), (1, .int (iI lp)), (2, .int (iI ka))]) hx hb d_Md_light_50 hl (by decide) rfl (fun ls hl => ?_)
              obtain ⟨I58, μ59, v85, v86⟩ := v
              have L87 : ∀ (N : Nat) (ena : Int) (ia : Int) (H : Heap) (locs : List Loc) (ls : Array Slot), μ59 ena ia < N → I58 ena ia → va_P D vwCl (wMd cI cJ cZ h0 h1 h2 h3 h4 h5 h6 h7 h8 h9 h10 h11 h12 h13 h14 h15 h16 h17 h18 h19 h20 h21 h22 h23 th no ca ba nl xa sa da g2 ra fa ta ua uh uo ma mh ml nf fo fh fs rs ic mn bh bo ya np pa nc cp) H → va_D A (wMd cI cJ cZ h0 h1 h2 h3 h4 h5 h6 h7 h8 h9 h10 h11 h12 h13 h14 h15 h16 h17 h18 h19 h20 h21 h22 h23 th no ca ba nl xa sa da g2 ra fa ta ua uh uo ma mh ml nf fo fh fs rs ic mn bh bo ya np pa nc cp) → va_S A s.heap H locs → lv_has ls 6 [(0, .ref h0), (1, .int (iI lp)), (2, .int (iI ka)), (3, .int (iI ena)), (4, .int (iI ia))] → W p l e (headSpec (.code ⟨"LightDosesModel", "light", "(I)V"⟩ prog_10_method_11_code 6 none :: TG) { frames := 0, cells := 0, slots := 0, locals := 0 }).room s m ([Value.ref h0, Value.int (iI lp)] : List Value).toArray below meth c H locs 0 0 (MQ below (va_Qv (fun u : (Nat → Int) × Int => post u.1 u.2) (fun u t => va_P D vwCl (wMd cI cJ cZ h0 h1 h2 h3 h4 h5 h6 h7 h8 h9 h10 h11 h12 h13 h14 h15 h16 h17 h18 h19 h20 h21 h22 h23 th no ca ba nl xa sa da u.1 ra fa ta ua uh uo ma mh ml nf fo fh fs rs u.2 mn bh bo ya np pa nc cp) t.heap ∧ va_K D vwCl (tyx cI cJ cO cZ) t ∧ va_D A (wMd cI cJ cZ h0 h1 h2 h3 h4 h5 h6 h7 h8 h9 h10 h11 h12 h13 h14 h15 h16 h17 h18 h19 h20 h21 h22 h23 th no ca ba nl xa sa da u.1 ra fa ta ua uh uo ma mh ml nf fo fh fs rs u.2 mn bh bo ya np pa nc cp)) A) ([Value.ref h0, Value.int (iI lp)] : List Value).toArray s 0 0 A) (F0 m 52 ls []) := by
                intro N
                induction N with
                | zero => intro ena ia H locs ls hN; exact absurd hN (Nat.not_lt_zero _)
                | succ N ih60 =>
                  intro ena ia H locs ls hN61 hI hP hD hS hl
                  have v := v86 ena ia hI
                  refine lv_iload hx hb d_Md_light_52 (lv_at hl 4 rfl) ?_
                  refine lv_aload_n hx hb d_Md_light_54 rfl (lv_at hl 0 rfl) ?_
                  refine va_get (D := D) (ci := 8) (v := .ref h13) (C := "LightDosesModel") (T := T_Md) (N := 32) hx hb hts in_Md hown hK hP 0 rfl rfl 15 (by decide) (hts _ wd_718) (fun _ h9 => h9) rfl d_Md_light_55 ?_
                  refine lv_iload_n hx hb d_Md_light_58 rfl (lv_at hl 1 rfl) ?_
                  obtain ⟨k62, v⟩ := v
                  refine nv_iald (f := ma) hx hb hK 0 (hP 13 _ rfl) rfl (lp).toNat (Int.toNat_of_nonneg k62.1).symm (by omega) (by decide) d_Md_light_59 ?_
                  obtain ⟨k63, v⟩ := v
                  refine nv_icmp_ge (tgt := 112) hx hb d_Md_light_60 (by decide) k63 k13 (fun c64 => ?_) (fun c64 => ?_)
                  · replace v := v.1 c64
                    refine lv_aload_n hx hb d_Md_light_112 rfl (lv_at hl 0 rfl) ?_
                    refine va_get (D := D) (ci := 8) (v := .ref h14) (C := "LightDosesModel") (T := T_Md) (N := 32) hx hb hts in_Md hown hK hP 0 rfl rfl 16 (by decide) (hts _ wd_719) (fun _ h9 => h9) rfl d_Md_light_113 ?_
                    refine nv_bipush (z := 20) hx hb d_Md_light_116 (by decide) ?_
                    refine lv_iload_n hx hb d_Md_light_118 rfl (lv_at hl 1 rfl) ?_
                    refine nv_imul (z := 20 * lp) hx hb d_Md_light_119 (by first | rfl | omega) ?_
                    refine lv_iload_n hx hb d_Md_light_120 rfl (lv_at hl 2 rfl) ?_
                    refine nv_iadd (z := 20 * lp + ka) hx hb d_Md_light_121 (by first | rfl | omega) ?_
                    obtain ⟨k65, v⟩ := v
                    refine nv_iald (f := mh) hx hb hK 0 (hP 14 _ rfl) rfl (20 * lp + ka).toNat (Int.toNat_of_nonneg k65.1).symm (by omega) (by decide) d_Md_light_122 ?_
                    refine lv_istore (lv' := [(4, .int (iI (mh (20 * lp + ka).toNat))), (0, .ref h0), (1, .int (iI lp)), (2, .int (iI ka)), (3, .int (iI ena))]) hx hb d_Md_light_123 hl (by decide) rfl (fun ls hl => ?_)
                    obtain ⟨I66, μ67, v75, v76⟩ := v
                    have L77 : ∀ (N : Nat) (h2_ : Int) (g3 : Nat → Int) (H : Heap) (locs : List Loc) (ls : Array Slot), μ67 h2_ g3 < N → I66 h2_ g3 → va_P D vwCl (wMd cI cJ cZ h0 h1 h2 h3 h4 h5 h6 h7 h8 h9 h10 h11 h12 h13 h14 h15 h16 h17 h18 h19 h20 h21 h22 h23 th no ca ba nl xa sa da g3 ra fa ta ua uh uo ma mh ml nf fo fh fs rs ic mn bh bo ya np pa nc cp) H → va_D A (wMd cI cJ cZ h0 h1 h2 h3 h4 h5 h6 h7 h8 h9 h10 h11 h12 h13 h14 h15 h16 h17 h18 h19 h20 h21 h22 h23 th no ca ba nl xa sa da g3 ra fa ta ua uh uo ma mh ml nf fo fh fs rs ic mn bh bo ya np pa nc cp) → va_S A s.heap H locs → lv_has ls 6 [(0, .ref h0), (1, .int (iI lp)), (2, .int (iI ka)), (3, .int (iI ena)), (4, .int (iI h2_))] → W p l e (headSpec (.code ⟨"LightDosesModel", "light", "(I)V"⟩ prog_10_method_11_code 6 none :: TG) { frames := 0, cells := 0, slots := 0, locals := 0 }).room s m ([Value.ref h0, Value.int (iI lp)] : List Value).toArray below meth c H locs 0 0 (MQ below (va_Qv (fun u : (Nat → Int) × Int => post u.1 u.2) (fun u t => va_P D vwCl (wMd cI cJ cZ h0 h1 h2 h3 h4 h5 h6 h7 h8 h9 h10 h11 h12 h13 h14 h15 h16 h17 h18 h19 h20 h21 h22 h23 th no ca ba nl xa sa da u.1 ra fa ta ua uh uo ma mh ml nf fo fh fs rs u.2 mn bh bo ya np pa nc cp) t.heap ∧ va_K D vwCl (tyx cI cJ cO cZ) t ∧ va_D A (wMd cI cJ cZ h0 h1 h2 h3 h4 h5 h6 h7 h8 h9 h10 h11 h12 h13 h14 h15 h16 h17 h18 h19 h20 h21 h22 h23 th no ca ba nl xa sa da u.1 ra fa ta ua uh uo ma mh ml nf fo fh fs rs u.2 mn bh bo ya np pa nc cp)) A) ([Value.ref h0, Value.int (iI lp)] : List Value).toArray s 0 0 A) (F0 m 125 ls []) := by
                      intro N
                      induction N with
                      | zero => intro h2_ g3 H locs ls hN; exact absurd hN (Nat.not_lt_zero _)
                      | succ N ih68 =>
                        intro h2_ g3 H locs ls hN69 hI hP hD hS hl
                        have v := v76 h2_ g3 hI
                        refine lv_iload hx hb d_Md_light_125 (lv_at hl 4 rfl) ?_
                        refine lv_iload_n hx hb d_Md_light_127 rfl (lv_at hl 3 rfl) ?_
                        obtain ⟨k70, v⟩ := v
                        obtain ⟨k71, v⟩ := v
                        refine nv_icmp_ge (tgt := 161) hx hb d_Md_light_128 (by decide) k70 k71 (fun c72 => ?_) (fun c72 => ?_)
                        · replace v := v.1 c72
                          refine nv_iinc (k := 2) (z := ka + 1) (lv' := [(2, .int (iI (ka + 1))), (0, .ref h0), (1, .int (iI lp)), (3, .int (iI ena)), (4, .int (iI h2_))]) hx hb d_Md_light_161 hl rfl (by omega) (by decide) rfl (fun ls hl => ?_)
                          refine lv_goto (tgt := 35) hx hb d_Md_light_164 (by decide) ?_
                          exact ih9 (ka + 1) g3 H locs ls (Nat.lt_of_lt_of_le v.2 (Nat.le_of_lt_succ hN10)) v.1 hP hD hS (lv_sub hl [1, 2, 0] rfl)
                        · replace v := v.2 c72
                          refine lv_aload_n hx hb d_Md_light_131 rfl (lv_at hl 0 rfl) ?_
                          refine va_get (D := D) (ci := 8) (v := .ref h6) (C := "LightDosesModel") (T := T_Md) (N := 32) hx hb hts in_Md hown hK hP 0 rfl rfl 8 (by decide) (hts _ wd_711) (fun _ h9 => h9) rfl d_Md_light_132 ?_
                          refine nv_sipush (z := 26280) hx hb d_Md_light_135 (by decide) ?_
                          refine lv_iload_n hx hb d_Md_light_138 rfl (lv_at hl 1 rfl) ?_
                          refine nv_imul (z := 26280 * lp) hx hb d_Md_light_139 (by first | rfl | omega) ?_
                          refine lv_iload hx hb d_Md_light_140 (lv_at hl 4 rfl) ?_
                          refine nv_iadd (z := 26280 * lp + h2_) hx hb d_Md_light_142 (by first | rfl | omega) ?_
                          refine lv_aload_n hx hb d_Md_light_143 rfl (lv_at hl 0 rfl) ?_
                          refine va_get (D := D) (ci := 8) (v := .ref h15) (C := "LightDosesModel") (T := T_Md) (N := 32) hx hb hts in_Md hown hK hP 0 rfl rfl 17 (by decide) (hts _ wd_720) (fun _ h9 => h9) rfl d_Md_light_144 ?_
                          refine nv_bipush (z := 20) hx hb d_Md_light_147 (by decide) ?_
                          refine lv_iload_n hx hb d_Md_light_149 rfl (lv_at hl 1 rfl) ?_
                          refine nv_imul (z := 20 * lp) hx hb d_Md_light_150 (by first | rfl | omega) ?_
                          refine lv_iload_n hx hb d_Md_light_151 rfl (lv_at hl 2 rfl) ?_
                          refine nv_iadd (z := 20 * lp + ka) hx hb d_Md_light_152 (by first | rfl | omega) ?_
                          obtain ⟨k73, v⟩ := v
                          refine nv_iald (f := ml) hx hb hK 0 (hP 15 _ rfl) rfl (20 * lp + ka).toNat (Int.toNat_of_nonneg k73.1).symm (by omega) (by decide) d_Md_light_153 ?_
                          obtain ⟨k74, v⟩ := v
                          refine nv_iast (f := g3) hx hb hK hP hD hS 6 0 rfl rfl (26280 * lp + h2_).toNat (Int.toNat_of_nonneg k74.1).symm (by omega) (by decide) d_Md_light_154 (fun H locs hP hD hS => ?_)
                          have hP : va_P D vwCl (wMd cI cJ cZ h0 h1 h2 h3 h4 h5 h6 h7 h8 h9 h10 h11 h12 h13 h14 h15 h16 h17 h18 h19 h20 h21 h22 h23 th no ca ba nl xa sa da (va_up g3 (26280 * lp + h2_).toNat (ml (20 * lp + ka).toNat)) ra fa ta ua uh uo ma mh ml nf fo fh fs rs ic mn bh bo ya np pa nc cp) H := hP
                          have hD : va_D A (wMd cI cJ cZ h0 h1 h2 h3 h4 h5 h6 h7 h8 h9 h10 h11 h12 h13 h14 h15 h16 h17 h18 h19 h20 h21 h22 h23 th no ca ba nl xa sa da (va_up g3 (26280 * lp + h2_).toNat (ml (20 * lp + ka).toNat)) ra fa ta ua uh uo ma mh ml nf fo fh fs rs ic mn bh bo ya np pa nc cp) := hD
                          refine nv_iinc (k := 4) (z := h2_ + 1) (lv' := [(4, .int (iI (h2_ + 1))), (0, .ref h0), (1, .int (iI lp)), (2, .int (iI ka)), (3, .int (iI ena))]) hx hb d_Md_light_155 hl rfl (by omega) (by decide) rfl (fun ls hl => ?_)
                          refine lv_goto (tgt := 125) hx hb d_Md_light_158 (by decide) ?_
                          exact ih68 (h2_ + 1) (va_up g3 (26280 * lp + h2_).toNat (ml (20 * lp + ka).toNat)) H locs ls (Nat.lt_of_lt_of_le v.2 (Nat.le_of_lt_succ hN69)) v.1 hP hD hS (lv_sub hl [1, 2, 3, 4, 0] rfl)
                    exact L77 _ (mh (20 * lp + ka).toNat) g2 H locs ls (Nat.lt_succ_self _) v75 hP hD hS (lv_sub hl [1, 2, 3, 4, 0] rfl)
                  · replace v := v.2 c64
                    refine lv_aload_n hx hb d_Md_light_63 rfl (lv_at hl 0 rfl) ?_
                    refine va_get (D := D) (ci := 8) (v := .ref h14) (C := "LightDosesModel") (T := T_Md) (N := 32) hx hb hts in_Md hown hK hP 0 rfl rfl 16 (by decide) (hts _ wd_719) (fun _ h9 => h9) rfl d_Md_light_64 ?_
                    refine nv_bipush (z := 20) hx hb d_Md_light_67 (by decide) ?_
                    refine lv_iload_n hx hb d_Md_light_69 rfl (lv_at hl 1 rfl) ?_
                    refine nv_imul (z := 20 * lp) hx hb d_Md_light_70 (by first | rfl | omega) ?_
                    refine lv_iload hx hb d_Md_light_71 (lv_at hl 4 rfl) ?_
                    refine nv_iadd (z := 20 * lp + ia) hx hb d_Md_light_73 (by first | rfl | omega) ?_
                    obtain ⟨k78, v⟩ := v
                    refine nv_iald (f := mh) hx hb hK 0 (hP 14 _ rfl) rfl (20 * lp + ia).toNat (Int.toNat_of_nonneg k78.1).symm (by omega) (by decide) d_Md_light_74 ?_
                    refine lv_istore (lv' := [(5, .int (iI (mh (20 * lp + ia).toNat))), (0, .ref h0), (1, .int (iI lp)), (2, .int (iI ka)), (3, .int (iI ena)), (4, .int (iI ia))]) hx hb d_Md_light_75 hl (by decide) rfl (fun ls hl => ?_)
                    refine lv_iload hx hb d_Md_light_77 (lv_at hl 0 rfl) ?_
                    refine lv_aload_n hx hb d_Md_light_79 rfl (lv_at hl 1 rfl) ?_
                    refine va_get (D := D) (ci := 8) (v := .ref h14) (C := "LightDosesModel") (T := T_Md) (N := 32) hx hb hts in_Md hown hK hP 0 rfl rfl 16 (by decide) (hts _ wd_719) (fun _ h9 => h9) rfl d_Md_light_80 ?_
                    refine nv_bipush (z := 20) hx hb d_Md_light_83 (by decide) ?_
                    refine lv_iload_n hx hb d_Md_light_85 rfl (lv_at hl 2 rfl) ?_
                    refine nv_imul (z := 20 * lp) hx hb d_Md_light_86 (by first | rfl | omega) ?_
                    refine lv_iload_n hx hb d_Md_light_87 rfl (lv_at hl 3 rfl) ?_
                    refine nv_iadd (z := 20 * lp + ka) hx hb d_Md_light_88 (by first | rfl | omega) ?_
                    obtain ⟨k79, v⟩ := v
                    refine nv_iald (f := mh) hx hb hK 0 (hP 14 _ rfl) rfl (20 * lp + ka).toNat (Int.toNat_of_nonneg k79.1).symm (by omega) (by decide) d_Md_light_89 ?_
                    obtain ⟨k80, v⟩ := v
                    obtain ⟨k81, v⟩ := v
                    refine nv_icmp_le (tgt := 104) hx hb d_Md_light_90 (by decide) k80 k81 (fun c82 => ?_) (fun c82 => ?_)
                    · replace v := v.1 c82
                      refine lv_iload_n hx hb d_Md_light_104 rfl (lv_at hl 4 rfl) ?_
                      refine lv_istore_n (lv' := [(3, .int (iI ena)), (5, .int (iI (mh (20 * lp + ia).toNat))), (0, .ref h0), (1, .int (iI lp)), (2, .int (iI ka)), (4, .int (iI ia))]) hx hb d_Md_light_105 rfl hl (by decide) rfl (fun ls hl => ?_)
                      refine nv_iinc (k := 5) (z := ia + 1) (lv' := [(4, .int (iI (ia + 1))), (3, .int (iI ena)), (5, .int (iI (mh (20 * lp + ia).toNat))), (0, .ref h0), (1, .int (iI lp)), (2, .int (iI ka))]) hx hb d_Md_light_106 hl rfl (by omega) (by decide) rfl (fun ls hl => ?_)
                      refine lv_goto (tgt := 52) hx hb d_Md_light_109 (by decide) ?_
                      exact ih60 ena (ia + 1) H locs ls (Nat.lt_of_lt_of_le v.2 (Nat.le_of_lt_succ hN61)) v.1 hP hD hS (lv_sub hl [3, 4, 5, 1, 0] rfl)
                    · replace v := v.2 c82
                      refine lv_iload hx hb d_Md_light_93 (lv_at hl 0 rfl) ?_
                      refine lv_iload_n hx hb d_Md_light_95 rfl (lv_at hl 4 rfl) ?_
                      obtain ⟨k83, v⟩ := v
                      refine nv_icmp_ge (tgt := 104) hx hb d_Md_light_96 (by decide) k80 k83 (fun c84 => ?_) (fun c84 => ?_)
                      · replace v := v.1 c84
                        refine lv_iload_n hx hb d_Md_light_104 rfl (lv_at hl 4 rfl) ?_
                        refine lv_istore_n (lv' := [(3, .int (iI ena)), (5, .int (iI (mh (20 * lp + ia).toNat))), (0, .ref h0), (1, .int (iI lp)), (2, .int (iI ka)), (4, .int (iI ia))]) hx hb d_Md_light_105 rfl hl (by decide) rfl (fun ls hl => ?_)
                        refine nv_iinc (k := 5) (z := ia + 1) (lv' := [(4, .int (iI (ia + 1))), (3, .int (iI ena)), (5, .int (iI (mh (20 * lp + ia).toNat))), (0, .ref h0), (1, .int (iI lp)), (2, .int (iI ka))]) hx hb d_Md_light_106 hl rfl (by omega) (by decide) rfl (fun ls hl => ?_)
                        refine lv_goto (tgt := 52) hx hb d_Md_light_109 (by decide) ?_
                        exact ih60 ena (ia + 1) H locs ls (Nat.lt_of_lt_of_le v.2 (Nat.le_of_lt_succ hN61)) v.1 hP hD hS (lv_sub hl [3, 4, 5, 1, 0] rfl)
                      · replace v := v.2 c84
                        refine lv_iload hx hb d_Md_light_99 (lv_at hl 0 rfl) ?_
                        refine lv_goto (tgt := 105) hx hb d_Md_light_101 (by decide) ?_
                        refine lv_istore_n (lv' := [(3, .int (iI (mh (20 * lp + ia).toNat))), (5, .int (iI (mh (20 * lp + ia).toNat))), (0, .ref h0), (1, .int (iI lp)), (2, .int (iI ka)), (4, .int (iI ia))]) hx hb d_Md_light_105 rfl hl (by decide) rfl (fun ls hl => ?_)
                        refine nv_iinc (k := 5) (z := ia + 1) (lv' := [(4, .int (iI (ia + 1))), (3, .int (iI (mh (20 * lp + ia).toNat))), (5, .int (iI (mh (20 * lp + ia).toNat))), (0, .ref h0), (1, .int (iI lp)), (2, .int (iI ka))]) hx hb d_Md_light_106 hl rfl (by omega) (by decide) rfl (fun ls hl => ?_)
                        refine lv_goto (tgt := 52) hx hb d_Md_light_109 (by decide) ?_
                        exact ih60 (mh (20 * lp + ia).toNat) (ia + 1) H locs ls (Nat.lt_of_lt_of_le v.2 (Nat.le_of_lt_succ hN61)) v.1 hP hD hS (lv_sub hl [3, 4, 5, 1, 0] rfl)
              exact L87 _ 26280 0 H locs ls (Nat.lt_succ_self _) v85 hP hD hS (lv_sub hl [2, 3, 4, 1, 0] rfl)
        exact L90 _ 0 g1 H locs ls (Nat.lt_succ_self _) v88 hP hD hS (lv_sub hl [1, 2, 0] rfl)
      · replace v := v.2 c6
        refine lv_aload_n hx hb d_Md_light_9 rfl (lv_at hl 0 rfl) ?_
        refine va_get (D := D) (ci := 8) (v := .ref h6) (C := "LightDosesModel") (T := T_Md) (N := 32) hx hb hts in_Md hown hK hP 0 rfl rfl 8 (by decide) (hts _ wd_711) (fun _ h9 => h9) rfl d_Md_light_10 ?_
        refine nv_sipush (z := 26280) hx hb d_Md_light_13 (by decide) ?_
        refine lv_iload_n hx hb d_Md_light_16 rfl (lv_at hl 1 rfl) ?_
        refine nv_imul (z := 26280 * lp) hx hb d_Md_light_17 (by first | rfl | omega) ?_
        refine lv_iload_n hx hb d_Md_light_18 rfl (lv_at hl 2 rfl) ?_
        refine nv_iadd (z := 26280 * lp + h1_) hx hb d_Md_light_19 (by first | rfl | omega) ?_
        refine lv_aload_n hx hb d_Md_light_20 rfl (lv_at hl 0 rfl) ?_
        refine va_get (D := D) (ci := 8) (v := .ref h3) (C := "LightDosesModel") (T := T_Md) (N := 32) hx hb hts in_Md hown hK hP 0 rfl rfl 5 (by decide) (hts _ wd_708) (fun _ h9 => h9) rfl d_Md_light_21 ?_
        refine lv_iload_n hx hb d_Md_light_24 rfl (lv_at hl 1 rfl) ?_
        obtain ⟨k91, v⟩ := v
        refine nv_iald (f := xa) hx hb hK 0 (hP 3 _ rfl) rfl (lp).toNat (Int.toNat_of_nonneg k91.1).symm (by omega) (by decide) d_Md_light_25 ?_
        obtain ⟨k92, v⟩ := v
        refine nv_iast (f := g1) hx hb hK hP hD hS 6 0 rfl rfl (26280 * lp + h1_).toNat (Int.toNat_of_nonneg k92.1).symm (by omega) (by decide) d_Md_light_26 (fun H locs hP hD hS => ?_)
        have hP : va_P D vwCl (wMd cI cJ cZ h0 h1 h2 h3 h4 h5 h6 h7 h8 h9 h10 h11 h12 h13 h14 h15 h16 h17 h18 h19 h20 h21 h22 h23 th no ca ba nl xa sa da (va_up g1 (26280 * lp + h1_).toNat (xa (lp).toNat)) ra fa ta ua uh uo ma mh ml nf fo fh fs rs ic mn bh bo ya np pa nc cp) H := hP
        have hD : va_D A (wMd cI cJ cZ h0 h1 h2 h3 h4 h5 h6 h7 h8 h9 h10 h11 h12 h13 h14 h15 h16 h17 h18 h19 h20 h21 h22 h23 th no ca ba nl xa sa da (va_up g1 (26280 * lp + h1_).toNat (xa (lp).toNat)) ra fa ta ua uh uo ma mh ml nf fo fh fs rs ic mn bh bo ya np pa nc cp) := hD
        refine nv_iinc (k := 2) (z := h1_ + 1) (lv' := [(2, .int (iI (h1_ + 1))), (0, .ref h0), (1, .int (iI lp))]) hx hb d_Md_light_27 hl rfl (by omega) (by decide) rfl (fun ls hl => ?_)
        refine lv_goto (tgt := 2) hx hb d_Md_light_30 (by decide) ?_
        exact ih3 (h1_ + 1) (va_up g1 (26280 * lp + h1_).toNat (xa (lp).toNat)) H locs ls (Nat.lt_of_lt_of_le v.2 (Nat.le_of_lt_succ hN4)) v.1 hP hD hS (lv_sub hl [1, 2, 0] rfl)
  exact L95 _ 0 la H locs ls (Nat.lt_succ_self _) v93 hP hD hS (lv_sub hl [1, 2, 0] rfl)

theorem d_Md_lamp_0 : decode prog_10_method_12_code 0 = .ok (.aload_n 0, 1) := by decide +kernel
theorem d_Md_lamp_1 : decode prog_10_method_12_code 1 = .ok (.aload_n 0, 1) := by decide +kernel
theorem d_Md_lamp_2 : decode prog_10_method_12_code 2 = .ok (.getfield 89, 3) := by decide +kernel
theorem d_Md_lamp_5 : decode prog_10_method_12_code 5 = .ok (.bipush 8, 2) := by decide +kernel
theorem d_Md_lamp_7 : decode prog_10_method_12_code 7 = .ok (.if_icmp .ge 7, 3) := by decide +kernel
theorem d_Md_lamp_10 : decode prog_10_method_12_code 10 = .ok (.iconst 1, 1) := by decide +kernel
theorem d_Md_lamp_11 : decode prog_10_method_12_code 11 = .ok (.goto 4, 3) := by decide +kernel
theorem d_Md_lamp_14 : decode prog_10_method_12_code 14 = .ok (.iconst 0, 1) := by decide +kernel
theorem d_Md_lamp_15 : decode prog_10_method_12_code 15 = .ok (.iload_n 1, 1) := by decide +kernel
theorem d_Md_lamp_16 : decode prog_10_method_12_code 16 = .ok (.invokestatic 105, 3) := by decide +kernel
theorem d_Md_lamp_19 : decode prog_10_method_12_code 19 = .ok (.iconst 1, 1) := by decide +kernel
theorem d_Md_lamp_20 : decode prog_10_method_12_code 20 = .ok (.invokevirtual 96, 3) := by decide +kernel
theorem d_Md_lamp_23 : decode prog_10_method_12_code 23 = .ok (.ifCond .ne 5, 3) := by decide +kernel
theorem d_Md_lamp_26 : decode prog_10_method_12_code 26 = .ok (.iconst 0, 1) := by decide +kernel
theorem d_Md_lamp_27 : decode prog_10_method_12_code 27 = .ok (.ireturn, 1) := by decide +kernel
theorem d_Md_lamp_28 : decode prog_10_method_12_code 28 = .ok (.aload_n 0, 1) := by decide +kernel
theorem d_Md_lamp_29 : decode prog_10_method_12_code 29 = .ok (.getfield 16, 3) := by decide +kernel
theorem d_Md_lamp_32 : decode prog_10_method_12_code 32 = .ok (.aload_n 0, 1) := by decide +kernel
theorem d_Md_lamp_33 : decode prog_10_method_12_code 33 = .ok (.getfield 89, 3) := by decide +kernel
theorem d_Md_lamp_36 : decode prog_10_method_12_code 36 = .ok (.iload_n 1, 1) := by decide +kernel
theorem d_Md_lamp_37 : decode prog_10_method_12_code 37 = .ok (.iastore, 1) := by decide +kernel
theorem d_Md_lamp_38 : decode prog_10_method_12_code 38 = .ok (.aload_n 0, 1) := by decide +kernel
theorem d_Md_lamp_39 : decode prog_10_method_12_code 39 = .ok (.dup, 1) := by decide +kernel
theorem d_Md_lamp_40 : decode prog_10_method_12_code 40 = .ok (.getfield 89, 3) := by decide +kernel
theorem d_Md_lamp_43 : decode prog_10_method_12_code 43 = .ok (.iconst 1, 1) := by decide +kernel
theorem d_Md_lamp_44 : decode prog_10_method_12_code 44 = .ok (.iadd, 1) := by decide +kernel
theorem d_Md_lamp_45 : decode prog_10_method_12_code 45 = .ok (.putfield 89, 3) := by decide +kernel
theorem d_Md_lamp_48 : decode prog_10_method_12_code 48 = .ok (.aload_n 0, 1) := by decide +kernel
theorem d_Md_lamp_49 : decode prog_10_method_12_code 49 = .ok (.aload_n 0, 1) := by decide +kernel
theorem d_Md_lamp_50 : decode prog_10_method_12_code 50 = .ok (.getfield 89, 3) := by decide +kernel
theorem d_Md_lamp_53 : decode prog_10_method_12_code 53 = .ok (.iconst 1, 1) := by decide +kernel
theorem d_Md_lamp_54 : decode prog_10_method_12_code 54 = .ok (.isub, 1) := by decide +kernel
theorem d_Md_lamp_55 : decode prog_10_method_12_code 55 = .ok (.invokevirtual 109, 3) := by decide +kernel
theorem d_Md_lamp_58 : decode prog_10_method_12_code 58 = .ok (.aload_n 0, 1) := by decide +kernel
theorem d_Md_lamp_59 : decode prog_10_method_12_code 59 = .ok (.getfield 89, 3) := by decide +kernel
theorem d_Md_lamp_62 : decode prog_10_method_12_code 62 = .ok (.iconst 1, 1) := by decide +kernel
theorem d_Md_lamp_63 : decode prog_10_method_12_code 63 = .ok (.isub, 1) := by decide +kernel
theorem d_Md_lamp_64 : decode prog_10_method_12_code 64 = .ok (.ireturn, 1) := by decide +kernel
def vc_Md_lamp (th : Int) (no : Int) (ca : Nat → Int) (ba : Nat → Int) (nl : Int) (xa : Nat → Int) (sa : Nat → Int) (da : Nat → Int) (la : Nat → Int) (ra : Nat → Int) (fa : Nat → Int) (ta : Nat → Int) (ua : Nat → Int) (uh : Nat → Int) (uo : Nat → Int) (ma : Nat → Int) (mh : Nat → Int) (ml : Nat → Int) (nf : Int) (fo : Nat → Int) (fh : Nat → Int) (fs : Nat → Int) (rs : Int) (ic : Int) (mn : Int) (bh : Nat → Int) (bo : Nat → Int) (ya : Nat → Int) (np : Int) (pa : Nat → Int) (nc : Int) (cp : Nat → Int) (lx : Int) (post : Int → Int → (Nat → Int) → Int → (Nat → Int) → Int → Prop) : Prop := (r32 nl) ∧ ((8 ≤ nl → (r32 lx) ∧ (((0 ≤ lx ∧ lx ≤ 5000) → post 0 1 xa nl la ic) ∧ (¬ (0 ≤ lx ∧ lx ≤ 5000) → post 0 1 xa nl la ic))) ∧ (nl < 8 → (r32 lx) ∧ (((0 ≤ lx ∧ lx ≤ 5000) → (0 ≤ nl ∧ nl < 8) ∧ (∃ P11 : (Nat → Int) → Int → Prop, vc_Md_light 0 no ca ba (nl + 1) (va_up xa (nl).toNat lx) sa da la ra fa ta ua uh uo ma mh ml nf fo fh fs rs ic mn bh bo ya np pa nc cp (nl + 1 - 1) P11 ∧ ∀ (y13 : Nat → Int) (y14 : Int), P11 y13 y14 → post (nl + 1 - 1) 0 (va_up xa (nl).toNat lx) (nl + 1) y13 y14)) ∧ (¬ (0 ≤ lx ∧ lx ≤ 5000) → post 0 2 xa nl la ic))))
set_option maxHeartbeats 4000000 in
set_option maxRecDepth 100000 in
theorem m_Md_lamp (l : Launch) (D : va_G) (cI cJ cO cZ : ClassId) (h0 h1 h2 h3 h4 h5 h6 h7 h8 h9 h10 h11 h12 h13 h14 h15 h16 h17 h18 h19 h20 h21 h22 h23 : Nat) (sz : Nat) (th : Int) (no : Int) (ca : Nat → Int) (ba : Nat → Int) (nl : Int) (xa : Nat → Int) (sa : Nat → Int) (da : Nat → Int) (la : Nat → Int) (ra : Nat → Int) (fa : Nat → Int) (ta : Nat → Int) (ua : Nat → Int) (uh : Nat → Int) (uo : Nat → Int) (ma : Nat → Int) (mh : Nat → Int) (ml : Nat → Int) (nf : Int) (fo : Nat → Int) (fh : Nat → Int) (fs : Nat → Int) (rs : Int) (ic : Int) (mn : Int) (bh : Nat → Int) (bo : Nat → Int) (ya : Nat → Int) (np : Int) (pa : Nat → Int) (nc : Int) (cp : Nat → Int) (lx : Int) (post : Int → Int → (Nat → Int) → Int → (Nat → Int) → Int → Prop) (v : vc_Md_lamp th no ca ba nl xa sa da la ra fa ta ua uh uo ma mh ml nf fo fh fs rs ic mn bh bo ya np pa nc cp lx post) : Met l ⟨"LightDosesModel", "lamp", "(I)I"⟩ (.code ⟨"LightDosesModel", "lamp", "(I)I"⟩ prog_10_method_12_code 2 (some .int) :: TG) { frames := 1, cells := 0, slots := 0, locals := 25 } (va_Pc [.ref h0, .int (iI lx)] (fun U => U.heap.size = sz ∧ va_P D vwCl (wMd cI cJ cZ h0 h1 h2 h3 h4 h5 h6 h7 h8 h9 h10 h11 h12 h13 h14 h15 h16 h17 h18 h19 h20 h21 h22 h23 th no ca ba nl xa sa da la ra fa ta ua uh uo ma mh ml nf fo fh fs rs ic mn bh bo ya np pa nc cp) U.heap ∧ va_K D vwCl (tyx cI cJ cO cZ) U ∧ va_D (fun _ => True) (wMd cI cJ cZ h0 h1 h2 h3 h4 h5 h6 h7 h8 h9 h10 h11 h12 h13 h14 h15 h16 h17 h18 h19 h20 h21 h22 h23 th no ca ba nl xa sa da la ra fa ta ua uh uo ma mh ml nf fo fh fs rs ic mn bh bo ya np pa nc cp))) (va_Qi (fun (r : Int32) (u : Int × (Nat → Int) × Int × (Nat → Int) × Int) => ∃ z : Int, r = iI z ∧ post z u.1 u.2.1 u.2.2.1 u.2.2.2.1 u.2.2.2.2) (fun u t => va_P D vwCl (wMd cI cJ cZ h0 h1 h2 h3 h4 h5 h6 h7 h8 h9 h10 h11 h12 h13 h14 h15 h16 h17 h18 h19 h20 h21 h22 h23 u.1 no ca ba u.2.2.1 u.2.1 sa da u.2.2.2.1 ra fa ta ua uh uo ma mh ml nf fo fh fs rs u.2.2.2.2 mn bh bo ya np pa nc cp) t.heap ∧ va_K D vwCl (tyx cI cJ cO cZ) t ∧ va_D (va_A (wMd cI cJ cZ h0 h1 h2 h3 h4 h5 h6 h7 h8 h9 h10 h11 h12 h13 h14 h15 h16 h17 h18 h19 h20 h21 h22 h23 th no ca ba nl xa sa da la ra fa ta ua uh uo ma mh ml nf fo fh fs rs ic mn bh bo ya np pa nc cp) sz) (wMd cI cJ cZ h0 h1 h2 h3 h4 h5 h6 h7 h8 h9 h10 h11 h12 h13 h14 h15 h16 h17 h18 h19 h20 h21 h22 h23 u.1 no ca ba u.2.2.1 u.2.1 sa da u.2.2.2.1 ra fa ta ua uh uo ma mh ml nf fo fh fs rs u.2.2.2.2 mn bh bo ya np pa nc cp)) (va_A (wMd cI cJ cZ h0 h1 h2 h3 h4 h5 h6 h7 h8 h9 h10 h11 h12 h13 h14 h15 h16 h17 h18 h19 h20 h21 h22 h23 th no ca ba nl xa sa da la ra fa ta ua uh uo ma mh ml nf fo fh fs rs ic mn bh bo ya np pa nc cp) sz)) 0 0 (va_A (wMd cI cJ cZ h0 h1 h2 h3 h4 h5 h6 h7 h8 h9 h10 h11 h12 h13 h14 h15 h16 h17 h18 h19 h20 h21 h22 h23 th no ca ba nl xa sa da la ra fa ta ua uh uo ma mh ml nf fo fh fs rs ic mn bh bo ya np pa nc cp) sz) := by
  refine Met.ofW (cc := prog_10_method_12_code) (maxL := 2) (ret := (some .int)) (by decide) rfl ?_
  intro p e s m args below meth c s₁ B hml hv
  obtain ⟨rfl, hsz, hP, hK, hD0⟩ := hv
  have hx := B.exec
  have hb := B.bytes
  have hr := B.returns
  have hts0 := atoms_spec (ws := (.code ⟨"LightDosesModel", "lamp", "(I)I"⟩ prog_10_method_12_code 2 (some .int) :: TG)) B.pre
  have hts : ∀ w ∈ TG, w.before _ s = true := fun w h => hts0 w (List.mem_cons_of_mem _ h)
  have hown : s.vm.findClass "LightDosesModel" = some m.cls := findClass_of_methodNamed B.named
  have hlocks := B.notSynchronized
  subst hsz
  have hD := hD0.self (sz := s.heap.size)
  generalize hAe : va_A (wMd cI cJ cZ h0 h1 h2 h3 h4 h5 h6 h7 h8 h9 h10 h11 h12 h13 h14 h15 h16 h17 h18 h19 h20 h21 h22 h23 th no ca ba nl xa sa da la ra fa ta ua uh uo ma mh ml nf fo fh fs rs ic mn bh bo ya np pa nc cp) s.heap.size = A at hD ⊢
  have hA : ∀ q : Nat, s.heap.size ≤ q → A q := fun q h => by rw [← hAe]; exact Or.inr h
  have hS : va_S A s.heap s.heap [] := va_S.rf
  have hP : va_P D vwCl (wMd cI cJ cZ h0 h1 h2 h3 h4 h5 h6 h7 h8 h9 h10 h11 h12 h13 h14 h15 h16 h17 h18 h19 h20 h21 h22 h23 th no ca ba nl xa sa da la ra fa ta ua uh uo ma mh ml nf fo fh fs rs ic mn bh bo ya np pa nc cp) s.heap := hP
  have hl := lv_entry ([Value.ref h0, Value.int (iI lx)]) (n := 2) (Nat.le_of_ble_eq_true rfl)
  rw [lg_entry_eq]
  generalize (lg_sl ([Value.ref h0, Value.int (iI lx)]) ++ List.replicate (2 - (lg_sl ([Value.ref h0, Value.int (iI lx)])).length) Slot.unset).toArray = ls at hl ⊢
  have hl : lv_has ls 2 [(0, .ref h0), (1, .int (iI lx))] := hl
  unfold vc_Md_lamp at v
  obtain ⟨H, hH⟩ : ∃ H, H = s.heap := ⟨_, rfl⟩
  obtain ⟨locs, hlc⟩ : ∃ L : List Loc, L = [] := ⟨_, rfl⟩
  rw [← hlc] at hS ⊢
  have hP : va_P D vwCl (wMd cI cJ cZ h0 h1 h2 h3 h4 h5 h6 h7 h8 h9 h10 h11 h12 h13 h14 h15 h16 h17 h18 h19 h20 h21 h22 h23 th no ca ba nl xa sa da la ra fa ta ua uh uo ma mh ml nf fo fh fs rs ic mn bh bo ya np pa nc cp) H := by rw [hH]; exact hP
  have hS : va_S A s.heap H locs := by rw [hH]; exact hS
  have hW0 : ∀ {X : Heap → Prop}, X H → X s.heap := fun h => by rw [← hH]; exact h
  refine hW0 (X := fun Z => W p l e _ s m _ below meth c Z locs 0 0 _ _) ?_
  refine lv_aload_n hx hb d_Md_lamp_0 rfl (lv_at hl 0 rfl) ?_
  refine lv_aload_n hx hb d_Md_lamp_1 rfl (lv_at hl 0 rfl) ?_
  refine va_get (D := D) (ci := 8) (v := .int (iI nl)) (C := "LightDosesModel") (T := T_Md) (N := 32) hx hb hts in_Md hown hK hP 0 rfl rfl 4 (by decide) (hts _ wd_707) (fun _ h9 => h9) rfl d_Md_lamp_2 ?_
  refine nv_bipush (z := 8) hx hb d_Md_lamp_5 (by decide) ?_
  obtain ⟨k1, v⟩ := v
  refine nv_icmp_ge (tgt := 14) hx hb d_Md_lamp_7 (by decide) k1 (by decide) (fun c2 => ?_) (fun c2 => ?_)
  · replace v := v.1 c2
    refine nv_iconst (n := 0) hx hb d_Md_lamp_14 ?_
    refine lv_iload_n hx hb d_Md_lamp_15 rfl (lv_at hl 1 rfl) ?_
    obtain ⟨k3, v⟩ := v
    refine vp_callSi (nv_runS (wc := []) (As := [.int (iI lx)]) (rest := [.int (iI 0), .ref h0]) ⟨hx, hb, hml, hown, hts⟩ (m_Md_isLux l D cI cJ cO cZ lx (fun z => (z = 1 ∧ (0 ≤ lx ∧ lx ≤ 5000)) ∨ (z = 0 ∧ ¬ (0 ≤ lx ∧ lx ≤ 5000))) (s_Md_isLux lx k3)) (nv_cwS (n := 1) hts wd_825 wd_826 wd_10 wd_827 (by decide +kernel) ⟨Nat.le_of_ble_eq_true rfl, Nat.le_of_ble_eq_true rfl⟩) hK (hP.sub [] rfl) rfl hl.1 rfl (Nat.le_of_ble_eq_true rfl) d_Md_lamp_16 (Nat.le_of_ble_eq_true rfl) (Nat.le_of_ble_eq_true rfl)) (fun r hr => ?_)
    rcases hr with ⟨_, rfl, ⟨rfl, c4⟩ | ⟨rfl, c4⟩⟩
    · replace v := v.1 c4
      refine nv_iconst (n := 1) hx hb d_Md_lamp_19 ?_
      have hPc := hP.sub (ws' := (wMd cI cJ cZ h0 h1 h2 h3 h4 h5 h6 h7 h8 h9 h10 h11 h12 h13 h14 h15 h16 h17 h18 h19 h20 h21 h22 h23 th no ca ba nl xa sa da la ra fa ta ua uh uo ma mh ml nf fo fh fs rs ic mn bh bo ya np pa nc cp)) [0, 1, 2, 3, 4, 5, 6, 7, 8, 9, 10, 11, 12, 13, 14, 15, 16, 17, 18, 19, 20, 21, 22, 23] rfl
      have hDc := hD.sub (ws' := (wMd cI cJ cZ h0 h1 h2 h3 h4 h5 h6 h7 h8 h9 h10 h11 h12 h13 h14 h15 h16 h17 h18 h19 h20 h21 h22 h23 th no ca ba nl xa sa da la ra fa ta ua uh uo ma mh ml nf fo fh fs rs ic mn bh bo ya np pa nc cp)) [0, 1, 2, 3, 4, 5, 6, 7, 8, 9, 10, 11, 12, 13, 14, 15, 16, 17, 18, 19, 20, 21, 22, 23] (by decide) rfl
      have hFc := va_free (wc := (wMd cI cJ cZ h0 h1 h2 h3 h4 h5 h6 h7 h8 h9 h10 h11 h12 h13 h14 h15 h16 h17 h18 h19 h20 h21 h22 h23 th no ca ba nl xa sa da la ra fa ta ua uh uo ma mh ml nf fo fh fs rs ic mn bh bo ya np pa nc cp)) hD hS hA [0, 1, 2, 3, 4, 5, 6, 7, 8, 9, 10, 11, 12, 13, 14, 15, 16, 17, 18, 19, 20, 21, 22, 23] rfl
      refine va_calli (va_runV (As := [.int (iI 0), .int (iI 1), .int (iI 1)]) (rest := []) ⟨hx, hb, hml, hown, hts⟩ (m_Md_goes l D cI cJ cO cZ h0 h1 h2 h3 h4 h5 h6 h7 h8 h9 h10 h11 h12 h13 h14 h15 h16 h17 h18 h19 h20 h21 h22 h23 H.size th no ca ba nl xa sa da la ra fa ta ua uh uo ma mh ml nf fo fh fs rs ic mn bh bo ya np pa nc cp 0 1 1 (fun z t => z = 0 ∧ t = 1) (s_Md_goes_011 th no ca ba nl xa sa da la ra fa ta ua uh uo ma mh ml nf fo fh fs rs ic mn bh bo ya np pa nc cp)) (nv_cwV (n := 3) hts wd_812 wd_814 sl_17 wd_10 wd_815 (by decide +kernel) ⟨Nat.le_of_ble_eq_true rfl, Nat.le_of_ble_eq_true rfl⟩) ⟨blW, va_recv hK hPc (ci := 8) (q0 := 0) rfl rfl, fun U hU hW => ⟨rfl, by rw [hU], by rw [hU]; exact hPc, va_K.moved hW.alike hK, hDc.weaken (fun _ _ _ _ => trivial)⟩⟩ rfl rfl hl.1 rfl (lv_room (Nat.le_of_ble_eq_true rfl)) d_Md_lamp_20 ⟨Nat.le_of_ble_eq_true rfl, Nat.le_of_ble_eq_true rfl⟩) hS (fun q _ h => hFc q h) hFc (fun r u t H1 locs ht hvm hw hB hz1 hk1 hS => ?_)
      obtain ⟨hP1, hK1, hD1⟩ := hB
      rw [ht] at hP1
      obtain ⟨_, rfl, rfl, rfl⟩ := hw
      obtain ⟨hP, hD⟩ := va_join (wr := []) (w1 := (wMd cI cJ cZ h0 h1 h2 h3 h4 h5 h6 h7 h8 h9 h10 h11 h12 h13 h14 h15 h16 h17 h18 h19 h20 h21 h22 h23 1 no ca ba nl xa sa da la ra fa ta ua uh uo ma mh ml nf fo fh fs rs ic mn bh bo ya np pa nc cp)) hP hD [0, 1, 2, 3, 4, 5, 6, 7, 8, 9, 10, 11, 12, 13, 14, 15, 16, 17, 18, 19, 20, 21, 22, 23] [] rfl rfl (by decide) (by decide) hk1 hFc hP1 hD1
      generalize H1 = H at hP hS ⊢
      have hP : va_P D vwCl (wMd cI cJ cZ h0 h1 h2 h3 h4 h5 h6 h7 h8 h9 h10 h11 h12 h13 h14 h15 h16 h17 h18 h19 h20 h21 h22 h23 1 no ca ba nl xa sa da la ra fa ta ua uh uo ma mh ml nf fo fh fs rs ic mn bh bo ya np pa nc cp) H := hP
      have hD : va_D A (wMd cI cJ cZ h0 h1 h2 h3 h4 h5 h6 h7 h8 h9 h10 h11 h12 h13 h14 h15 h16 h17 h18 h19 h20 h21 h22 h23 1 no ca ba nl xa sa da la ra fa ta ua uh uo ma mh ml nf fo fh fs rs ic mn bh bo ya np pa nc cp) := hD
      refine W.widen (k := 0) (n := 0) (Nat.le_of_ble_eq_true rfl) (Nat.le_of_ble_eq_true rfl) ?_
      refine nv_if_ne (tgt := 28) hx hb d_Md_lamp_23 (by decide) (by decide) (fun c5 => absurd c5 (by decide)) (fun _ => ?_)
      refine nv_iconst (n := 0) hx hb d_Md_lamp_26 ?_
      have hP9 := hP.sub (ws' := (wMd cI cJ cZ h0 h1 h2 h3 h4 h5 h6 h7 h8 h9 h10 h11 h12 h13 h14 h15 h16 h17 h18 h19 h20 h21 h22 h23 1 no ca ba nl xa sa da la ra fa ta ua uh uo ma mh ml nf fo fh fs rs ic mn bh bo ya np pa nc cp)) [0, 1, 2, 3, 4, 5, 6, 7, 8, 9, 10, 11, 12, 13, 14, 15, 16, 17, 18, 19, 20, 21, 22, 23] rfl
      have hD9 := hD.sub (ws' := (wMd cI cJ cZ h0 h1 h2 h3 h4 h5 h6 h7 h8 h9 h10 h11 h12 h13 h14 h15 h16 h17 h18 h19 h20 h21 h22 h23 1 no ca ba nl xa sa da la ra fa ta ua uh uo ma mh ml nf fo fh fs rs ic mn bh bo ya np pa nc cp)) [0, 1, 2, 3, 4, 5, 6, 7, 8, 9, 10, 11, 12, 13, 14, 15, 16, 17, 18, 19, 20, 21, 22, 23] (by decide) rfl
      exact W.iret hx hb hr (fun t ht hW => ⟨⟨_, ((1), (xa), (nl), (la), (ic)), rfl, ⟨_, rfl, v⟩, by rw [ht]; exact hP9, va_K.moved hW.alike hK, hD9⟩, hS.F ht⟩) hS.2.2 d_Md_lamp_27
    · replace v := v.2 c4
      refine nv_iconst (n := 1) hx hb d_Md_lamp_19 ?_
      have hPc := hP.sub (ws' := (wMd cI cJ cZ h0 h1 h2 h3 h4 h5 h6 h7 h8 h9 h10 h11 h12 h13 h14 h15 h16 h17 h18 h19 h20 h21 h22 h23 th no ca ba nl xa sa da la ra fa ta ua uh uo ma mh ml nf fo fh fs rs ic mn bh bo ya np pa nc cp)) [0, 1, 2, 3, 4, 5, 6, 7, 8, 9, 10, 11, 12, 13, 14, 15, 16, 17, 18, 19, 20, 21, 22, 23] rfl
      have hDc := hD.sub (ws' := (wMd cI cJ cZ h0 h1 h2 h3 h4 h5 h6 h7 h8 h9 h10 h11 h12 h13 h14 h15 h16 h17 h18 h19 h20 h21 h22 h23 th no ca ba nl xa sa da la ra fa ta ua uh uo ma mh ml nf fo fh fs rs ic mn bh bo ya np pa nc cp)) [0, 1, 2, 3, 4, 5, 6, 7, 8, 9, 10, 11, 12, 13, 14, 15, 16, 17, 18, 19, 20, 21, 22, 23] (by decide) rfl
      have hFc := va_free (wc := (wMd cI cJ cZ h0 h1 h2 h3 h4 h5 h6 h7 h8 h9 h10 h11 h12 h13 h14 h15 h16 h17 h18 h19 h20 h21 h22 h23 th no ca ba nl xa sa da la ra fa ta ua uh uo ma mh ml nf fo fh fs rs ic mn bh bo ya np pa nc cp)) hD hS hA [0, 1, 2, 3, 4, 5, 6, 7, 8, 9, 10, 11, 12, 13, 14, 15, 16, 17, 18, 19, 20, 21, 22, 23] rfl
      refine va_calli (va_runV (As := [.int (iI 0), .int (iI 0), .int (iI 1)]) (rest := []) ⟨hx, hb, hml, hown, hts⟩ (m_Md_goes l D cI cJ cO cZ h0 h1 h2 h3 h4 h5 h6 h7 h8 h9 h10 h11 h12 h13 h14 h15 h16 h17 h18 h19 h20 h21 h22 h23 H.size th no ca ba nl xa sa da la ra fa ta ua uh uo ma mh ml nf fo fh fs rs ic mn bh bo ya np pa nc cp 0 0 1 (fun z t => z = 0 ∧ t = 1) (s_Md_goes_001 th no ca ba nl xa sa da la ra fa ta ua uh uo ma mh ml nf fo fh fs rs ic mn bh bo ya np pa nc cp)) (nv_cwV (n := 3) hts wd_812 wd_814 sl_17 wd_10 wd_815 (by decide +kernel) ⟨Nat.le_of_ble_eq_true rfl, Nat.le_of_ble_eq_true rfl⟩) ⟨blW, va_recv hK hPc (ci := 8) (q0 := 0) rfl rfl, fun U hU hW => ⟨rfl, by rw [hU], by rw [hU]; exact hPc, va_K.moved hW.alike hK, hDc.weaken (fun _ _ _ _ => trivial)⟩⟩ rfl rfl hl.1 rfl (lv_room (Nat.le_of_ble_eq_true rfl)) d_Md_lamp_20 ⟨Nat.le_of_ble_eq_true rfl, Nat.le_of_ble_eq_true rfl⟩) hS (fun q _ h => hFc q h) hFc (fun r u t H1 locs ht hvm hw hB hz1 hk1 hS => ?_)
      obtain ⟨hP1, hK1, hD1⟩ := hB
      rw [ht] at hP1
      obtain ⟨_, rfl, rfl, rfl⟩ := hw
      obtain ⟨hP, hD⟩ := va_join (wr := []) (w1 := (wMd cI cJ cZ h0 h1 h2 h3 h4 h5 h6 h7 h8 h9 h10 h11 h12 h13 h14 h15 h16 h17 h18 h19 h20 h21 h22 h23 1 no ca ba nl xa sa da la ra fa ta ua uh uo ma mh ml nf fo fh fs rs ic mn bh bo ya np pa nc cp)) hP hD [0, 1, 2, 3, 4, 5, 6, 7, 8, 9, 10, 11, 12, 13, 14, 15, 16, 17, 18, 19, 20, 21, 22, 23] [] rfl rfl (by decide) (by decide) hk1 hFc hP1 hD1
      generalize H1 = H at hP hS ⊢
      have hP : va_P D vwCl (wMd cI cJ cZ h0 h1 h2 h3 h4 h5 h6 h7 h8 h9 h10 h11 h12 h13 h14 h15 h16 h17 h18 h19 h20 h21 h22 h23 1 no ca ba nl xa sa da la ra fa ta ua uh uo ma mh ml nf fo fh fs rs ic mn bh bo ya np pa nc cp) H := hP
      have hD : va_D A (wMd cI cJ cZ h0 h1 h2 h3 h4 h5 h6 h7 h8 h9 h10 h11 h12 h13 h14 h15 h16 h17 h18 h19 h20 h21 h22 h23 1 no ca ba nl xa sa da la ra fa ta ua uh uo ma mh ml nf fo fh fs rs ic mn bh bo ya np pa nc cp) := hD
      refine W.widen (k := 0) (n := 0) (Nat.le_of_ble_eq_true rfl) (Nat.le_of_ble_eq_true rfl) ?_
      refine nv_if_ne (tgt := 28) hx hb d_Md_lamp_23 (by decide) (by decide) (fun c6 => absurd c6 (by decide)) (fun _ => ?_)
      refine nv_iconst (n := 0) hx hb d_Md_lamp_26 ?_
      have hP9 := hP.sub (ws' := (wMd cI cJ cZ h0 h1 h2 h3 h4 h5 h6 h7 h8 h9 h10 h11 h12 h13 h14 h15 h16 h17 h18 h19 h20 h21 h22 h23 1 no ca ba nl xa sa da la ra fa ta ua uh uo ma mh ml nf fo fh fs rs ic mn bh bo ya np pa nc cp)) [0, 1, 2, 3, 4, 5, 6, 7, 8, 9, 10, 11, 12, 13, 14, 15, 16, 17, 18, 19, 20, 21, 22, 23] rfl
      have hD9 := hD.sub (ws' := (wMd cI cJ cZ h0 h1 h2 h3 h4 h5 h6 h7 h8 h9 h10 h11 h12 h13 h14 h15 h16 h17 h18 h19 h20 h21 h22 h23 1 no ca ba nl xa sa da la ra fa ta ua uh uo ma mh ml nf fo fh fs rs ic mn bh bo ya np pa nc cp)) [0, 1, 2, 3, 4, 5, 6, 7, 8, 9, 10, 11, 12, 13, 14, 15, 16, 17, 18, 19, 20, 21, 22, 23] (by decide) rfl
      exact W.iret hx hb hr (fun t ht hW => ⟨⟨_, ((1), (xa), (nl), (la), (ic)), rfl, ⟨_, rfl, v⟩, by rw [ht]; exact hP9, va_K.moved hW.alike hK, hD9⟩, hS.F ht⟩) hS.2.2 d_Md_lamp_27
  · replace v := v.2 c2
    refine nv_iconst (n := 1) hx hb d_Md_lamp_10 ?_
    refine lv_goto (tgt := 15) hx hb d_Md_lamp_11 (by decide) ?_
    refine lv_iload_n hx hb d_Md_lamp_15 rfl (lv_at hl 1 rfl) ?_
    obtain ⟨k7, v⟩ := v
    refine vp_callSi (nv_runS (wc := []) (As := [.int (iI lx)]) (rest := [.int (iI 1), .ref h0]) ⟨hx, hb, hml, hown, hts⟩ (m_Md_isLux l D cI cJ cO cZ lx (fun z => (z = 1 ∧ (0 ≤ lx ∧ lx ≤ 5000)) ∨ (z = 0 ∧ ¬ (0 ≤ lx ∧ lx ≤ 5000))) (s_Md_isLux lx k7)) (nv_cwS (n := 1) hts wd_825 wd_826 wd_10 wd_827 (by decide +kernel) ⟨Nat.le_of_ble_eq_true rfl, Nat.le_of_ble_eq_true rfl⟩) hK (hP.sub [] rfl) rfl hl.1 rfl (Nat.le_of_ble_eq_true rfl) d_Md_lamp_16 (Nat.le_of_ble_eq_true rfl) (Nat.le_of_ble_eq_true rfl)) (fun r hr => ?_)
    rcases hr with ⟨_, rfl, ⟨rfl, c8⟩ | ⟨rfl, c8⟩⟩
    · replace v := v.1 c8
      refine nv_iconst (n := 1) hx hb d_Md_lamp_19 ?_
      have hPc := hP.sub (ws' := (wMd cI cJ cZ h0 h1 h2 h3 h4 h5 h6 h7 h8 h9 h10 h11 h12 h13 h14 h15 h16 h17 h18 h19 h20 h21 h22 h23 th no ca ba nl xa sa da la ra fa ta ua uh uo ma mh ml nf fo fh fs rs ic mn bh bo ya np pa nc cp)) [0, 1, 2, 3, 4, 5, 6, 7, 8, 9, 10, 11, 12, 13, 14, 15, 16, 17, 18, 19, 20, 21, 22, 23] rfl
      have hDc := hD.sub (ws' := (wMd cI cJ cZ h0 h1 h2 h3 h4 h5 h6 h7 h8 h9 h10 h11 h12 h13 h14 h15 h16 h17 h18 h19 h20 h21 h22 h23 th no ca ba nl xa sa da la ra fa ta ua uh uo ma mh ml nf fo fh fs rs ic mn bh bo ya np pa nc cp)) [0, 1, 2, 3, 4, 5, 6, 7, 8, 9, 10, 11, 12, 13, 14, 15, 16, 17, 18, 19, 20, 21, 22, 23] (by decide) rfl
      have hFc := va_free (wc := (wMd cI cJ cZ h0 h1 h2 h3 h4 h5 h6 h7 h8 h9 h10 h11 h12 h13 h14 h15 h16 h17 h18 h19 h20 h21 h22 h23 th no ca ba nl xa sa da la ra fa ta ua uh uo ma mh ml nf fo fh fs rs ic mn bh bo ya np pa nc cp)) hD hS hA [0, 1, 2, 3, 4, 5, 6, 7, 8, 9, 10, 11, 12, 13, 14, 15, 16, 17, 18, 19, 20, 21, 22, 23] rfl
      refine va_calli (va_runV (As := [.int (iI 1), .int (iI 1), .int (iI 1)]) (rest := []) ⟨hx, hb, hml, hown, hts⟩ (m_Md_goes l D cI cJ cO cZ h0 h1 h2 h3 h4 h5 h6 h7 h8 h9 h10 h11 h12 h13 h14 h15 h16 h17 h18 h19 h20 h21 h22 h23 H.size th no ca ba nl xa sa da la ra fa ta ua uh uo ma mh ml nf fo fh fs rs ic mn bh bo ya np pa nc cp 1 1 1 (fun z t => z = 1 ∧ t = 0) (s_Md_goes_111 th no ca ba nl xa sa da la ra fa ta ua uh uo ma mh ml nf fo fh fs rs ic mn bh bo ya np pa nc cp)) (nv_cwV (n := 3) hts wd_812 wd_814 sl_17 wd_10 wd_815 (by decide +kernel) ⟨Nat.le_of_ble_eq_true rfl, Nat.le_of_ble_eq_true rfl⟩) ⟨blW, va_recv hK hPc (ci := 8) (q0 := 0) rfl rfl, fun U hU hW => ⟨rfl, by rw [hU], by rw [hU]; exact hPc, va_K.moved hW.alike hK, hDc.weaken (fun _ _ _ _ => trivial)⟩⟩ rfl rfl hl.1 rfl (lv_room (Nat.le_of_ble_eq_true rfl)) d_Md_lamp_20 ⟨Nat.le_of_ble_eq_true rfl, Nat.le_of_ble_eq_true rfl⟩) hS (fun q _ h => hFc q h) hFc (fun r u t H1 locs ht hvm hw hB hz1 hk1 hS => ?_)
      obtain ⟨hP1, hK1, hD1⟩ := hB
      rw [ht] at hP1
      obtain ⟨_, rfl, rfl, rfl⟩ := hw
      obtain ⟨hP, hD⟩ := va_join (wr := []) (w1 := (wMd cI cJ cZ h0 h1 h2 h3 h4 h5 h6 h7 h8 h9 h10 h11 h12 h13 h14 h15 h16 h17 h18 h19 h20 h21 h22 h23 0 no ca ba nl xa sa da la ra fa ta ua uh uo ma mh ml nf fo fh fs rs ic mn bh bo ya np pa nc cp)) hP hD [0, 1, 2, 3, 4, 5, 6, 7, 8, 9, 10, 11, 12, 13, 14, 15, 16, 17, 18, 19, 20, 21, 22, 23] [] rfl rfl (by decide) (by decide) hk1 hFc hP1 hD1
      generalize H1 = H at hP hS ⊢
      have hP : va_P D vwCl (wMd cI cJ cZ h0 h1 h2 h3 h4 h5 h6 h7 h8 h9 h10 h11 h12 h13 h14 h15 h16 h17 h18 h19 h20 h21 h22 h23 0 no ca ba nl xa sa da la ra fa ta ua uh uo ma mh ml nf fo fh fs rs ic mn bh bo ya np pa nc cp) H := hP
      have hD : va_D A (wMd cI cJ cZ h0 h1 h2 h3 h4 h5 h6 h7 h8 h9 h10 h11 h12 h13 h14 h15 h16 h17 h18 h19 h20 h21 h22 h23 0 no ca ba nl xa sa da la ra fa ta ua uh uo ma mh ml nf fo fh fs rs ic mn bh bo ya np pa nc cp) := hD
      refine W.widen (k := 0) (n := 0) (Nat.le_of_ble_eq_true rfl) (Nat.le_of_ble_eq_true rfl) ?_
      refine nv_if_ne (tgt := 28) hx hb d_Md_lamp_23 (by decide) (by decide) (fun _ => ?_) (fun c9 => absurd c9 (by decide))
      refine lv_aload_n hx hb d_Md_lamp_28 rfl (lv_at hl 0 rfl) ?_
      refine va_get (D := D) (ci := 8) (v := .ref h3) (C := "LightDosesModel") (T := T_Md) (N := 32) hx hb hts in_Md hown hK hP 0 rfl rfl 5 (by decide) (hts _ wd_708) (fun _ h9 => h9) rfl d_Md_lamp_29 ?_
      refine lv_aload_n hx hb d_Md_lamp_32 rfl (lv_at hl 0 rfl) ?_
      refine va_get (D := D) (ci := 8) (v := .int (iI nl)) (C := "LightDosesModel") (T := T_Md) (N := 32) hx hb hts in_Md hown hK hP 0 rfl rfl 4 (by decide) (hts _ wd_707) (fun _ h9 => h9) rfl d_Md_lamp_33 ?_
      refine lv_iload_n hx hb d_Md_lamp_36 rfl (lv_at hl 1 rfl) ?_
      obtain ⟨k10, v⟩ := v
      refine nv_iast (f := xa) hx hb hK hP hD hS 3 0 rfl rfl (nl).toNat (Int.toNat_of_nonneg k10.1).symm (by omega) (by decide) d_Md_lamp_37 (fun H locs hP hD hS => ?_)
      have hP : va_P D vwCl (wMd cI cJ cZ h0 h1 h2 h3 h4 h5 h6 h7 h8 h9 h10 h11 h12 h13 h14 h15 h16 h17 h18 h19 h20 h21 h22 h23 0 no ca ba nl (va_up xa (nl).toNat lx) sa da la ra fa ta ua uh uo ma mh ml nf fo fh fs rs ic mn bh bo ya np pa nc cp) H := hP
      have hD : va_D A (wMd cI cJ cZ h0 h1 h2 h3 h4 h5 h6 h7 h8 h9 h10 h11 h12 h13 h14 h15 h16 h17 h18 h19 h20 h21 h22 h23 0 no ca ba nl (va_up xa (nl).toNat lx) sa da la ra fa ta ua uh uo ma mh ml nf fo fh fs rs ic mn bh bo ya np pa nc cp) := hD
      refine lv_aload_n hx hb d_Md_lamp_38 rfl (lv_at hl 0 rfl) ?_
      refine lv_dup hx hb d_Md_lamp_39 rfl ?_
      refine va_get (D := D) (ci := 8) (v := .int (iI nl)) (C := "LightDosesModel") (T := T_Md) (N := 32) hx hb hts in_Md hown hK hP 0 rfl rfl 4 (by decide) (hts _ wd_707) (fun _ h9 => h9) rfl d_Md_lamp_40 ?_
      refine nv_iconst (n := 1) hx hb d_Md_lamp_43 ?_
      refine nv_iadd (z := nl + 1) hx hb d_Md_lamp_44 (by first | rfl | omega) ?_
      refine va_put (D := D) (ci := 8) (v := .int (iI (nl + 1))) (ty := .int) (C := "LightDosesModel") (T := T_Md) (N := 32) hx hb hts in_Md t_Md tok_Md n_Md hown hK hP hD hS 0 rfl rfl 4 (by decide) (hts _ wd_707) (fun _ h9 => h9) rfl (by decide +kernel) rfl rfl (Nat.le_of_ble_eq_true rfl) d_Md_lamp_45 (fun H locs hP hD hS => ?_)
      have hP : va_P D vwCl (wMd cI cJ cZ h0 h1 h2 h3 h4 h5 h6 h7 h8 h9 h10 h11 h12 h13 h14 h15 h16 h17 h18 h19 h20 h21 h22 h23 0 no ca ba (nl + 1) (va_up xa (nl).toNat lx) sa da la ra fa ta ua uh uo ma mh ml nf fo fh fs rs ic mn bh bo ya np pa nc cp) H := hP
      have hD : va_D A (wMd cI cJ cZ h0 h1 h2 h3 h4 h5 h6 h7 h8 h9 h10 h11 h12 h13 h14 h15 h16 h17 h18 h19 h20 h21 h22 h23 0 no ca ba (nl + 1) (va_up xa (nl).toNat lx) sa da la ra fa ta ua uh uo ma mh ml nf fo fh fs rs ic mn bh bo ya np pa nc cp) := hD
      refine lv_aload_n hx hb d_Md_lamp_48 rfl (lv_at hl 0 rfl) ?_
      refine lv_aload_n hx hb d_Md_lamp_49 rfl (lv_at hl 0 rfl) ?_
      refine va_get (D := D) (ci := 8) (v := .int (iI (nl + 1))) (C := "LightDosesModel") (T := T_Md) (N := 32) hx hb hts in_Md hown hK hP 0 rfl rfl 4 (by decide) (hts _ wd_707) (fun _ h9 => h9) rfl d_Md_lamp_50 ?_
      refine nv_iconst (n := 1) hx hb d_Md_lamp_53 ?_
      refine nv_isub (z := nl + 1 - 1) hx hb d_Md_lamp_54 (by first | rfl | omega) ?_
      obtain ⟨P11, q12, v⟩ := v
      have hPc := hP.sub (ws' := (wMd cI cJ cZ h0 h1 h2 h3 h4 h5 h6 h7 h8 h9 h10 h11 h12 h13 h14 h15 h16 h17 h18 h19 h20 h21 h22 h23 0 no ca ba (nl + 1) (va_up xa (nl).toNat lx) sa da la ra fa ta ua uh uo ma mh ml nf fo fh fs rs ic mn bh bo ya np pa nc cp)) [0, 1, 2, 3, 4, 5, 6, 7, 8, 9, 10, 11, 12, 13, 14, 15, 16, 17, 18, 19, 20, 21, 22, 23] rfl
      have hDc := hD.sub (ws' := (wMd cI cJ cZ h0 h1 h2 h3 h4 h5 h6 h7 h8 h9 h10 h11 h12 h13 h14 h15 h16 h17 h18 h19 h20 h21 h22 h23 0 no ca ba (nl + 1) (va_up xa (nl).toNat lx) sa da la ra fa ta ua uh uo ma mh ml nf fo fh fs rs ic mn bh bo ya np pa nc cp)) [0, 1, 2, 3, 4, 5, 6, 7, 8, 9, 10, 11, 12, 13, 14, 15, 16, 17, 18, 19, 20, 21, 22, 23] (by decide) rfl
      have hFc := va_free (wc := (wMd cI cJ cZ h0 h1 h2 h3 h4 h5 h6 h7 h8 h9 h10 h11 h12 h13 h14 h15 h16 h17 h18 h19 h20 h21 h22 h23 0 no ca ba (nl + 1) (va_up xa (nl).toNat lx) sa da la ra fa ta ua uh uo ma mh ml nf fo fh fs rs ic mn bh bo ya np pa nc cp)) hD hS hA [0, 1, 2, 3, 4, 5, 6, 7, 8, 9, 10, 11, 12, 13, 14, 15, 16, 17, 18, 19, 20, 21, 22, 23] rfl
      refine va_callv (va_runV (As := [.int (iI (nl + 1 - 1))]) (rest := []) ⟨hx, hb, hml, hown, hts⟩ (m_Md_light l D cI cJ cO cZ h0 h1 h2 h3 h4 h5 h6 h7 h8 h9 h10 h11 h12 h13 h14 h15 h16 h17 h18 h19 h20 h21 h22 h23 H.size 0 no ca ba (nl + 1) (va_up xa (nl).toNat lx) sa da la ra fa ta ua uh uo ma mh ml nf fo fh fs rs ic mn bh bo ya np pa nc cp (nl + 1 - 1) P11 q12) (nv_cwV (n := 1) hts wd_828 wd_830 sl_18 wd_10 wd_831 (by decide +kernel) ⟨Nat.le_of_ble_eq_true rfl, Nat.le_of_ble_eq_true rfl⟩) ⟨blW, va_recv hK hPc (ci := 8) (q0 := 0) rfl rfl, fun U hU hW => ⟨rfl, by rw [hU], by rw [hU]; exact hPc, va_K.moved hW.alike hK, hDc.weaken (fun _ _ _ _ => trivial)⟩⟩ rfl rfl hl.1 rfl (lv_room (Nat.le_of_ble_eq_true rfl)) d_Md_lamp_55 ⟨Nat.le_of_ble_eq_true rfl, Nat.le_of_ble_eq_true rfl⟩) hS (fun q _ h => hFc q h) hFc (fun u t H1 locs ht hvm hw hB hz1 hk1 hS => ?_)
      obtain ⟨y13, y14⟩ := u
      obtain ⟨hP1, hK1, hD1⟩ := hB
      rw [ht] at hP1
      obtain ⟨hP, hD⟩ := va_join (wr := []) (w1 := (wMd cI cJ cZ h0 h1 h2 h3 h4 h5 h6 h7 h8 h9 h10 h11 h12 h13 h14 h15 h16 h17 h18 h19 h20 h21 h22 h23 0 no ca ba (nl + 1) (va_up xa (nl).toNat lx) sa da y13 ra fa ta ua uh uo ma mh ml nf fo fh fs rs y14 mn bh bo ya np pa nc cp)) hP hD [0, 1, 2, 3, 4, 5, 6, 7, 8, 9, 10, 11, 12, 13, 14, 15, 16, 17, 18, 19, 20, 21, 22, 23] [] rfl rfl (by decide) (by decide) hk1 hFc hP1 hD1
      generalize H1 = H at hP hS ⊢
      have hP : va_P D vwCl (wMd cI cJ cZ h0 h1 h2 h3 h4 h5 h6 h7 h8 h9 h10 h11 h12 h13 h14 h15 h16 h17 h18 h19 h20 h21 h22 h23 0 no ca ba (nl + 1) (va_up xa (nl).toNat lx) sa da y13 ra fa ta ua uh uo ma mh ml nf fo fh fs rs y14 mn bh bo ya np pa nc cp) H := hP
      have hD : va_D A (wMd cI cJ cZ h0 h1 h2 h3 h4 h5 h6 h7 h8 h9 h10 h11 h12 h13 h14 h15 h16 h17 h18 h19 h20 h21 h22 h23 0 no ca ba (nl + 1) (va_up xa (nl).toNat lx) sa da y13 ra fa ta ua uh uo ma mh ml nf fo fh fs rs y14 mn bh bo ya np pa nc cp) := hD
      refine W.widen (k := 0) (n := 0) (Nat.le_of_ble_eq_true rfl) (Nat.le_of_ble_eq_true rfl) ?_
      replace v := v y13 y14 hw
      refine lv_aload_n hx hb d_Md_lamp_58 rfl (lv_at hl 0 rfl) ?_
      refine va_get (D := D) (ci := 8) (v := .int (iI (nl + 1))) (C := "LightDosesModel") (T := T_Md) (N := 32) hx hb hts in_Md hown hK hP 0 rfl rfl 4 (by decide) (hts _ wd_707) (fun _ h9 => h9) rfl d_Md_lamp_59 ?_
      refine nv_iconst (n := 1) hx hb d_Md_lamp_62 ?_
      refine nv_isub (z := nl + 1 - 1) hx hb d_Md_lamp_63 (by first | rfl | omega) ?_
      have hP9 := hP.sub (ws' := (wMd cI cJ cZ h0 h1 h2 h3 h4 h5 h6 h7 h8 h9 h10 h11 h12 h13 h14 h15 h16 h17 h18 h19 h20 h21 h22 h23 0 no ca ba (nl + 1) (va_up xa (nl).toNat lx) sa da y13 ra fa ta ua uh uo ma mh ml nf fo fh fs rs y14 mn bh bo ya np pa nc cp)) [0, 1, 2, 3, 4, 5, 6, 7, 8, 9, 10, 11, 12, 13, 14, 15, 16, 17, 18, 19, 20, 21, 22, 23] rfl
      have hD9 := hD.sub (ws' := (wMd cI cJ cZ h0 h1 h2 h3 h4 h5 h6 h7 h8 h9 h10 h11 h12 h13 h14 h15 h16 h17 h18 h19 h20 h21 h22 h23 0 no ca ba (nl + 1) (va_up xa (nl).toNat lx) sa da y13 ra fa ta ua uh uo ma mh ml nf fo fh fs rs y14 mn bh bo ya np pa nc cp)) [0, 1, 2, 3, 4, 5, 6, 7, 8, 9, 10, 11, 12, 13, 14, 15, 16, 17, 18, 19, 20, 21, 22, 23] (by decide) rfl
      exact W.iret hx hb hr (fun t ht hW => ⟨⟨_, ((0), (va_up xa (nl).toNat lx), (nl + 1), (y13), (y14)), rfl, ⟨_, rfl, v⟩, by rw [ht]; exact hP9, va_K.moved hW.alike hK, hD9⟩, hS.F ht⟩) hS.2.2 d_Md_lamp_64
    · replace v := v.2 c8
      refine nv_iconst (n := 1) hx hb d_Md_lamp_19 ?_
      have hPc := hP.sub (ws' := (wMd cI cJ cZ h0 h1 h2 h3 h4 h5 h6 h7 h8 h9 h10 h11 h12 h13 h14 h15 h16 h17 h18 h19 h20 h21 h22 h23 th no ca ba nl xa sa da la ra fa ta ua uh uo ma mh ml nf fo fh fs rs ic mn bh bo ya np pa nc cp)) [0, 1, 2, 3, 4, 5, 6, 7, 8, 9, 10, 11, 12, 13, 14, 15, 16, 17, 18, 19, 20, 21, 22, 23] rfl
      have hDc := hD.sub (ws' := (wMd cI cJ cZ h0 h1 h2 h3 h4 h5 h6 h7 h8 h9 h10 h11 h12 h13 h14 h15 h16 h17 h18 h19 h20 h21 h22 h23 th no ca ba nl xa sa da la ra fa ta ua uh uo ma mh ml nf fo fh fs rs ic mn bh bo ya np pa nc cp)) [0, 1, 2, 3, 4, 5, 6, 7, 8, 9, 10, 11, 12, 13, 14, 15, 16, 17, 18, 19, 20, 21, 22, 23] (by decide) rfl
      have hFc := va_free (wc := (wMd cI cJ cZ h0 h1 h2 h3 h4 h5 h6 h7 h8 h9 h10 h11 h12 h13 h14 h15 h16 h17 h18 h19 h20 h21 h22 h23 th no ca ba nl xa sa da la ra fa ta ua uh uo ma mh ml nf fo fh fs rs ic mn bh bo ya np pa nc cp)) hD hS hA [0, 1, 2, 3, 4, 5, 6, 7, 8, 9, 10, 11, 12, 13, 14, 15, 16, 17, 18, 19, 20, 21, 22, 23] rfl
      refine va_calli (va_runV (As := [.int (iI 1), .int (iI 0), .int (iI 1)]) (rest := []) ⟨hx, hb, hml, hown, hts⟩ (m_Md_goes l D cI cJ cO cZ h0 h1 h2 h3 h4 h5 h6 h7 h8 h9 h10 h11 h12 h13 h14 h15 h16 h17 h18 h19 h20 h21 h22 h23 H.size th no ca ba nl xa sa da la ra fa ta ua uh uo ma mh ml nf fo fh fs rs ic mn bh bo ya np pa nc cp 1 0 1 (fun z t => z = 0 ∧ t = 2) (s_Md_goes_101 th no ca ba nl xa sa da la ra fa ta ua uh uo ma mh ml nf fo fh fs rs ic mn bh bo ya np pa nc cp)) (nv_cwV (n := 3) hts wd_812 wd_814 sl_17 wd_10 wd_815 (by decide +kernel) ⟨Nat.le_of_ble_eq_true rfl, Nat.le_of_ble_eq_true rfl⟩) ⟨blW, va_recv hK hPc (ci := 8) (q0 := 0) rfl rfl, fun U hU hW => ⟨rfl, by rw [hU], by rw [hU]; exact hPc, va_K.moved hW.alike hK, hDc.weaken (fun _ _ _ _ => trivial)⟩⟩ rfl rfl hl.1 rfl (lv_room (Nat.le_of_ble_eq_true rfl)) d_Md_lamp_20 ⟨Nat.le_of_ble_eq_true rfl, Nat.le_of_ble_eq_true rfl⟩) hS (fun q _ h => hFc q h) hFc (fun r u t H1 locs ht hvm hw hB hz1 hk1 hS => ?_)
      obtain ⟨hP1, hK1, hD1⟩ := hB
      rw [ht] at hP1
      obtain ⟨_, rfl, rfl, rfl⟩ := hw
      obtain ⟨hP, hD⟩ := va_join (wr := []) (w1 := (wMd cI cJ cZ h0 h1 h2 h3 h4 h5 h6 h7 h8 h9 h10 h11 h12 h13 h14 h15 h16 h17 h18 h19 h20 h21 h22 h23 2 no ca ba nl xa sa da la ra fa ta ua uh uo ma mh ml nf fo fh fs rs ic mn bh bo ya np pa nc cp)) hP hD [0, 1, 2, 3, 4, 5, 6, 7, 8, 9, 10, 11, 12, 13, 14, 15, 16, 17, 18, 19, 20, 21, 22, 23] [] rfl rfl (by decide) (by decide) hk1 hFc hP1 hD1
      generalize H1 = H at hP hS ⊢
      have hP : va_P D vwCl (wMd cI cJ cZ h0 h1 h2 h3 h4 h5 h6 h7 h8 h9 h10 h11 h12 h13 h14 h15 h16 h17 h18 h19 h20 h21 h22 h23 2 no ca ba nl xa sa da la ra fa ta ua uh uo ma mh ml nf fo fh fs rs ic mn bh bo ya np pa nc cp) H := hP
      have hD : va_D A (wMd cI cJ cZ h0 h1 h2 h3 h4 h5 h6 h7 h8 h9 h10 h11 h12 h13 h14 h15 h16 h17 h18 h19 h20 h21 h22 h23 2 no ca ba nl xa sa da la ra fa ta ua uh uo ma mh ml nf fo fh fs rs ic mn bh bo ya np pa nc cp) := hD
      refine W.widen (k := 0) (n := 0) (Nat.le_of_ble_eq_true rfl) (Nat.le_of_ble_eq_true rfl) ?_
      refine nv_if_ne (tgt := 28) hx hb d_Md_lamp_23 (by decide) (by decide) (fun c15 => absurd c15 (by decide)) (fun _ => ?_)
      refine nv_iconst (n := 0) hx hb d_Md_lamp_26 ?_
      have hP9 := hP.sub (ws' := (wMd cI cJ cZ h0 h1 h2 h3 h4 h5 h6 h7 h8 h9 h10 h11 h12 h13 h14 h15 h16 h17 h18 h19 h20 h21 h22 h23 2 no ca ba nl xa sa da la ra fa ta ua uh uo ma mh ml nf fo fh fs rs ic mn bh bo ya np pa nc cp)) [0, 1, 2, 3, 4, 5, 6, 7, 8, 9, 10, 11, 12, 13, 14, 15, 16, 17, 18, 19, 20, 21, 22, 23] rfl
      have hD9 := hD.sub (ws' := (wMd cI cJ cZ h0 h1 h2 h3 h4 h5 h6 h7 h8 h9 h10 h11 h12 h13 h14 h15 h16 h17 h18 h19 h20 h21 h22 h23 2 no ca ba nl xa sa da la ra fa ta ua uh uo ma mh ml nf fo fh fs rs ic mn bh bo ya np pa nc cp)) [0, 1, 2, 3, 4, 5, 6, 7, 8, 9, 10, 11, 12, 13, 14, 15, 16, 17, 18, 19, 20, 21, 22, 23] (by decide) rfl
      exact W.iret hx hb hr (fun t ht hW => ⟨⟨_, ((2), (xa), (nl), (la), (ic)), rfl, ⟨_, rfl, v⟩, by rw [ht]; exact hP9, va_K.moved hW.alike hK, hD9⟩, hS.F ht⟩) hS.2.2 d_Md_lamp_27

theorem d_Md_presence_0 : decode prog_10_method_16_code 0 = .ok (.aload_n 0, 1) := by decide +kernel
theorem d_Md_presence_1 : decode prog_10_method_16_code 1 = .ok (.iload_n 1, 1) := by decide +kernel
theorem d_Md_presence_2 : decode prog_10_method_16_code 2 = .ok (.invokevirtual 113, 3) := by decide +kernel
theorem d_Md_presence_5 : decode prog_10_method_16_code 5 = .ok (.ifCond .eq 14, 3) := by decide +kernel
theorem d_Md_presence_8 : decode prog_10_method_16_code 8 = .ok (.iload_n 2, 1) := by decide +kernel
theorem d_Md_presence_9 : decode prog_10_method_16_code 9 = .ok (.invokestatic 119, 3) := by decide +kernel
theorem d_Md_presence_12 : decode prog_10_method_16_code 12 = .ok (.ifCond .eq 7, 3) := by decide +kernel
theorem d_Md_presence_15 : decode prog_10_method_16_code 15 = .ok (.iconst 1, 1) := by decide +kernel
theorem d_Md_presence_16 : decode prog_10_method_16_code 16 = .ok (.goto 4, 3) := by decide +kernel
theorem d_Md_presence_19 : decode prog_10_method_16_code 19 = .ok (.iconst 0, 1) := by decide +kernel
theorem d_Md_presence_20 : decode prog_10_method_16_code 20 = .ok (.istore 4, 2) := by decide +kernel
theorem d_Md_presence_22 : decode prog_10_method_16_code 22 = .ok (.iload 4, 2) := by decide +kernel
theorem d_Md_presence_24 : decode prog_10_method_16_code 24 = .ok (.ifCond .eq 12, 3) := by decide +kernel
theorem d_Md_presence_27 : decode prog_10_method_16_code 27 = .ok (.aload_n 0, 1) := by decide +kernel
theorem d_Md_presence_28 : decode prog_10_method_16_code 28 = .ok (.getfield 38, 3) := by decide +kernel
theorem d_Md_presence_31 : decode prog_10_method_16_code 31 = .ok (.iload_n 1, 1) := by decide +kernel
theorem d_Md_presence_32 : decode prog_10_method_16_code 32 = .ok (.iaload, 1) := by decide +kernel
theorem d_Md_presence_33 : decode prog_10_method_16_code 33 = .ok (.goto 4, 3) := by decide +kernel
theorem d_Md_presence_36 : decode prog_10_method_16_code 36 = .ok (.iconst 0, 1) := by decide +kernel
theorem d_Md_presence_37 : decode prog_10_method_16_code 37 = .ok (.istore 5, 2) := by decide +kernel
theorem d_Md_presence_39 : decode prog_10_method_16_code 39 = .ok (.iconst 0, 1) := by decide +kernel
theorem d_Md_presence_40 : decode prog_10_method_16_code 40 = .ok (.istore 6, 2) := by decide +kernel
theorem d_Md_presence_42 : decode prog_10_method_16_code 42 = .ok (.iload 4, 2) := by decide +kernel
theorem d_Md_presence_44 : decode prog_10_method_16_code 44 = .ok (.ifCond .eq 45, 3) := by decide +kernel
theorem d_Md_presence_47 : decode prog_10_method_16_code 47 = .ok (.iload 6, 2) := by decide +kernel
theorem d_Md_presence_49 : decode prog_10_method_16_code 49 = .ok (.aload_n 0, 1) := by decide +kernel
theorem d_Md_presence_50 : decode prog_10_method_16_code 50 = .ok (.getfield 38, 3) := by decide +kernel
theorem d_Md_presence_53 : decode prog_10_method_16_code 53 = .ok (.iload_n 1, 1) := by decide +kernel
theorem d_Md_presence_54 : decode prog_10_method_16_code 54 = .ok (.iaload, 1) := by decide +kernel
theorem d_Md_presence_55 : decode prog_10_method_16_code 55 = .ok (.if_icmp .ge 34, 3) := by decide +kernel
theorem d_Md_presence_58 : decode prog_10_method_16_code 58 = .ok (.aload_n 0, 1) := by decide +kernel
theorem d_Md_presence_59 : decode prog_10_method_16_code 59 = .ok (.getfield 41, 3) := by decide +kernel
theorem d_Md_presence_62 : decode prog_10_method_16_code 62 = .ok (.bipush 20, 2) := by decide +kernel
theorem d_Md_presence_64 : decode prog_10_method_16_code 64 = .ok (.iload_n 1, 1) := by decide +kernel
theorem d_Md_presence_65 : decode prog_10_method_16_code 65 = .ok (.imul, 1) := by decide +kernel
theorem d_Md_presence_66 : decode prog_10_method_16_code 66 = .ok (.iload 6, 2) := by decide +kernel
theorem d_Md_presence_68 : decode prog_10_method_16_code 68 = .ok (.iadd, 1) := by decide +kernel
theorem d_Md_presence_69 : decode prog_10_method_16_code 69 = .ok (.iaload, 1) := by decide +kernel
theorem d_Md_presence_70 : decode prog_10_method_16_code 70 = .ok (.iload_n 2, 1) := by decide +kernel
theorem d_Md_presence_71 : decode prog_10_method_16_code 71 = .ok (.if_icmp .ne 8, 3) := by decide +kernel
theorem d_Md_presence_74 : decode prog_10_method_16_code 74 = .ok (.iload 6, 2) := by decide +kernel
theorem d_Md_presence_76 : decode prog_10_method_16_code 76 = .ok (.goto 5, 3) := by decide +kernel
theorem d_Md_presence_79 : decode prog_10_method_16_code 79 = .ok (.iload 5, 2) := by decide +kernel
theorem d_Md_presence_81 : decode prog_10_method_16_code 81 = .ok (.istore 5, 2) := by decide +kernel
theorem d_Md_presence_83 : decode prog_10_method_16_code 83 = .ok (.iinc 6 1, 3) := by decide +kernel
theorem d_Md_presence_86 : decode prog_10_method_16_code 86 = .ok (.goto (-44), 3) := by decide +kernel
theorem d_Md_presence_89 : decode prog_10_method_16_code 89 = .ok (.aload_n 0, 1) := by decide +kernel
theorem d_Md_presence_90 : decode prog_10_method_16_code 90 = .ok (.iload 4, 2) := by decide +kernel
theorem d_Md_presence_92 : decode prog_10_method_16_code 92 = .ok (.iload 5, 2) := by decide +kernel
theorem d_Md_presence_94 : decode prog_10_method_16_code 94 = .ok (.bipush 20, 2) := by decide +kernel
theorem d_Md_presence_96 : decode prog_10_method_16_code 96 = .ok (.if_icmp .ge 7, 3) := by decide +kernel
theorem d_Md_presence_99 : decode prog_10_method_16_code 99 = .ok (.iconst 1, 1) := by decide +kernel
theorem d_Md_presence_100 : decode prog_10_method_16_code 100 = .ok (.goto 4, 3) := by decide +kernel
theorem d_Md_presence_103 : decode prog_10_method_16_code 103 = .ok (.iconst 0, 1) := by decide +kernel
theorem d_Md_presence_104 : decode prog_10_method_16_code 104 = .ok (.iconst 1, 1) := by decide +kernel
theorem d_Md_presence_105 : decode prog_10_method_16_code 105 = .ok (.invokevirtual 96, 3) := by decide +kernel
theorem d_Md_presence_108 : decode prog_10_method_16_code 108 = .ok (.ifCond .ne 5, 3) := by decide +kernel
theorem d_Md_presence_111 : decode prog_10_method_16_code 111 = .ok (.iconst 0, 1) := by decide +kernel
theorem d_Md_presence_112 : decode prog_10_method_16_code 112 = .ok (.ireturn, 1) := by decide +kernel
theorem d_Md_presence_113 : decode prog_10_method_16_code 113 = .ok (.aload_n 0, 1) := by decide +kernel
theorem d_Md_presence_114 : decode prog_10_method_16_code 114 = .ok (.getfield 41, 3) := by decide +kernel
theorem d_Md_presence_117 : decode prog_10_method_16_code 117 = .ok (.bipush 20, 2) := by decide +kernel
theorem d_Md_presence_119 : decode prog_10_method_16_code 119 = .ok (.iload_n 1, 1) := by decide +kernel
theorem d_Md_presence_120 : decode prog_10_method_16_code 120 = .ok (.imul, 1) := by decide +kernel
theorem d_Md_presence_121 : decode prog_10_method_16_code 121 = .ok (.iload 5, 2) := by decide +kernel
theorem d_Md_presence_123 : decode prog_10_method_16_code 123 = .ok (.iadd, 1) := by decide +kernel
theorem d_Md_presence_124 : decode prog_10_method_16_code 124 = .ok (.iload_n 2, 1) := by decide +kernel
theorem d_Md_presence_125 : decode prog_10_method_16_code 125 = .ok (.iastore, 1) := by decide +kernel
theorem d_Md_presence_126 : decode prog_10_method_16_code 126 = .ok (.aload_n 0, 1) := by decide +kernel
theorem d_Md_presence_127 : decode prog_10_method_16_code 127 = .ok (.getfield 44, 3) := by decide +kernel
theorem d_Md_presence_130 : decode prog_10_method_16_code 130 = .ok (.bipush 20, 2) := by decide +kernel
theorem d_Md_presence_132 : decode prog_10_method_16_code 132 = .ok (.iload_n 1, 1) := by decide +kernel
theorem d_Md_presence_133 : decode prog_10_method_16_code 133 = .ok (.imul, 1) := by decide +kernel
theorem d_Md_presence_134 : decode prog_10_method_16_code 134 = .ok (.iload 5, 2) := by decide +kernel
theorem d_Md_presence_136 : decode prog_10_method_16_code 136 = .ok (.iadd, 1) := by decide +kernel
theorem d_Md_presence_137 : decode prog_10_method_16_code 137 = .ok (.iload_n 3, 1) := by decide +kernel
theorem d_Md_presence_138 : decode prog_10_method_16_code 138 = .ok (.bastore, 1) := by decide +kernel
theorem d_Md_presence_139 : decode prog_10_method_16_code 139 = .ok (.aload_n 0, 1) := by decide +kernel
theorem d_Md_presence_140 : decode prog_10_method_16_code 140 = .ok (.getfield 38, 3) := by decide +kernel
theorem d_Md_presence_143 : decode prog_10_method_16_code 143 = .ok (.iload_n 1, 1) := by decide +kernel
theorem d_Md_presence_144 : decode prog_10_method_16_code 144 = .ok (.iload 5, 2) := by decide +kernel
theorem d_Md_presence_146 : decode prog_10_method_16_code 146 = .ok (.aload_n 0, 1) := by decide +kernel
theorem d_Md_presence_147 : decode prog_10_method_16_code 147 = .ok (.getfield 38, 3) := by decide +kernel
theorem d_Md_presence_150 : decode prog_10_method_16_code 150 = .ok (.iload_n 1, 1) := by decide +kernel
theorem d_Md_presence_151 : decode prog_10_method_16_code 151 = .ok (.iaload, 1) := by decide +kernel
theorem d_Md_presence_152 : decode prog_10_method_16_code 152 = .ok (.if_icmp .ne 10, 3) := by decide +kernel
theorem d_Md_presence_155 : decode prog_10_method_16_code 155 = .ok (.iload 5, 2) := by decide +kernel
theorem d_Md_presence_157 : decode prog_10_method_16_code 157 = .ok (.iconst 1, 1) := by decide +kernel
theorem d_Md_presence_158 : decode prog_10_method_16_code 158 = .ok (.iadd, 1) := by decide +kernel
theorem d_Md_presence_159 : decode prog_10_method_16_code 159 = .ok (.goto 9, 3) := by decide +kernel
theorem d_Md_presence_162 : decode prog_10_method_16_code 162 = .ok (.aload_n 0, 1) := by decide +kernel
theorem d_Md_presence_163 : decode prog_10_method_16_code 163 = .ok (.getfield 38, 3) := by decide +kernel
theorem d_Md_presence_166 : decode prog_10_method_16_code 166 = .ok (.iload_n 1, 1) := by decide +kernel
theorem d_Md_presence_167 : decode prog_10_method_16_code 167 = .ok (.iaload, 1) := by decide +kernel
theorem d_Md_presence_168 : decode prog_10_method_16_code 168 = .ok (.iastore, 1) := by decide +kernel
theorem d_Md_presence_169 : decode prog_10_method_16_code 169 = .ok (.aload_n 0, 1) := by decide +kernel
theorem d_Md_presence_170 : decode prog_10_method_16_code 170 = .ok (.iload_n 1, 1) := by decide +kernel
theorem d_Md_presence_171 : decode prog_10_method_16_code 171 = .ok (.invokevirtual 109, 3) := by decide +kernel
theorem d_Md_presence_174 : decode prog_10_method_16_code 174 = .ok (.aload_n 0, 1) := by decide +kernel
theorem d_Md_presence_175 : decode prog_10_method_16_code 175 = .ok (.getfield 38, 3) := by decide +kernel
theorem d_Md_presence_178 : decode prog_10_method_16_code 178 = .ok (.iload_n 1, 1) := by decide +kernel
theorem d_Md_presence_179 : decode prog_10_method_16_code 179 = .ok (.iaload, 1) := by decide +kernel
theorem d_Md_presence_180 : decode prog_10_method_16_code 180 = .ok (.ireturn, 1) := by decide +kernel
def vc_Md_presence (th : Int) (no : Int) (ca : Nat → Int) (ba : Nat → Int) (nl : Int) (xa : Nat → Int) (sa : Nat → Int) (da : Nat → Int) (la : Nat → Int) (ra : Nat → Int) (fa : Nat → Int) (ta : Nat → Int) (ua : Nat → Int) (uh : Nat → Int) (uo : Nat → Int) (ma : Nat → Int) (mh : Nat → Int) (ml : Nat → Int) (nf : Int) (fo : Nat → Int) (fh : Nat → Int) (fs : Nat → Int) (rs : Int) (ic : Int) (mn : Int) (bh : Nat → Int) (bo : Nat → Int) (ya : Nat → Int) (np : Int) (pa : Nat → Int) (nc : Int) (cp : Nat → Int) (lp : Int) (hour : Int) (on : Int) (post : Int → Int → (Nat → Int) → (Nat → Int) → (Nat → Int) → (Nat → Int) → Int → Prop) : Prop := (r32 lp) ∧ ((r32 nl) ∧ (((0 ≤ lp ∧ lp < nl) → (r32 hour) ∧ (((0 ≤ hour ∧ hour < 26280) → (0 ≤ lp ∧ lp < 8) ∧ (∃ (I10 : Int → Int → Prop) (μ11 : Int → Int → Nat), I10 (ua (lp).toNat) 0 ∧ ∀ (at_ : Int) (k : Int), I10 at_ k → (0 ≤ lp ∧ lp < 8) ∧ ((r32 k) ∧ ((r32 (ua (lp).toNat)) ∧ ((ua (lp).toNat ≤ k → (r32 at_) ∧ ((20 ≤ at_ → post 0 2 uh uo ua la ic) ∧ (at_ < 20 → (0 ≤ 20 * lp + at_ ∧ 20 * lp + at_ < 160) ∧ (((0 ≤ 20 * lp + at_ ∧ 20 * lp + at_ < 160) ∧ (on = 0 ∨ on = 1)) ∧ ((0 ≤ lp ∧ lp < 8) ∧ ((¬ at_ = ua (lp).toNat → (0 ≤ lp ∧ lp < 8) ∧ ((0 ≤ lp ∧ lp < 8) ∧ (∃ P29 : (Nat → Int) → Int → Prop, vc_Md_light 0 no ca ba nl xa sa da la ra fa ta (va_up ua (lp).toNat (ua (lp).toNat)) (va_up uh (20 * lp + at_).toNat hour) (va_up uo (20 * lp + at_).toNat on) ma mh ml nf fo fh fs rs ic mn bh bo ya np pa nc cp lp P29 ∧ ∀ (y31 : Nat → Int) (y32 : Int), P29 y31 y32 → (0 ≤ lp ∧ lp < 8) ∧ (post ((va_up ua (lp).toNat (ua (lp).toNat)) (lp).toNat) 0 (va_up uh (20 * lp + at_).toNat hour) (va_up uo (20 * lp + at_).toNat on) (va_up ua (lp).toNat (ua (lp).toNat)) y31 y32)))) ∧ (at_ = ua (lp).toNat → (0 ≤ lp ∧ lp < 8) ∧ (∃ P35 : (Nat → Int) → Int → Prop, vc_Md_light 0 no ca ba nl xa sa da la ra fa ta (va_up ua (lp).toNat (at_ + 1)) (va_up uh (20 * lp + at_).toNat hour) (va_up uo (20 * lp + at_).toNat on) ma mh ml nf fo fh fs rs ic mn bh bo ya np pa nc cp lp P35 ∧ ∀ (y37 : Nat → Int) (y38 : Int), P35 y37 y38 → (0 ≤ lp ∧ lp < 8) ∧ (post ((va_up ua (lp).toNat (at_ + 1)) (lp).toNat) 0 (va_up uh (20 * lp + at_).toNat hour) (va_up uo (20 * lp + at_).toNat on) (va_up ua (lp).toNat (at_ + 1)) y37 y38))))))))) ∧ (k < ua (lp).toNat → (0 ≤ 20 * lp + k ∧ 20 * lp + k < 160) ∧ ((r32 (uh (20 * lp + k).toNat)) ∧ ((¬ uh (20 * lp + k).toNat = hour → I10 at_ (k + 1) ∧ μ11 at_ (k + 1) < μ11 at_ k) ∧ (uh (20 * lp + k).toNat = hour → I10 k (k + 1) ∧ μ11 k (k + 1) < μ11 at_ k))))))))) ∧ (¬ (0 ≤ hour ∧ hour < 26280) → ∃ (I48 : Int → Int → Prop) (μ49 : Int → Int → Nat), I48 0 0 ∧ ∀ (at_ : Int) (k : Int), I48 at_ k → (r32 at_) ∧ ((20 ≤ at_ → post 0 1 uh uo ua la ic) ∧ (at_ < 20 → post 0 1 uh uo ua la ic))))) ∧ (¬ (0 ≤ lp ∧ lp < nl) → ∃ (I62 : Int → Int → Prop) (μ63 : Int → Int → Nat), I62 0 0 ∧ ∀ (at_ : Int) (k : Int), I62 at_ k → (r32 at_) ∧ ((20 ≤ at_ → post 0 1 uh uo ua la ic) ∧ (at_ < 20 → post 0 1 uh uo ua la ic)))))
set_option maxHeartbeats 4000000 in
set_option maxRecDepth 100000 in
theorem m_Md_presence (l : Launch) (D : va_G) (cI cJ cO cZ : ClassId) (h0 h1 h2 h3 h4 h5 h6 h7 h8 h9 h10 h11 h12 h13 h14 h15 h16 h17 h18 h19 h20 h21 h22 h23 : Nat) (sz : Nat) (th : Int) (no : Int) (ca : Nat → Int) (ba : Nat → Int) (nl : Int) (xa : Nat → Int) (sa : Nat → Int) (da : Nat → Int) (la : Nat → Int) (ra : Nat → Int) (fa : Nat → Int) (ta : Nat → Int) (ua : Nat → Int) (uh : Nat → Int) (uo : Nat → Int) (ma : Nat → Int) (mh : Nat → Int) (ml : Nat → Int) (nf : Int) (fo : Nat → Int) (fh : Nat → Int) (fs : Nat → Int) (rs : Int) (ic : Int) (mn : Int) (bh : Nat → Int) (bo : Nat → Int) (ya : Nat → Int) (np : Int) (pa : Nat → Int) (nc : Int) (cp : Nat → Int) (lp : Int) (hour : Int) (on : Int) (post : Int → Int → (Nat → Int) → (Nat → Int) → (Nat → Int) → (Nat → Int) → Int → Prop) (v : vc_Md_presence th no ca ba nl xa sa da la ra fa ta ua uh uo ma mh ml nf fo fh fs rs ic mn bh bo ya np pa nc cp lp hour on post) : Met l ⟨"LightDosesModel", "presence", "(IIZ)I"⟩ (.code ⟨"LightDosesModel", "presence", "(IIZ)I"⟩ prog_10_method_16_code 7 (some .int) :: TG) { frames := 1, cells := 0, slots := 0, locals := 25 } (va_Pc [.ref h0, .int (iI lp), .int (iI hour), .int (iI on)] (fun U => U.heap.size = sz ∧ va_P D vwCl (wMd cI cJ cZ h0 h1 h2 h3 h4 h5 h6 h7 h8 h9 h10 h11 h12 h13 h14 h15 h16 h17 h18 h19 h20 h21 h22 h23 th no ca ba nl xa sa da la ra fa ta ua uh uo ma mh ml nf fo fh fs rs ic mn bh bo ya np pa nc cp) U.heap ∧ va_K D vwCl (tyx cI cJ cO cZ) U ∧ va_D (fun _ => True) (wMd cI cJ cZ h0 h1 h2 h3 h4 h5 h6 h7 h8 h9 h10 h11 h12 h13 h14 h15 h16 h17 h18 h19 h20 h21 h22 h23 th no ca ba nl xa sa da la ra fa ta ua uh uo ma mh ml nf fo fh fs rs ic mn bh bo ya np pa nc cp))) (va_Qi (fun (r : Int32) (u : Int × (Nat → Int) × (Nat → Int) × (Nat → Int) × (Nat → Int) × Int) => ∃ z : Int, r = iI z ∧ post z u.1 u.2.1 u.2.2.1 u.2.2.2.1 u.2.2.2.2.1 u.2.2.2.2.2) (fun u t => va_P D vwCl (wMd cI cJ cZ h0 h1 h2 h3 h4 h5 h6 h7 h8 h9 h10 h11 h12 h13 h14 h15 h16 h17 h18 h19 h20 h21 h22 h23 u.1 no ca ba nl xa sa da u.2.2.2.2.1 ra fa ta u.2.2.2.1 u.2.1 u.2.2.1 ma mh ml nf fo fh fs rs u.2.2.2.2.2 mn bh bo ya np pa nc cp) t.heap ∧ va_K D vwCl (tyx cI cJ cO cZ) t ∧ va_D (va_A (wMd cI cJ cZ h0 h1 h2 h3 h4 h5 h6 h7 h8 h9 h10 h11 h12 h13 h14 h15 h16 h17 h18 h19 h20 h21 h22 h23 th no ca ba nl xa sa da la ra fa ta ua uh uo ma mh ml nf fo fh fs rs ic mn bh bo ya np pa nc cp) sz) (wMd cI cJ cZ h0 h1 h2 h3 h4 h5 h6 h7 h8 h9 h10 h11 h12 h13 h14 h15 h16 h17 h18 h19 h20 h21 h22 h23 u.1 no ca ba nl xa sa da u.2.2.2.2.1 ra fa ta u.2.2.2.1 u.2.1 u.2.2.1 ma mh ml nf fo fh fs rs u.2.2.2.2.2 mn bh bo ya np pa nc cp)) (va_A (wMd cI cJ cZ h0 h1 h2 h3 h4 h5 h6 h7 h8 h9 h10 h11 h12 h13 h14 h15 h16 h17 h18 h19 h20 h21 h22 h23 th no ca ba nl xa sa da la ra fa ta ua uh uo ma mh ml nf fo fh fs rs ic mn bh bo ya np pa nc cp) sz)) 0 0 (va_A (wMd cI cJ cZ h0 h1 h2 h3 h4 h5 h6 h7 h8 h9 h10 h11 h12 h13 h14 h15 h16 h17 h18 h19 h20 h21 h22 h23 th no ca ba nl xa sa da la ra fa ta ua uh uo ma mh ml nf fo fh fs rs ic mn bh bo ya np pa nc cp) sz) := by
  refine Met.ofW (cc := prog_10_method_16_code) (maxL := 7) (ret := (some .int)) (by decide) rfl ?_
  intro p e s m args below meth c s₁ B hml hv
  obtain ⟨rfl, hsz, hP, hK, hD0⟩ := hv
  have hx := B.exec
  have hb := B.bytes
  have hr := B.returns
  have hts0 := atoms_spec (ws := (.code ⟨"LightDosesModel", "presence", "(IIZ)I"⟩ prog_10_method_16_code 7 (some .int) :: TG)) B.pre
  have hts : ∀ w ∈ TG, w.before _ s = true := fun w h => hts0 w (List.mem_cons_of_mem _ h)
  have hown : s.vm.findClass "LightDosesModel" = some m.cls := findClass_of_methodNamed B.named
  have hlocks := B.notSynchronized
  subst hsz
  have hD := hD0.self (sz := s.heap.size)
  generalize hAe : va_A (wMd cI cJ cZ h0 h1 h2 h3 h4 h5 h6 h7 h8 h9 h10 h11 h12 h13 h14 h15 h16 h17 h18 h19 h20 h21 h22 h23 th no ca ba nl xa sa da la ra fa ta ua uh uo ma mh ml nf fo fh fs rs ic mn bh bo ya np pa nc cp) s.heap.size = A at hD ⊢
  have hA : ∀ q : Nat, s.heap.size ≤ q → A q := fun q h => by rw [← hAe]; exact Or.inr h
  have hS : va_S A s.heap s.heap [] := va_S.rf
  have hP : va_P D vwCl (wMd cI cJ cZ h0 h1 h2 h3 h4 h5 h6 h7 h8 h9 h10 h11 h12 h13 h14 h15 h16 h17 h18 h19 h20 h21 h22 h23 th no ca ba nl xa sa da la ra fa ta ua uh uo ma mh ml nf fo fh fs rs ic mn bh bo ya np pa nc cp) s.heap := hP
  have hl := lv_entry ([Value.ref h0, Value.int (iI lp), Value.int (iI hour), Value.int (iI on)]) (n := 7) (Nat.le_of_ble_eq_true rfl)
  rw [lg_entry_eq]
  generalize (lg_sl ([Value.ref h0, Value.int (iI lp), Value.int (iI hour), Value.int (iI on)]) ++ List.replicate (7 - (lg_sl ([Value.ref h0, Value.int (iI lp), Value.int (iI hour), Value.int (iI on)])).length) Slot.unset).toArray = ls at hl ⊢
  have hl : lv_has ls 7 [(0, .ref h0), (1, .int (iI lp)), (2, .int (iI hour)), (3, .int (iI on))] := hl
  unfold vc_Md_presence at v
  obtain ⟨H, hH⟩ : ∃ H, H = s.heap := ⟨_, rfl⟩
  obtain ⟨locs, hlc⟩ : ∃ L : List Loc, L = [] := ⟨_, rfl⟩
  rw [← hlc] at hS ⊢
  have hP : va_P D vwCl (wMd cI cJ cZ h0 h1 h2 h3 h4 h5 h6 h7 h8 h9 h10 h11 h12 h13 h14 h15 h16 h17 h18 h19 h20 h21 h22 h23 th no ca ba nl xa sa da la ra fa ta ua uh uo ma mh ml nf fo fh fs rs ic mn bh bo ya np pa nc cp) H := by rw [hH]; exact hP
  have hS : va_S A s.heap H locs := by rw [hH]; exact hS
  have hW0 : ∀ {X : Heap → Prop}, X H → X s.heap := fun h => by rw [← hH]; exact h
  refine hW0 (X := fun Z => W p l e _ s m _ below meth c Z locs 0 0 _ _) ?_
  refine lv_aload_n hx hb d_Md_presence_0 rfl (lv_at hl 0 rfl) ?_
  refine lv_iload_n hx hb d_Md_presence_1 rfl (lv_at hl 1 rfl) ?_
  obtain ⟨k1, v⟩ := v
  obtain ⟨k2, v⟩ := v
  refine vp_callSi (nv_runV (wc := (wMd cI cJ cZ h0 h1 h2 h3 h4 h5 h6 h7 h8 h9 h10 h11 h12 h13 h14 h15 h16 h17 h18 h19 h20 h21 h22 h23 th no ca ba nl xa sa da la ra fa ta ua uh uo ma mh ml nf fo fh fs rs ic mn bh bo ya np pa nc cp)) (As := [.int (iI lp)]) (rest := []) ⟨hx, hb, hml, hown, hts⟩ (m_Md_isLamp l D cI cJ cO cZ h0 h1 h2 h3 h4 h5 h6 h7 h8 h9 h10 h11 h12 h13 h14 h15 h16 h17 h18 h19 h20 h21 h22 h23 th no ca ba nl xa sa da la ra fa ta ua uh uo ma mh ml nf fo fh fs rs ic mn bh bo ya np pa nc cp lp (fun z => (z = 1 ∧ (0 ≤ lp ∧ lp < nl)) ∨ (z = 0 ∧ ¬ (0 ≤ lp ∧ lp < nl))) (s_Md_isLamp th no ca ba nl xa sa da la ra fa ta ua uh uo ma mh ml nf fo fh fs rs ic mn bh bo ya np pa nc cp lp k1 k2)) (nv_cwV (n := 1) hts wd_836 wd_838 sl_19 wd_10 wd_839 (by decide +kernel) ⟨Nat.le_of_ble_eq_true rfl, Nat.le_of_ble_eq_true rfl⟩) hK (hP.sub [0, 1, 2, 3, 4, 5, 6, 7, 8, 9, 10, 11, 12, 13, 14, 15, 16, 17, 18, 19, 20, 21, 22, 23] rfl) (va_recv hK hP (ci := 8) (q0 := 0) rfl rfl) rfl hl.1 rfl (Nat.le_of_ble_eq_true rfl) d_Md_presence_2 (Nat.le_of_ble_eq_true rfl) (Nat.le_of_ble_eq_true rfl)) (fun r hr => ?_)
  rcases hr with ⟨_, rfl, ⟨rfl, c3⟩ | ⟨rfl, c3⟩⟩
  · replace v := v.1 c3
    refine nv_if_eq (tgt := 19) hx hb d_Md_presence_5 (by decide) (by decide) (fun c4 => absurd c4 (by decide)) (fun _ => ?_)
    refine lv_iload_n hx hb d_Md_presence_8 rfl (lv_at hl 2 rfl) ?_
    obtain ⟨k5, v⟩ := v
    refine vp_callSi (nv_runS (wc := []) (As := [.int (iI hour)]) (rest := []) ⟨hx, hb, hml, hown, hts⟩ (m_Md_isHour l D cI cJ cO cZ hour (fun z => (z = 1 ∧ (0 ≤ hour ∧ hour < 26280)) ∨ (z = 0 ∧ ¬ (0 ≤ hour ∧ hour < 26280))) (s_Md_isHour hour k5)) (nv_cwS (n := 1) hts wd_852 wd_853 wd_10 wd_854 (by decide +kernel) ⟨Nat.le_of_ble_eq_true rfl, Nat.le_of_ble_eq_true rfl⟩) hK (hP.sub [] rfl) rfl hl.1 rfl (Nat.le_of_ble_eq_true rfl) d_Md_presence_9 (Nat.le_of_ble_eq_true rfl) (Nat.le_of_ble_eq_true rfl)) (fun r hr => ?_)
    rcases hr with ⟨_, rfl, ⟨rfl, c6⟩ | ⟨rfl, c6⟩⟩
    · replace v := v.1 c6
      refine nv_if_eq (tgt := 19) hx hb d_Md_presence_12 (by decide) (by decide) (fun c7 => absurd c7 (by decide)) (fun _ => ?_)
      refine nv_iconst (n := 1) hx hb d_Md_presence_15 ?_
      refine lv_goto (tgt := 20) hx hb d_Md_presence_16 (by decide) ?_
      refine lv_istore (lv' := [(4, .int (iI 1)), (0, .ref h0), (1, .int (iI lp)), (2, .int (iI hour)), (3, .int (iI on))]) hx hb d_Md_presence_20 hl (by decide) rfl (fun ls hl => ?_)
      refine lv_iload hx hb d_Md_presence_22 (lv_at hl 0 rfl) ?_
      refine nv_if_eq (tgt := 36) hx hb d_Md_presence_24 (by decide) (by decide) (fun c8 => absurd c8 (by decide)) (fun _ => ?_)
      refine lv_aload_n hx hb d_Md_presence_27 rfl (lv_at hl 1 rfl) ?_
      refine va_get (D := D) (ci := 8) (v := .ref h10) (C := "LightDosesModel") (T := T_Md) (N := 32) hx hb hts in_Md hown hK hP 0 rfl rfl 12 (by decide) (hts _ wd_715) (fun _ h9 => h9) rfl d_Md_presence_28 ?_
      refine lv_iload_n hx hb d_Md_presence_31 rfl (lv_at hl 2 rfl) ?_
      obtain ⟨k9, v⟩ := v
      refine nv_iald (f := ua) hx hb hK 0 (hP 10 _ rfl) rfl (lp).toNat (Int.toNat_of_nonneg k9.1).symm (by omega) (by decide) d_Md_presence_32 ?_
      refine lv_goto (tgt := 37) hx hb d_Md_presence_33 (by decide) ?_
      refine lv_istore (lv' := [(5, .int (iI (ua (lp).toNat))), (4, .int (iI 1)), (0, .ref h0), (1, .int (iI lp)), (2, .int (iI hour)), (3, .int (iI on))]) hx hb d_Md_presence_37 hl (by decide) rfl (fun ls hl => ?_)
      refine nv_iconst (n := 0) hx hb d_Md_presence_39 ?_
      refine lv_istore (lv' := [(6, .int (iI 0)), (5, .int (iI (ua (lp).toNat))), (4, .int (iI 1)), (0, .ref h0), (1, .int (iI lp)), (2, .int (iI hour)), (3, .int (iI on))]) hx hb d_Md_presence_40 hl (by decide) rfl (fun ls hl => ?_)
      obtain ⟨I10, μ11, v43, v44⟩ := v
      have L45 : ∀ (N : Nat) (at_ : Int) (k : Int) (H : Heap) (locs : List Loc) (ls : Array Slot), μ11 at_ k < N → I10 at_ k → va_P D vwCl (wMd cI cJ cZ h0 h1 h2 h3 h4 h5 h6 h7 h8 h9 h10 h11 h12 h13 h14 h15 h16 h17 h18 h19 h20 h21 h22 h23 th no ca ba nl xa sa da la ra fa ta ua uh uo ma mh ml nf fo fh fs rs ic mn bh bo ya np pa nc cp) H → va_D A (wMd cI cJ cZ h0 h1 h2 h3 h4 h5 h6 h7 h8 h9 h10 h11 h12 h13 h14 h15 h16 h17 h18 h19 h20 h21 h22 h23 th no ca ba nl xa sa da la ra fa ta ua uh uo ma mh ml nf fo fh fs rs ic mn bh bo ya np pa nc cp) → va_S A s.heap H locs → lv_has ls 7 [(0, .ref h0), (1, .int (iI lp)), (2, .int (iI hour)), (3, .int (iI on)), (4, .int (iI 1)), (5, .int (iI at_)), (6, .int (iI k))] → W p l e (headSpec (.code ⟨"LightDosesModel", "presence", "(IIZ)I"⟩ prog_10_method_16_code 7 (some .int) :: TG) { frames := 1, cells := 0, slots := 0, locals := 25 }).room s m ([Value.ref h0, Value.int (iI lp), Value.int (iI hour), Value.int (iI on)] : List Value).toArray below meth c H locs 0 0 (MQ below (va_Qi (fun (r : Int32) (u : Int × (Nat → Int) × (Nat → Int) × (Nat → Int) × (Nat → Int) × Int) => ∃ z : Int, r = iI z ∧ post z u.1 u.2.1 u.2.2.1 u.2.2.2.1 u.2.2.2.2.1 u.2.2.2.2.2) (fun u t => va_P D vwCl (wMd cI cJ cZ h0 h1 h2 h3 h4 h5 h6 h7 h8 h9 h10 h11 h12 h13 h14 h15 h16 h17 h18 h19 h20 h21 h22 h23 u.1 no ca ba nl xa sa da u.2.2.2.2.1 ra fa ta u.2.2.2.1 u.2.1 u.2.2.1 ma mh ml nf fo fh fs rs u.2.2.2.2.2 mn bh bo ya np pa nc cp) t.heap ∧ va_K D vwCl (tyx cI cJ cO cZ) t ∧ va_D A (wMd cI cJ cZ h0 h1 h2 h3 h4 h5 h6 h7 h8 h9 h10 h11 h12 h13 h14 h15 h16 h17 h18 h19 h20 h21 h22 h23 u.1 no ca ba nl xa sa da u.2.2.2.2.1 ra fa ta u.2.2.2.1 u.2.1 u.2.2.1 ma mh ml nf fo fh fs rs u.2.2.2.2.2 mn bh bo ya np pa nc cp)) A) ([Value.ref h0, Value.int (iI lp), Value.int (iI hour), Value.int (iI on)] : List Value).toArray s 0 0 A) (F0 m 42 ls []) := by
        intro N
        induction N with
        | zero => intro at_ k H locs ls hN; exact absurd hN (Nat.not_lt_zero _)
        | succ N ih12 =>
          intro at_ k H locs ls hN13 hI hP hD hS hl
          have v := v44 at_ k hI
          refine lv_iload hx hb d_Md_presence_42 (lv_at hl 4 rfl) ?_
          refine nv_if_eq (tgt := 89) hx hb d_Md_presence_44 (by decide) (by decide) (fun c14 => absurd c14 (by decide)) (fun _ => ?_)
          refine lv_iload hx hb d_Md_presence_47 (lv_at hl 6 rfl) ?_
          refine lv_aload_n hx hb d_Md_presence_49 rfl (lv_at hl 0 rfl) ?_
          refine va_get (D := D) (ci := 8) (v := .ref h10) (C := "LightDosesModel") (T := T_Md) (N := 32) hx hb hts in_Md hown hK hP 0 rfl rfl 12 (by decide) (hts _ wd_715) (fun _ h9 => h9) rfl d_Md_presence_50 ?_
          refine lv_iload_n hx hb d_Md_presence_53 rfl (lv_at hl 1 rfl) ?_
          obtain ⟨k15, v⟩ := v
          refine nv_iald (f := ua) hx hb hK 0 (hP 10 _ rfl) rfl (lp).toNat (Int.toNat_of_nonneg k15.1).symm (by omega) (by decide) d_Md_presence_54 ?_
          obtain ⟨k16, v⟩ := v
          obtain ⟨k17, v⟩ := v
          refine nv_icmp_ge (tgt := 89) hx hb d_Md_presence_55 (by decide) k16 k17 (fun c18 => ?_) (fun c18 => ?_)
          · replace v := v.1 c18
            refine lv_aload_n hx hb d_Md_presence_89 rfl (lv_at hl 0 rfl) ?_
            refine lv_iload hx hb d_Md_presence_90 (lv_at hl 4 rfl) ?_
            refine lv_iload hx hb d_Md_presence_92 (lv_at hl 5 rfl) ?_
            refine nv_bipush (z := 20) hx hb d_Md_presence_94 (by decide) ?_
            obtain ⟨k19, v⟩ := v
            refine nv_icmp_ge (tgt := 103) hx hb d_Md_presence_96 (by decide) k19 (by decide) (fun c20 => ?_) (fun c20 => ?_)
            · replace v := v.1 c20
              refine nv_iconst (n := 0) hx hb d_Md_presence_103 ?_
              refine nv_iconst (n := 1) hx hb d_Md_presence_104 ?_
              have hPc := hP.sub (ws' := (wMd cI cJ cZ h0 h1 h2 h3 h4 h5 h6 h7 h8 h9 h10 h11 h12 h13 h14 h15 h16 h17 h18 h19 h20 h21 h22 h23 th no ca ba nl xa sa da la ra fa ta ua uh uo ma mh ml nf fo fh fs rs ic mn bh bo ya np pa nc cp)) [0, 1, 2, 3, 4, 5, 6, 7, 8, 9, 10, 11, 12, 13, 14, 15, 16, 17, 18, 19, 20, 21, 22, 23] rfl
              have hDc := hD.sub (ws' := (wMd cI cJ cZ h0 h1 h2 h3 h4 h5 h6 h7 h8 h9 h10 h11 h12 h13 h14 h15 h16 h17 h18 h19 h20 h21 h22 h23 th no ca ba nl xa sa da la ra fa ta ua uh uo ma mh ml nf fo fh fs rs ic mn bh bo ya np pa nc cp)) [0, 1, 2, 3, 4, 5, 6, 7, 8, 9, 10, 11, 12, 13, 14, 15, 16, 17, 18, 19, 20, 21, 22, 23] (by decide) rfl
              have hFc := va_free (wc := (wMd cI cJ cZ h0 h1 h2 h3 h4 h5 h6 h7 h8 h9 h10 h11 h12 h13 h14 h15 h16 h17 h18 h19 h20 h21 h22 h23 th no ca ba nl xa sa da la ra fa ta ua uh uo ma mh ml nf fo fh fs rs ic mn bh bo ya np pa nc cp)) hD hS hA [0, 1, 2, 3, 4, 5, 6, 7, 8, 9, 10, 11, 12, 13, 14, 15, 16, 17, 18, 19, 20, 21, 22, 23] rfl
              refine va_calli (va_runV (As := [.int (iI 1), .int (iI 0), .int (iI 1)]) (rest := []) ⟨hx, hb, hml, hown, hts⟩ (m_Md_goes l D cI cJ cO cZ h0 h1 h2 h3 h4 h5 h6 h7 h8 h9 h10 h11 h12 h13 h14 h15 h16 h17 h18 h19 h20 h21 h22 h23 H.size th no ca ba nl xa sa da la ra fa ta ua uh uo ma mh ml nf fo fh fs rs ic mn bh bo ya np pa nc cp 1 0 1 (fun z t => z = 0 ∧ t = 2) (s_Md_goes_101 th no ca ba nl xa sa da la ra fa ta ua uh uo ma mh ml nf fo fh fs rs ic mn bh bo ya np pa nc cp)) (nv_cwV (n := 3) hts wd_812 wd_814 sl_17 wd_10 wd_815 (by decide +kernel) ⟨Nat.le_of_ble_eq_true rfl, Nat.le_of_ble_eq_true rfl⟩) ⟨blW, va_recv hK hPc (ci := 8) (q0 := 0) rfl rfl, fun U hU hW => ⟨rfl, by rw [hU], by rw [hU]; exact hPc, va_K.moved hW.alike hK, hDc.weaken (fun _ _ _ _ => trivial)⟩⟩ rfl rfl hl.1 rfl (lv_room (Nat.le_of_ble_eq_true rfl)) d_Md_presence_105 ⟨Nat.le_of_ble_eq_true rfl, Nat.le_of_ble_eq_true rfl⟩) hS (fun q _ h => hFc q h) hFc (fun r u t H1 locs ht hvm hw hB hz1 hk1 hS => ?_)
              obtain ⟨hP1, hK1, hD1⟩ := hB
              rw [ht] at hP1
              obtain ⟨_, rfl, rfl, rfl⟩ := hw
              obtain ⟨hP, hD⟩ := va_join (wr := []) (w1 := (wMd cI cJ cZ h0 h1 h2 h3 h4 h5 h6 h7 h8 h9 h10 h11 h12 h13 h14 h15 h16 h17 h18 h19 h20 h21 h22 h23 2 no ca ba nl xa sa da la ra fa ta ua uh uo ma mh ml nf fo fh fs rs ic mn bh bo ya np pa nc cp)) hP hD [0, 1, 2, 3, 4, 5, 6, 7, 8, 9, 10, 11, 12, 13, 14, 15, 16, 17, 18, 19, 20, 21, 22, 23] [] rfl rfl (by decide) (by decide) hk1 hFc hP1 hD1
              generalize H1 = H at hP hS ⊢
              have hP : va_P D vwCl (wMd cI cJ cZ h0 h1 h2 h3 h4 h5 h6 h7 h8 h9 h10 h11 h12 h13 h14 h15 h16 h17 h18 h19 h20 h21 h22 h23 2 no ca ba nl xa sa da la ra fa ta ua uh uo ma mh ml nf fo fh fs rs ic mn bh bo ya np pa nc cp) H := hP
              have hD : va_D A (wMd cI cJ cZ h0 h1 h2 h3 h4 h5 h6 h7 h8 h9 h10 h11 h12 h13 h14 h15 h16 h17 h18 h19 h20 h21 h22 h23 2 no ca ba nl xa sa da la ra fa ta ua uh uo ma mh ml nf fo fh fs rs ic mn bh bo ya np pa nc cp) := hD
              refine W.widen (k := 0) (n := 0) (Nat.le_of_ble_eq_true rfl) (Nat.le_of_ble_eq_true rfl) ?_
              refine nv_if_ne (tgt := 113) hx hb d_Md_presence_108 (by decide) (by decide) (fun c21 => absurd c21 (by decide)) (fun _ => ?_)
              refine nv_iconst (n := 0) hx hb d_Md_presence_111 ?_
              have hP9 := hP.sub (ws' := (wMd cI cJ cZ h0 h1 h2 h3 h4 h5 h6 h7 h8 h9 h10 h11 h12 h13 h14 h15 h16 h17 h18 h19 h20 h21 h22 h23 2 no ca ba nl xa sa da la ra fa ta ua uh uo ma mh ml nf fo fh fs rs ic mn bh bo ya np pa nc cp)) [0, 1, 2, 3, 4, 5, 6, 7, 8, 9, 10, 11, 12, 13, 14, 15, 16, 17, 18, 19, 20, 21, 22, 23] rfl
              have hD9 := hD.sub (ws' := (wMd cI cJ cZ h0 h1 h2 h3 h4 h5 h6 h7 h8 h9 h10 h11 h12 h13 h14 h15 h16 h17 h18 h19 h20 h21 h22 h23 2 no ca ba nl xa sa da la ra fa ta ua uh uo ma mh ml nf fo fh fs rs ic mn bh bo ya np pa nc cp)) [0, 1, 2, 3, 4, 5, 6, 7, 8, 9, 10, 11, 12, 13, 14, 15, 16, 17, 18, 19, 20, 21, 22, 23] (by decide) rfl
              exact W.iret hx hb hr (fun t ht hW => ⟨⟨_, ((2), (uh), (uo), (ua), (la), (ic)), rfl, ⟨_, rfl, v⟩, by rw [ht]; exact hP9, va_K.moved hW.alike hK, hD9⟩, hS.F ht⟩) hS.2.2 d_Md_presence_112
            · replace v := v.2 c20
              refine nv_iconst (n := 1) hx hb d_Md_presence_99 ?_
              refine lv_goto (tgt := 104) hx hb d_Md_presence_100 (by decide) ?_
              refine nv_iconst (n := 1) hx hb d_Md_presence_104 ?_
              have hPc := hP.sub (ws' := (wMd cI cJ cZ h0 h1 h2 h3 h4 h5 h6 h7 h8 h9 h10 h11 h12 h13 h14 h15 h16 h17 h18 h19 h20 h21 h22 h23 th no ca ba nl xa sa da la ra fa ta ua uh uo ma mh ml nf fo fh fs rs ic mn bh bo ya np pa nc cp)) [0, 1, 2, 3, 4, 5, 6, 7, 8, 9, 10, 11, 12, 13, 14, 15, 16, 17, 18, 19, 20, 21, 22, 23] rfl
              have hDc := hD.sub (ws' := (wMd cI cJ cZ h0 h1 h2 h3 h4 h5 h6 h7 h8 h9 h10 h11 h12 h13 h14 h15 h16 h17 h18 h19 h20 h21 h22 h23 th no ca ba nl xa sa da la ra fa ta ua uh uo ma mh ml nf fo fh fs rs ic mn bh bo ya np pa nc cp)) [0, 1, 2, 3, 4, 5, 6, 7, 8, 9, 10, 11, 12, 13, 14, 15, 16, 17, 18, 19, 20, 21, 22, 23] (by decide) rfl
              have hFc := va_free (wc := (wMd cI cJ cZ h0 h1 h2 h3 h4 h5 h6 h7 h8 h9 h10 h11 h12 h13 h14 h15 h16 h17 h18 h19 h20 h21 h22 h23 th no ca ba nl xa sa da la ra fa ta ua uh uo ma mh ml nf fo fh fs rs ic mn bh bo ya np pa nc cp)) hD hS hA [0, 1, 2, 3, 4, 5, 6, 7, 8, 9, 10, 11, 12, 13, 14, 15, 16, 17, 18, 19, 20, 21, 22, 23] rfl
              refine va_calli (va_runV (As := [.int (iI 1), .int (iI 1), .int (iI 1)]) (rest := []) ⟨hx, hb, hml, hown, hts⟩ (m_Md_goes l D cI cJ cO cZ h0 h1 h2 h3 h4 h5 h6 h7 h8 h9 h10 h11 h12 h13 h14 h15 h16 h17 h18 h19 h20 h21 h22 h23 H.size th no ca ba nl xa sa da la ra fa ta ua uh uo ma mh ml nf fo fh fs rs ic mn bh bo ya np pa nc cp 1 1 1 (fun z t => z = 1 ∧ t = 0) (s_Md_goes_111 th no ca ba nl xa sa da la ra fa ta ua uh uo ma mh ml nf fo fh fs rs ic mn bh bo ya np pa nc cp)) (nv_cwV (n := 3) hts wd_812 wd_814 sl_17 wd_10 wd_815 (by decide +kernel) ⟨Nat.le_of_ble_eq_true rfl, Nat.le_of_ble_eq_true rfl⟩) ⟨blW, va_recv hK hPc (ci := 8) (q0 := 0) rfl rfl, fun U hU hW => ⟨rfl, by rw [hU], by rw [hU]; exact hPc, va_K.moved hW.alike hK, hDc.weaken (fun _ _ _ _ => trivial)⟩⟩ rfl rfl hl.1 rfl (lv_room (Nat.le_of_ble_eq_true rfl)) d_Md_presence_105 ⟨Nat.le_of_ble_eq_true rfl, Nat.le_of_ble_eq_true rfl⟩) hS (fun q _ h => hFc q h) hFc (fun r u t H1 locs ht hvm hw hB hz1 hk1 hS => ?_)
              obtain ⟨hP1, hK1, hD1⟩ := hB
              rw [ht] at hP1
              obtain ⟨_, rfl, rfl, rfl⟩ := hw
              obtain ⟨hP, hD⟩ := va_join (wr := []) (w1 := (wMd cI cJ cZ h0 h1 h2 h3 h4 h5 h6 h7 h8 h9 h10 h11 h12 h13 h14 h15 h16 h17 h18 h19 h20 h21 h22 h23 0 no ca ba nl xa sa da la ra fa ta ua uh uo ma mh ml nf fo fh fs rs ic mn bh bo ya np pa nc cp)) hP hD [0, 1, 2, 3, 4, 5, 6, 7, 8, 9, 10, 11, 12, 13, 14, 15, 16, 17, 18, 19, 20, 21, 22, 23] [] rfl rfl (by decide) (by decide) hk1 hFc hP1 hD1
              generalize H1 = H at hP hS ⊢
              have hP : va_P D vwCl (wMd cI cJ cZ h0 h1 h2 h3 h4 h5 h6 h7 h8 h9 h10 h11 h12 h13 h14 h15 h16 h17 h18 h19 h20 h21 h22 h23 0 no ca ba nl xa sa da la ra fa ta ua uh uo ma mh ml nf fo fh fs rs ic mn bh bo ya np pa nc cp) H := hP
              have hD : va_D A (wMd cI cJ cZ h0 h1 h2 h3 h4 h5 h6 h7 h8 h9 h10 h11 h12 h13 h14 h15 h16 h17 h18 h19 h20 h21 h22 h23 0 no ca ba nl xa sa da la ra fa ta ua uh uo ma mh ml nf fo fh fs rs ic mn bh bo ya np pa nc cp) := hD
              refine W.widen (k := 0) (n := 0) (Nat.le_of_ble_eq_true rfl) (Nat.le_of_ble_eq_true rfl) ?_
              refine nv_if_ne (tgt := 113) hx hb d_Md_presence_108 (by decide) (by decide) (fun _ => ?_) (fun c22 => absurd c22 (by decide))
              refine lv_aload_n hx hb d_Md_presence_113 rfl (lv_at hl 0 rfl) ?_
              refine va_get (D := D) (ci := 8) (v := .ref h11) (C := "LightDosesModel") (T := T_Md) (N := 32) hx hb hts in_Md hown hK hP 0 rfl rfl 13 (by decide) (hts _ wd_716) (fun _ h9 => h9) rfl d_Md_presence_114 ?_
              refine nv_bipush (z := 20) hx hb d_Md_presence_117 (by decide) ?_
              refine lv_iload_n hx hb d_Md_presence_119 rfl (lv_at hl 1 rfl) ?_
              refine nv_imul (z := 20 * lp) hx hb d_Md_presence_120 (by first | rfl | omega) ?_
              refine lv_iload hx hb d_Md_presence_121 (lv_at hl 5 rfl) ?_
              refine nv_iadd (z := 20 * lp + at_) hx hb d_Md_presence_123 (by first | rfl | omega) ?_
              refine lv_iload_n hx hb d_Md_presence_124 rfl (lv_at hl 2 rfl) ?_
              obtain ⟨k23, v⟩ := v
              refine nv_iast (f := uh) hx hb hK hP hD hS 11 0 rfl rfl (20 * lp + at_).toNat (Int.toNat_of_nonneg k23.1).symm (by omega) (by decide) d_Md_presence_125 (fun H locs hP hD hS => ?_)
              have hP : va_P D vwCl (wMd cI cJ cZ h0 h1 h2 h3 h4 h5 h6 h7 h8 h9 h10 h11 h12 h13 h14 h15 h16 h17 h18 h19 h20 h21 h22 h23 0 no ca ba nl xa sa da la ra fa ta ua (va_up uh (20 * lp + at_).toNat hour) uo ma mh ml nf fo fh fs rs ic mn bh bo ya np pa nc cp) H := hP
              have hD : va_D A (wMd cI cJ cZ h0 h1 h2 h3 h4 h5 h6 h7 h8 h9 h10 h11 h12 h13 h14 h15 h16 h17 h18 h19 h20 h21 h22 h23 0 no ca ba nl xa sa da la ra fa ta ua (va_up uh (20 * lp + at_).toNat hour) uo ma mh ml nf fo fh fs rs ic mn bh bo ya np pa nc cp) := hD
              refine lv_aload_n hx hb d_Md_presence_126 rfl (lv_at hl 0 rfl) ?_
              refine va_get (D := D) (ci := 8) (v := .ref h12) (C := "LightDosesModel") (T := T_Md) (N := 32) hx hb hts in_Md hown hK hP 0 rfl rfl 14 (by decide) (hts _ wd_717) (fun _ h9 => h9) rfl d_Md_presence_127 ?_
              refine nv_bipush (z := 20) hx hb d_Md_presence_130 (by decide) ?_
              refine lv_iload_n hx hb d_Md_presence_132 rfl (lv_at hl 1 rfl) ?_
              refine nv_imul (z := 20 * lp) hx hb d_Md_presence_133 (by first | rfl | omega) ?_
              refine lv_iload hx hb d_Md_presence_134 (lv_at hl 5 rfl) ?_
              refine nv_iadd (z := 20 * lp + at_) hx hb d_Md_presence_136 (by first | rfl | omega) ?_
              refine lv_iload_n hx hb d_Md_presence_137 rfl (lv_at hl 3 rfl) ?_
              obtain ⟨k24, v⟩ := v
              refine nv_zast (f := uo) hx hb hK hP hD hS 12 3 rfl rfl (20 * lp + at_).toNat (Int.toNat_of_nonneg k24.1.1).symm (by have := k24.1; omega) (by decide) k24.2 d_Md_presence_138 (fun H locs hP hD hS => ?_)
              have hP : va_P D vwCl (wMd cI cJ cZ h0 h1 h2 h3 h4 h5 h6 h7 h8 h9 h10 h11 h12 h13 h14 h15 h16 h17 h18 h19 h20 h21 h22 h23 0 no ca ba nl xa sa da la ra fa ta ua (va_up uh (20 * lp + at_).toNat hour) (va_up uo (20 * lp + at_).toNat on) ma mh ml nf fo fh fs rs ic mn bh bo ya np pa nc cp) H := hP
              have hD : va_D A (wMd cI cJ cZ h0 h1 h2 h3 h4 h5 h6 h7 h8 h9 h10 h11 h12 h13 h14 h15 h16 h17 h18 h19 h20 h21 h22 h23 0 no ca ba nl xa sa da la ra fa ta ua (va_up uh (20 * lp + at_).toNat hour) (va_up uo (20 * lp + at_).toNat on) ma mh ml nf fo fh fs rs ic mn bh bo ya np pa nc cp) := hD
              refine lv_aload_n hx hb d_Md_presence_139 rfl (lv_at hl 0 rfl) ?_
              refine va_get (D := D) (ci := 8) (v := .ref h10) (C := "LightDosesModel") (T := T_Md) (N := 32) hx hb hts in_Md hown hK hP 0 rfl rfl 12 (by decide) (hts _ wd_715) (fun _ h9 => h9) rfl d_Md_presence_140 ?_
              refine lv_iload_n hx hb d_Md_presence_143 rfl (lv_at hl 1 rfl) ?_
              refine lv_iload hx hb d_Md_presence_144 (lv_at hl 5 rfl) ?_
              refine lv_aload_n hx hb d_Md_presence_146 rfl (lv_at hl 0 rfl) ?_
              refine va_get (D := D) (ci := 8) (v := .ref h10) (C := "LightDosesModel") (T := T_Md) (N := 32) hx hb hts in_Md hown hK hP 0 rfl rfl 12 (by decide) (hts _ wd_715) (fun _ h9 => h9) rfl d_Md_presence_147 ?_
              refine lv_iload_n hx hb d_Md_presence_150 rfl (lv_at hl 1 rfl) ?_
              obtain ⟨k25, v⟩ := v
              refine nv_iald (f := ua) hx hb hK 0 (hP 10 _ rfl) rfl (lp).toNat (Int.toNat_of_nonneg k25.1).symm (by omega) (by decide) d_Md_presence_151 ?_
              refine nv_icmp_ne (tgt := 162) hx hb d_Md_presence_152 (by decide) k19 k17 (fun c26 => ?_) (fun c26 => ?_)
              · replace v := v.1 c26
                refine lv_aload_n hx hb d_Md_presence_162 rfl (lv_at hl 0 rfl) ?_
                refine va_get (D := D) (ci := 8) (v := .ref h10) (C := "LightDosesModel") (T := T_Md) (N := 32) hx hb hts in_Md hown hK hP 0 rfl rfl 12 (by decide) (hts _ wd_715) (fun _ h9 => h9) rfl d_Md_presence_163 ?_
                refine lv_iload_n hx hb d_Md_presence_166 rfl (lv_at hl 1 rfl) ?_
                obtain ⟨k27, v⟩ := v
                refine nv_iald (f := ua) hx hb hK 0 (hP 10 _ rfl) rfl (lp).toNat (Int.toNat_of_nonneg k27.1).symm (by omega) (by decide) d_Md_presence_167 ?_
                obtain ⟨k28, v⟩ := v
                refine nv_iast (f := ua) hx hb hK hP hD hS 10 0 rfl rfl (lp).toNat (Int.toNat_of_nonneg k28.1).symm (by omega) (by decide) d_Md_presence_168 (fun H locs hP hD hS => ?_)
                have hP : va_P D vwCl (wMd cI cJ cZ h0 h1 h2 h3 h4 h5 h6 h7 h8 h9 h10 h11 h12 h13 h14 h15 h16 h17 h18 h19 h20 h21 h22 h23 0 no ca ba nl xa sa da la ra fa ta (va_up ua (lp).toNat (ua (lp).toNat)) (va_up uh (20 * lp + at_).toNat hour) (va_up uo (20 * lp + at_).toNat on) ma mh ml nf fo fh fs rs ic mn bh bo ya np pa nc cp) H := hP
                have hD : va_D A (wMd cI cJ cZ h0 h1 h2 h3 h4 h5 h6 h7 h8 h9 h10 h11 h12 h13 h14 h15 h16 h17 h18 h19 h20 h21 h22 h23 0 no ca ba nl xa sa da la ra fa ta (va_up ua (lp).toNat (ua (lp).toNat)) (va_up uh (20 * lp + at_).toNat hour) (va_up uo (20 * lp + at_).toNat on) ma mh ml nf fo fh fs rs ic mn bh bo ya np pa nc cp) := hD
                refine lv_aload_n hx hb d_Md_presence_169 rfl (lv_at hl 0 rfl) ?_
                refine lv_iload_n hx hb d_Md_presence_170 rfl (lv_at hl 1 rfl) ?_
                obtain ⟨P29, q30, v⟩ := v
                have hPc := hP.sub (ws' := (wMd cI cJ cZ h0 h1 h2 h3 h4 h5 h6 h7 h8 h9 h10 h11 h12 h13 h14 h15 h16 h17 h18 h19 h20 h21 h22 h23 0 no ca ba nl xa sa da la ra fa ta (va_up ua (lp).toNat (ua (lp).toNat)) (va_up uh (20 * lp + at_).toNat hour) (va_up uo (20 * lp + at_).toNat on) ma mh ml nf fo fh fs rs ic mn bh bo ya np pa nc cp)) [0, 1, 2, 3, 4, 5, 6, 7, 8, 9, 10, 11, 12, 13, 14, 15, 16, 17, 18, 19, 20, 21, 22, 23] rfl
                have hDc := hD.sub (ws' := (wMd cI cJ cZ h0 h1 h2 h3 h4 h5 h6 h7 h8 h9 h10 h11 h12 h13 h14 h15 h16 h17 h18 h19 h20 h21 h22 h23 0 no ca ba nl xa sa da la ra fa ta (va_up ua (lp).toNat (ua (lp).toNat)) (va_up uh (20 * lp + at_).toNat hour) (va_up uo (20 * lp + at_).toNat on) ma mh ml nf fo fh fs rs ic mn bh bo ya np pa nc cp)) [0, 1, 2, 3, 4, 5, 6, 7, 8, 9, 10, 11, 12, 13, 14, 15, 16, 17, 18, 19, 20, 21, 22, 23] (by decide) rfl
                have hFc := va_free (wc := (wMd cI cJ cZ h0 h1 h2 h3 h4 h5 h6 h7 h8 h9 h10 h11 h12 h13 h14 h15 h16 h17 h18 h19 h20 h21 h22 h23 0 no ca ba nl xa sa da la ra fa ta (va_up ua (lp).toNat (ua (lp).toNat)) (va_up uh (20 * lp + at_).toNat hour) (va_up uo (20 * lp + at_).toNat on) ma mh ml nf fo fh fs rs ic mn bh bo ya np pa nc cp)) hD hS hA [0, 1, 2, 3, 4, 5, 6, 7, 8, 9, 10, 11, 12, 13, 14, 15, 16, 17, 18, 19, 20, 21, 22, 23] rfl
                refine va_callv (va_runV (As := [.int (iI lp)]) (rest := []) ⟨hx, hb, hml, hown, hts⟩ (m_Md_light l D cI cJ cO cZ h0 h1 h2 h3 h4 h5 h6 h7 h8 h9 h10 h11 h12 h13 h14 h15 h16 h17 h18 h19 h20 h21 h22 h23 H.size 0 no ca ba nl xa sa da la ra fa ta (va_up ua (lp).toNat (ua (lp).toNat)) (va_up uh (20 * lp + at_).toNat hour) (va_up uo (20 * lp + at_).toNat on) ma mh ml nf fo fh fs rs ic mn bh bo ya np pa nc cp lp P29 q30) (nv_cwV (n := 1) hts wd_828 wd_830 sl_18 wd_10 wd_831 (by decide +kernel) ⟨Nat.le_of_ble_eq_true rfl, Nat.le_of_ble_eq_true rfl⟩) ⟨blW, va_recv hK hPc (ci := 8) (q0 := 0) rfl rfl, fun U hU hW => ⟨rfl, by rw [hU], by rw [hU]; exact hPc, va_K.moved hW.alike hK, hDc.weaken (fun _ _ _ _ => trivial)⟩⟩ rfl rfl hl.1 rfl (lv_room (Nat.le_of_ble_eq_true rfl)) d_Md_presence_171 ⟨Nat.le_of_ble_eq_true rfl, Nat.le_of_ble_eq_true rfl⟩) hS (fun q _ h => hFc q h) hFc (fun u t H1 locs ht hvm hw hB hz1 hk1 hS => ?_)
                obtain ⟨y31, y32⟩ := u
                obtain ⟨hP1, hK1, hD1⟩ := hB
                rw [ht] at hP1
                obtain ⟨hP, hD⟩ := va_join (wr := []) (w1 := (wMd cI cJ cZ h0 h1 h2 h3 h4 h5 h6 h7 h8 h9 h10 h11 h12 h13 h14 h15 h16 h17 h18 h19 h20 h21 h22 h23 0 no ca ba nl xa sa da y31 ra fa ta (va_up ua (lp).toNat (ua (lp).toNat)) (va_up uh (20 * lp + at_).toNat hour) (va_up uo (20 * lp + at_).toNat on) ma mh ml nf fo fh fs rs y32 mn bh bo ya np pa nc cp)) hP hD [0, 1, 2, 3, 4, 5, 6, 7, 8, 9, 10, 11, 12, 13, 14, 15, 16, 17, 18, 19, 20, 21, 22, 23] [] rfl rfl (by decide) (by decide) hk1 hFc hP1 hD1
                generalize H1 = H at hP hS ⊢
                have hP : va_P D vwCl (wMd cI cJ cZ h0 h1 h2 h3 h4 h5 h6 h7 h8 h9 h10 h11 h12 h13 h14 h15 h16 h17 h18 h19 h20 h21 h22 h23 0 no ca ba nl xa sa da y31 ra fa ta (va_up ua (lp).toNat (ua (lp).toNat)) (va_up uh (20 * lp + at_).toNat hour) (va_up uo (20 * lp + at_).toNat on) ma mh ml nf fo fh fs rs y32 mn bh bo ya np pa nc cp) H := hP
                have hD : va_D A (wMd cI cJ cZ h0 h1 h2 h3 h4 h5 h6 h7 h8 h9 h10 h11 h12 h13 h14 h15 h16 h17 h18 h19 h20 h21 h22 h23 0 no ca ba nl xa sa da y31 ra fa ta (va_up ua (lp).toNat (ua (lp).toNat)) (va_up uh (20 * lp + at_).toNat hour) (va_up uo (20 * lp + at_).toNat on) ma mh ml nf fo fh fs rs y32 mn bh bo ya np pa nc cp) := hD
                refine W.widen (k := 0) (n := 0) (Nat.le_of_ble_eq_true rfl) (Nat.le_of_ble_eq_true rfl) ?_
                replace v := v y31 y32 hw
                refine lv_aload_n hx hb d_Md_presence_174 rfl (lv_at hl 0 rfl) ?_
                refine va_get (D := D) (ci := 8) (v := .ref h10) (C := "LightDosesModel") (T := T_Md) (N := 32) hx hb hts in_Md hown hK hP 0 rfl rfl 12 (by decide) (hts _ wd_715) (fun _ h9 => h9) rfl d_Md_presence_175 ?_
                refine lv_iload_n hx hb d_Md_presence_178 rfl (lv_at hl 1 rfl) ?_
                obtain ⟨k33, v⟩ := v
                refine nv_iald (f := va_up ua (lp).toNat (ua (lp).toNat)) hx hb hK 0 (hP 10 _ rfl) rfl (lp).toNat (Int.toNat_of_nonneg k33.1).symm (by omega) (by decide) d_Md_presence_179 ?_
                have hP9 := hP.sub (ws' := (wMd cI cJ cZ h0 h1 h2 h3 h4 h5 h6 h7 h8 h9 h10 h11 h12 h13 h14 h15 h16 h17 h18 h19 h20 h21 h22 h23 0 no ca ba nl xa sa da y31 ra fa ta (va_up ua (lp).toNat (ua (lp).toNat)) (va_up uh (20 * lp + at_).toNat hour) (va_up uo (20 * lp + at_).toNat on) ma mh ml nf fo fh fs rs y32 mn bh bo ya np pa nc cp)) [0, 1, 2, 3, 4, 5, 6, 7, 8, 9, 10, 11, 12, 13, 14, 15, 16, 17, 18, 19, 20, 21, 22, 23] rfl
                have hD9 := hD.sub (ws' := (wMd cI cJ cZ h0 h1 h2 h3 h4 h5 h6 h7 h8 h9 h10 h11 h12 h13 h14 h15 h16 h17 h18 h19 h20 h21 h22 h23 0 no ca ba nl xa sa da y31 ra fa ta (va_up ua (lp).toNat (ua (lp).toNat)) (va_up uh (20 * lp + at_).toNat hour) (va_up uo (20 * lp + at_).toNat on) ma mh ml nf fo fh fs rs y32 mn bh bo ya np pa nc cp)) [0, 1, 2, 3, 4, 5, 6, 7, 8, 9, 10, 11, 12, 13, 14, 15, 16, 17, 18, 19, 20, 21, 22, 23] (by decide) rfl
                exact W.iret hx hb hr (fun t ht hW => ⟨⟨_, ((0), (va_up uh (20 * lp + at_).toNat hour), (va_up uo (20 * lp + at_).toNat on), (va_up ua (lp).toNat (ua (lp).toNat)), (y31), (y32)), rfl, ⟨_, rfl, v⟩, by rw [ht]; exact hP9, va_K.moved hW.alike hK, hD9⟩, hS.F ht⟩) hS.2.2 d_Md_presence_180
              · replace v := v.2 c26
                refine lv_iload hx hb d_Md_presence_155 (lv_at hl 5 rfl) ?_
                refine nv_iconst (n := 1) hx hb d_Md_presence_157 ?_
                refine nv_iadd (z := at_ + 1) hx hb d_Md_presence_158 (by first | rfl | omega) ?_
                refine lv_goto (tgt := 168) hx hb d_Md_presence_159 (by decide) ?_
                obtain ⟨k34, v⟩ := v
                refine nv_iast (f := ua) hx hb hK hP hD hS 10 0 rfl rfl (lp).toNat (Int.toNat_of_nonneg k34.1).symm (by omega) (by decide) d_Md_presence_168 (fun H locs hP hD hS => ?_)
                have hP : va_P D vwCl (wMd cI cJ cZ h0 h1 h2 h3 h4 h5 h6 h7 h8 h9 h10 h11 h12 h13 h14 h15 h16 h17 h18 h19 h20 h21 h22 h23 0 no ca ba nl xa sa da la ra fa ta (va_up ua (lp).toNat (at_ + 1)) (va_up uh (20 * lp + at_).toNat hour) (va_up uo (20 * lp + at_).toNat on) ma mh ml nf fo fh fs rs ic mn bh bo ya np pa nc cp) H := hP
                have hD : va_D A (wMd cI cJ cZ h0 h1 h2 h3 h4 h5 h6 h7 h8 h9 h10 h11 h12 h13 h14 h15 h16 h17 h18 h19 h20 h21 h22 h23 0 no ca ba nl xa sa da la ra fa ta (va_up ua (lp).toNat (at_ + 1)) (va_up uh (20 * lp + at_).toNat hour) (va_up uo (20 * lp + at_).toNat on) ma mh ml nf fo fh fs rs ic mn bh bo ya np pa nc cp) := hD
                refine lv_aload_n hx hb d_Md_presence_169 rfl (lv_at hl 0 rfl) ?_
                refine lv_iload_n hx hb d_Md_presence_170 rfl (lv_at hl 1 rfl) ?_
                obtain ⟨P35, q36, v⟩ := v
                have hPc := hP.sub (ws' := (wMd cI cJ cZ h0 h1 h2 h3 h4 h5 h6 h7 h8 h9 h10 h11 h12 h13 h14 h15 h16 h17 h18 h19 h20 h21 h22 h23 0 no ca ba nl xa sa da la ra fa ta (va_up ua (lp).toNat (at_ + 1)) (va_up uh (20 * lp + at_).toNat hour) (va_up uo (20 * lp + at_).toNat on) ma mh ml nf fo fh fs rs ic mn bh bo ya np pa nc cp)) [0, 1, 2, 3, 4, 5, 6, 7, 8, 9, 10, 11, 12, 13, 14, 15, 16, 17, 18, 19, 20, 21, 22, 23] rfl
                have hDc := hD.sub (ws' := (wMd cI cJ cZ h0 h1 h2 h3 h4 h5 h6 h7 h8 h9 h10 h11 h12 h13 h14 h15 h16 h17 h18 h19 h20 h21 h22 h23 0 no ca ba nl xa sa da la ra fa ta (va_up ua (lp).toNat (at_ + 1)) (va_up uh (20 * lp + at_).toNat hour) (va_up uo (20 * lp + at_).toNat on) ma mh ml nf fo fh fs rs ic mn bh bo ya np pa nc cp)) [0, 1, 2, 3, 4, 5, 6, 7, 8, 9, 10, 11, 12, 13, 14, 15, 16, 17, 18, 19, 20, 21, 22, 23] (by decide) rfl
                have hFc := va_free (wc := (wMd cI cJ cZ h0 h1 h2 h3 h4 h5 h6 h7 h8 h9 h10 h11 h12 h13 h14 h15 h16 h17 h18 h19 h20 h21 h22 h23 0 no ca ba nl xa sa da la ra fa ta (va_up ua (lp).toNat (at_ + 1)) (va_up uh (20 * lp + at_).toNat hour) (va_up uo (20 * lp + at_).toNat on) ma mh ml nf fo fh fs rs ic mn bh bo ya np pa nc cp)) hD hS hA [0, 1, 2, 3, 4, 5, 6, 7, 8, 9, 10, 11, 12, 13, 14, 15, 16, 17, 18, 19, 20, 21, 22, 23] rfl
                refine va_callv (va_runV (As := [.int (iI lp)]) (rest := []) ⟨hx, hb, hml, hown, hts⟩ (m_Md_light l D cI cJ cO cZ h0 h1 h2 h3 h4 h5 h6 h7 h8 h9 h10 h11 h12 h13 h14 h15 h16 h17 h18 h19 h20 h21 h22 h23 H.size 0 no ca ba nl xa sa da la ra fa ta (va_up ua (lp).toNat (at_ + 1)) (va_up uh (20 * lp + at_).toNat hour) (va_up uo (20 * lp + at_).toNat on) ma mh ml nf fo fh fs rs ic mn bh bo ya np pa nc cp lp P35 q36) (nv_cwV (n := 1) hts wd_828 wd_830 sl_18 wd_10 wd_831 (by decide +kernel) ⟨Nat.le_of_ble_eq_true rfl, Nat.le_of_ble_eq_true rfl⟩) ⟨blW, va_recv hK hPc (ci := 8) (q0 := 0) rfl rfl, fun U hU hW => ⟨rfl, by rw [hU], by rw [hU]; exact hPc, va_K.moved hW.alike hK, hDc.weaken (fun _ _ _ _ => trivial)⟩⟩ rfl rfl hl.1 rfl (lv_room (Nat.le_of_ble_eq_true rfl)) d_Md_presence_171 ⟨Nat.le_of_ble_eq_true rfl, Nat.le_of_ble_eq_true rfl⟩) hS (fun q _ h => hFc q h) hFc (fun u t H1 locs ht hvm hw hB hz1 hk1 hS => ?_)
                obtain ⟨y37, y38⟩ := u
                obtain ⟨hP1, hK1, hD1⟩ := hB
                rw [ht] at hP1
                obtain ⟨hP, hD⟩ := va_join (wr := []) (w1 := (wMd cI cJ cZ h0 h1 h2 h3 h4 h5 h6 h7 h8 h9 h10 h11 h12 h13 h14 h15 h16 h17 h18 h19 h20 h21 h22 h23 0 no ca ba nl xa sa da y37 ra fa ta (va_up ua (lp).toNat (at_ + 1)) (va_up uh (20 * lp + at_).toNat hour) (va_up uo (20 * lp + at_).toNat on) ma mh ml nf fo fh fs rs y38 mn bh bo ya np pa nc cp)) hP hD [0, 1, 2, 3, 4, 5, 6, 7, 8, 9, 10, 11, 12, 13, 14, 15, 16, 17, 18, 19, 20, 21, 22, 23] [] rfl rfl (by decide) (by decide) hk1 hFc hP1 hD1
                generalize H1 = H at hP hS ⊢
                have hP : va_P D vwCl (wMd cI cJ cZ h0 h1 h2 h3 h4 h5 h6 h7 h8 h9 h10 h11 h12 h13 h14 h15 h16 h17 h18 h19 h20 h21 h22 h23 0 no ca ba nl xa sa da y37 ra fa ta (va_up ua (lp).toNat (at_ + 1)) (va_up uh (20 * lp + at_).toNat hour) (va_up uo (20 * lp + at_).toNat on) ma mh ml nf fo fh fs rs y38 mn bh bo ya np pa nc cp) H := hP
                have hD : va_D A (wMd cI cJ cZ h0 h1 h2 h3 h4 h5 h6 h7 h8 h9 h10 h11 h12 h13 h14 h15 h16 h17 h18 h19 h20 h21 h22 h23 0 no ca ba nl xa sa da y37 ra fa ta (va_up ua (lp).toNat (at_ + 1)) (va_up uh (20 * lp + at_).toNat hour) (va_up uo (20 * lp + at_).toNat on) ma mh ml nf fo fh fs rs y38 mn bh bo ya np pa nc cp) := hD
                refine W.widen (k := 0) (n := 0) (Nat.le_of_ble_eq_true rfl) (Nat.le_of_ble_eq_true rfl) ?_
                replace v := v y37 y38 hw
                refine lv_aload_n hx hb d_Md_presence_174 rfl (lv_at hl 0 rfl) ?_
                refine va_get (D := D) (ci := 8) (v := .ref h10) (C := "LightDosesModel") (T := T_Md) (N := 32) hx hb hts in_Md hown hK hP 0 rfl rfl 12 (by decide) (hts _ wd_715) (fun _ h9 => h9) rfl d_Md_presence_175 ?_
                refine lv_iload_n hx hb d_Md_presence_178 rfl (lv_at hl 1 rfl) ?_
                obtain ⟨k39, v⟩ := v
                refine nv_iald (f := va_up ua (lp).toNat (at_ + 1)) hx hb hK 0 (hP 10 _ rfl) rfl (lp).toNat (Int.toNat_of_nonneg k39.1).symm (by omega) (by decide) d_Md_presence_179 ?_
                have hP9 := hP.sub (ws' := (wMd cI cJ cZ h0 h1 h2 h3 h4 h5 h6 h7 h8 h9 h10 h11 h12 h13 h14 h15 h16 h17 h18 h19 h20 h21 h22 h23 0 no ca ba nl xa sa da y37 ra fa ta (va_up ua (lp).toNat (at_ + 1)) (va_up uh (20 * lp + at_).toNat hour) (va_up uo (20 * lp + at_).toNat on) ma mh ml nf fo fh fs rs y38 mn bh bo ya np pa nc cp)) [0, 1, 2, 3, 4, 5, 6, 7, 8, 9, 10, 11, 12, 13, 14, 15, 16, 17, 18, 19, 20, 21, 22, 23] rfl
                have hD9 := hD.sub (ws' := (wMd cI cJ cZ h0 h1 h2 h3 h4 h5 h6 h7 h8 h9 h10 h11 h12 h13 h14 h15 h16 h17 h18 h19 h20 h21 h22 h23 0 no ca ba nl xa sa da y37 ra fa ta (va_up ua (lp).toNat (at_ + 1)) (va_up uh (20 * lp + at_).toNat hour) (va_up uo (20 * lp + at_).toNat on) ma mh ml nf fo fh fs rs y38 mn bh bo ya np pa nc cp)) [0, 1, 2, 3, 4, 5, 6, 7, 8, 9, 10, 11, 12, 13, 14, 15, 16, 17, 18, 19, 20, 21, 22, 23] (by decide) rfl
                exact W.iret hx hb hr (fun t ht hW => ⟨⟨_, ((0), (va_up uh (20 * lp + at_).toNat hour), (va_up uo (20 * lp + at_).toNat on), (va_up ua (lp).toNat (at_ + 1)), (y37), (y38)), rfl, ⟨_, rfl, v⟩, by rw [ht]; exact hP9, va_K.moved hW.alike hK, hD9⟩, hS.F ht⟩) hS.2.2 d_Md_presence_180
          · replace v := v.2 c18
            refine lv_aload_n hx hb d_Md_presence_58 rfl (lv_at hl 0 rfl) ?_
            refine va_get (D := D) (ci := 8) (v := .ref h11) (C := "LightDosesModel") (T := T_Md) (N := 32) hx hb hts in_Md hown hK hP 0 rfl rfl 13 (by decide) (hts _ wd_716) (fun _ h9 => h9) rfl d_Md_presence_59 ?_
            refine nv_bipush (z := 20) hx hb d_Md_presence_62 (by decide) ?_
            refine lv_iload_n hx hb d_Md_presence_64 rfl (lv_at hl 1 rfl) ?_
            refine nv_imul (z := 20 * lp) hx hb d_Md_presence_65 (by first | rfl | omega) ?_
            refine lv_iload hx hb d_Md_presence_66 (lv_at hl 6 rfl) ?_
            refine nv_iadd (z := 20 * lp + k) hx hb d_Md_presence_68 (by first | rfl | omega) ?_
            obtain ⟨k40, v⟩ := v
            refine nv_iald (f := uh) hx hb hK 0 (hP 11 _ rfl) rfl (20 * lp + k).toNat (Int.toNat_of_nonneg k40.1).symm (by omega) (by decide) d_Md_presence_69 ?_
            refine lv_iload_n hx hb d_Md_presence_70 rfl (lv_at hl 2 rfl) ?_
            obtain ⟨k41, v⟩ := v
            refine nv_icmp_ne (tgt := 79) hx hb d_Md_presence_71 (by decide) k41 k5 (fun c42 => ?_) (fun c42 => ?_)
            · replace v := v.1 c42
              refine lv_iload hx hb d_Md_presence_79 (lv_at hl 5 rfl) ?_
              refine lv_istore (lv' := [(5, .int (iI at_)), (0, .ref h0), (1, .int (iI lp)), (2, .int (iI hour)), (3, .int (iI on)), (4, .int (iI 1)), (6, .int (iI k))]) hx hb d_Md_presence_81 hl (by decide) rfl (fun ls hl => ?_)
              refine nv_iinc (k := 6) (z := k + 1) (lv' := [(6, .int (iI (k + 1))), (5, .int (iI at_)), (0, .ref h0), (1, .int (iI lp)), (2, .int (iI hour)), (3, .int (iI on)), (4, .int (iI 1))]) hx hb d_Md_presence_83 hl rfl (by omega) (by decide) rfl (fun ls hl => ?_)
              refine lv_goto (tgt := 42) hx hb d_Md_presence_86 (by decide) ?_
              exact ih12 at_ (k + 1) H locs ls (Nat.lt_of_lt_of_le v.2 (Nat.le_of_lt_succ hN13)) v.1 hP hD hS (lv_sub hl [2, 3, 4, 5, 6, 1, 0] rfl)
            · replace v := v.2 c42
              refine lv_iload hx hb d_Md_presence_74 (lv_at hl 6 rfl) ?_
              refine lv_goto (tgt := 81) hx hb d_Md_presence_76 (by decide) ?_
              refine lv_istore (lv' := [(5, .int (iI k)), (0, .ref h0), (1, .int (iI lp)), (2, .int (iI hour)), (3, .int (iI on)), (4, .int (iI 1)), (6, .int (iI k))]) hx hb d_Md_presence_81 hl (by decide) rfl (fun ls hl => ?_)
              refine nv_iinc (k := 6) (z := k + 1) (lv' := [(6, .int (iI (k + 1))), (5, .int (iI k)), (0, .ref h0), (1, .int (iI lp)), (2, .int (iI hour)), (3, .int (iI on)), (4, .int (iI 1))]) hx hb d_Md_presence_83 hl rfl (by omega) (by decide) rfl (fun ls hl => ?_)
              refine lv_goto (tgt := 42) hx hb d_Md_presence_86 (by decide) ?_
              exact ih12 k (k + 1) H locs ls (Nat.lt_of_lt_of_le v.2 (Nat.le_of_lt_succ hN13)) v.1 hP hD hS (lv_sub hl [2, 3, 4, 5, 6, 1, 0] rfl)
      exact L45 _ (ua (lp).toNat) 0 H locs ls (Nat.lt_succ_self _) v43 hP hD hS (lv_sub hl [3, 4, 5, 6, 2, 1, 0] rfl)
    · replace v := v.2 c6
      refine nv_if_eq (tgt := 19) hx hb d_Md_presence_12 (by decide) (by decide) (fun _ => ?_) (fun c46 => absurd c46 (by decide))
      refine nv_iconst (n := 0) hx hb d_Md_presence_19 ?_
      refine lv_istore (lv' := [(4, .int (iI 0)), (0, .ref h0), (1, .int (iI lp)), (2, .int (iI hour)), (3, .int (iI on))]) hx hb d_Md_presence_20 hl (by decide) rfl (fun ls hl => ?_)
      refine lv_iload hx hb d_Md_presence_22 (lv_at hl 0 rfl) ?_
      refine nv_if_eq (tgt := 36) hx hb d_Md_presence_24 (by decide) (by decide) (fun _ => ?_) (fun c47 => absurd c47 (by decide))
      refine nv_iconst (n := 0) hx hb d_Md_presence_36 ?_
      refine lv_istore (lv' := [(5, .int (iI 0)), (4, .int (iI 0)), (0, .ref h0), (1, .int (iI lp)), (2, .int (iI hour)), (3, .int (iI on))]) hx hb d_Md_presence_37 hl (by decide) rfl (fun ls hl => ?_)
      refine nv_iconst (n := 0) hx hb d_Md_presence_39 ?_
      refine lv_istore (lv' := [(6, .int (iI 0)), (5, .int (iI 0)), (4, .int (iI 0)), (0, .ref h0), (1, .int (iI lp)), (2, .int (iI hour)), (3, .int (iI on))]) hx hb d_Md_presence_40 hl (by decide) rfl (fun ls hl => ?_)
      obtain ⟨I48, μ49, v57, v58⟩ := v
      have L59 : ∀ (N : Nat) (at_ : Int) (k : Int) (H : Heap) (locs : List Loc) (ls : Array Slot), μ49 at_ k < N → I48 at_ k → va_P D vwCl (wMd cI cJ cZ h0 h1 h2 h3 h4 h5 h6 h7 h8 h9 h10 h11 h12 h13 h14 h15 h16 h17 h18 h19 h20 h21 h22 h23 th no ca ba nl xa sa da la ra fa ta ua uh uo ma mh ml nf fo fh fs rs ic mn bh bo ya np pa nc cp) H → va_D A (wMd cI cJ cZ h0 h1 h2 h3 h4 h5 h6 h7 h8 h9 h10 h11 h12 h13 h14 h15 h16 h17 h18 h19 h20 h21 h22 h23 th no ca ba nl xa sa da la ra fa ta ua uh uo ma mh ml nf fo fh fs rs ic mn bh bo ya np pa nc cp) → va_S A s.heap H locs → lv_has ls 7 [(0, .ref h0), (1, .int (iI lp)), (2, .int (iI hour)), (3, .int (iI on)), (4, .int (iI 0)), (5, .int (iI at_)), (6, .int (iI k))] → W p l e (headSpec (.code ⟨"LightDosesModel", "presence", "(IIZ)I"⟩ prog_10_method_16_code 7 (some .int) :: TG) { frames := 1, cells := 0, slots := 0, locals := 25 }).room s m ([Value.ref h0, Value.int (iI lp), Value.int (iI hour), Value.int (iI on)] : List Value).toArray below meth c H locs 0 0 (MQ below (va_Qi (fun (r : Int32) (u : Int × (Nat → Int) × (Nat → Int) × (Nat → Int) × (Nat → Int) × Int) => ∃ z : Int, r = iI z ∧ post z u.1 u.2.1 u.2.2.1 u.2.2.2.1 u.2.2.2.2.1 u.2.2.2.2.2) (fun u t => va_P D vwCl (wMd cI cJ cZ h0 h1 h2 h3 h4 h5 h6 h7 h8 h9 h10 h11 h12 h13 h14 h15 h16 h17 h18 h19 h20 h21 h22 h23 u.1 no ca ba nl xa sa da u.2.2.2.2.1 ra fa ta u.2.2.2.1 u.2.1 u.2.2.1 ma mh ml nf fo fh fs rs u.2.2.2.2.2 mn bh bo ya np pa nc cp) t.heap ∧ va_K D vwCl (tyx cI cJ cO cZ) t ∧ va_D A (wMd cI cJ cZ h0 h1 h2 h3 h4 h5 h6 h7 h8 h9 h10 h11 h12 h13 h14 h15 h16 h17 h18 h19 h20 h21 h22 h23 u.1 no ca ba nl xa sa da u.2.2.2.2.1 ra fa ta u.2.2.2.1 u.2.1 u.2.2.1 ma mh ml nf fo fh fs rs u.2.2.2.2.2 mn bh bo ya np pa nc cp)) A) ([Value.ref h0, Value.int (iI lp), Value.int (iI hour), Value.int (iI on)] : List Value).toArray s 0 0 A) (F0 m 42 ls []) := by
        intro N
        induction N with
        | zero => intro at_ k H locs ls hN; exact absurd hN (Nat.not_lt_zero _)
        | succ N ih50 =>
          intro at_ k H locs ls hN51 hI hP hD hS hl
          have v := v58 at_ k hI
          refine lv_iload hx hb d_Md_presence_42 (lv_at hl 4 rfl) ?_
          refine nv_if_eq (tgt := 89) hx hb d_Md_presence_44 (by decide) (by decide) (fun _ => ?_) (fun c52 => absurd c52 (by decide))
          refine lv_aload_n hx hb d_Md_presence_89 rfl (lv_at hl 0 rfl) ?_
          refine lv_iload hx hb d_Md_presence_90 (lv_at hl 4 rfl) ?_
          refine lv_iload hx hb d_Md_presence_92 (lv_at hl 5 rfl) ?_
          refine nv_bipush (z := 20) hx hb d_Md_presence_94 (by decide) ?_
          obtain ⟨k53, v⟩ := v
          refine nv_icmp_ge (tgt := 103) hx hb d_Md_presence_96 (by decide) k53 (by decide) (fun c54 => ?_) (fun c54 => ?_)
          · replace v := v.1 c54
            refine nv_iconst (n := 0) hx hb d_Md_presence_103 ?_
            refine nv_iconst (n := 1) hx hb d_Md_presence_104 ?_
            have hPc := hP.sub (ws' := (wMd cI cJ cZ h0 h1 h2 h3 h4 h5 h6 h7 h8 h9 h10 h11 h12 h13 h14 h15 h16 h17 h18 h19 h20 h21 h22 h23 th no ca ba nl xa sa da la ra fa ta ua uh uo ma mh ml nf fo fh fs rs ic mn bh bo ya np pa nc cp)) [0, 1, 2, 3, 4, 5, 6, 7, 8, 9, 10, 11, 12, 13, 14, 15, 16, 17, 18, 19, 20, 21, 22, 23] rfl
            have hDc := hD.sub (ws' := (wMd cI cJ cZ h0 h1 h2 h3 h4 h5 h6 h7 h8 h9 h10 h11 h12 h13 h14 h15 h16 h17 h18 h19 h20 h21 h22 h23 th no ca ba nl xa sa da la ra fa ta ua uh uo ma mh ml nf fo fh fs rs ic mn bh bo ya np pa nc cp)) [0, 1, 2, 3, 4, 5, 6, 7, 8, 9, 10, 11, 12, 13, 14, 15, 16, 17, 18, 19, 20, 21, 22, 23] (by decide) rfl
            have hFc := va_free (wc := (wMd cI cJ cZ h0 h1 h2 h3 h4 h5 h6 h7 h8 h9 h10 h11 h12 h13 h14 h15 h16 h17 h18 h19 h20 h21 h22 h23 th no ca ba nl xa sa da la ra fa ta ua uh uo ma mh ml nf fo fh fs rs ic mn bh bo ya np pa nc cp)) hD hS hA [0, 1, 2, 3, 4, 5, 6, 7, 8, 9, 10, 11, 12, 13, 14, 15, 16, 17, 18, 19, 20, 21, 22, 23] rfl
            refine va_calli (va_runV (As := [.int (iI 0), .int (iI 0), .int (iI 1)]) (rest := []) ⟨hx, hb, hml, hown, hts⟩ (m_Md_goes l D cI cJ cO cZ h0 h1 h2 h3 h4 h5 h6 h7 h8 h9 h10 h11 h12 h13 h14 h15 h16 h17 h18 h19 h20 h21 h22 h23 H.size th no ca ba nl xa sa da la ra fa ta ua uh uo ma mh ml nf fo fh fs rs ic mn bh bo ya np pa nc cp 0 0 1 (fun z t => z = 0 ∧ t = 1) (s_Md_goes_001 th no ca ba nl xa sa da la ra fa ta ua uh uo ma mh ml nf fo fh fs rs ic mn bh bo ya np pa nc cp)) (nv_cwV (n := 3) hts wd_812 wd_814 sl_17 wd_10 wd_815 (by decide +kernel) ⟨Nat.le_of_ble_eq_true rfl, Nat.le_of_ble_eq_true rfl⟩) ⟨blW, va_recv hK hPc (ci := 8) (q0 := 0) rfl rfl, fun U hU hW => ⟨rfl, by rw [hU], by rw [hU]; exact hPc, va_K.moved hW.alike hK, hDc.weaken (fun _ _ _ _ => trivial)⟩⟩ rfl rfl hl.1 rfl (lv_room (Nat.le_of_ble_eq_true rfl)) d_Md_presence_105 ⟨Nat.le_of_ble_eq_true rfl, Nat.le_of_ble_eq_true rfl⟩) hS (fun q _ h => hFc q h) hFc (fun r u t H1 locs ht hvm hw hB hz1 hk1 hS => ?_)
            obtain ⟨hP1, hK1, hD1⟩ := hB
            rw [ht] at hP1
            obtain ⟨_, rfl, rfl, rfl⟩ := hw
            obtain ⟨hP, hD⟩ := va_join (wr := []) (w1 := (wMd cI cJ cZ h0 h1 h2 h3 h4 h5 h6 h7 h8 h9 h10 h11 h12 h13 h14 h15 h16 h17 h18 h19 h20 h21 h22 h23 1 no ca ba nl xa sa da la ra fa ta ua uh uo ma mh ml nf fo fh fs rs ic mn bh bo ya np pa nc cp)) hP hD [0, 1, 2, 3, 4, 5, 6, 7, 8, 9, 10, 11, 12, 13, 14, 15, 16, 17, 18, 19, 20, 21, 22, 23] [] rfl rfl (by decide) (by decide) hk1 hFc hP1 hD1
            generalize H1 = H at hP hS ⊢
            have hP : va_P D vwCl (wMd cI cJ cZ h0 h1 h2 h3 h4 h5 h6 h7 h8 h9 h10 h11 h12 h13 h14 h15 h16 h17 h18 h19 h20 h21 h22 h23 1 no ca ba nl xa sa da la ra fa ta ua uh uo ma mh ml nf fo fh fs rs ic mn bh bo ya np pa nc cp) H := hP
            have hD : va_D A (wMd cI cJ cZ h0 h1 h2 h3 h4 h5 h6 h7 h8 h9 h10 h11 h12 h13 h14 h15 h16 h17 h18 h19 h20 h21 h22 h23 1 no ca ba nl xa sa da la ra fa ta ua uh uo ma mh ml nf fo fh fs rs ic mn bh bo ya np pa nc cp) := hD
            refine W.widen (k := 0) (n := 0) (Nat.le_of_ble_eq_true rfl) (Nat.le_of_ble_eq_true rfl) ?_
            refine nv_if_ne (tgt := 113) hx hb d_Md_presence_108 (by decide) (by decide) (fun c55 => absurd c55 (by decide)) (fun _ => ?_)
            refine nv_iconst (n := 0) hx hb d_Md_presence_111 ?_
            have hP9 := hP.sub (ws' := (wMd cI cJ cZ h0 h1 h2 h3 h4 h5 h6 h7 h8 h9 h10 h11 h12 h13 h14 h15 h16 h17 h18 h19 h20 h21 h22 h23 1 no ca ba nl xa sa da la ra fa ta ua uh uo ma mh ml nf fo fh fs rs ic mn bh bo ya np pa nc cp)) [0, 1, 2, 3, 4, 5, 6, 7, 8, 9, 10, 11, 12, 13, 14, 15, 16, 17, 18, 19, 20, 21, 22, 23] rfl
            have hD9 := hD.sub (ws' := (wMd cI cJ cZ h0 h1 h2 h3 h4 h5 h6 h7 h8 h9 h10 h11 h12 h13 h14 h15 h16 h17 h18 h19 h20 h21 h22 h23 1 no ca ba nl xa sa da la ra fa ta ua uh uo ma mh ml nf fo fh fs rs ic mn bh bo ya np pa nc cp)) [0, 1, 2, 3, 4, 5, 6, 7, 8, 9, 10, 11, 12, 13, 14, 15, 16, 17, 18, 19, 20, 21, 22, 23] (by decide) rfl
            exact W.iret hx hb hr (fun t ht hW => ⟨⟨_, ((1), (uh), (uo), (ua), (la), (ic)), rfl, ⟨_, rfl, v⟩, by rw [ht]; exact hP9, va_K.moved hW.alike hK, hD9⟩, hS.F ht⟩) hS.2.2 d_Md_presence_112
          · replace v := v.2 c54
            refine nv_iconst (n := 1) hx hb d_Md_presence_99 ?_
            refine lv_goto (tgt := 104) hx hb d_Md_presence_100 (by decide) ?_
            refine nv_iconst (n := 1) hx hb d_Md_presence_104 ?_
            have hPc := hP.sub (ws' := (wMd cI cJ cZ h0 h1 h2 h3 h4 h5 h6 h7 h8 h9 h10 h11 h12 h13 h14 h15 h16 h17 h18 h19 h20 h21 h22 h23 th no ca ba nl xa sa da la ra fa ta ua uh uo ma mh ml nf fo fh fs rs ic mn bh bo ya np pa nc cp)) [0, 1, 2, 3, 4, 5, 6, 7, 8, 9, 10, 11, 12, 13, 14, 15, 16, 17, 18, 19, 20, 21, 22, 23] rfl
            have hDc := hD.sub (ws' := (wMd cI cJ cZ h0 h1 h2 h3 h4 h5 h6 h7 h8 h9 h10 h11 h12 h13 h14 h15 h16 h17 h18 h19 h20 h21 h22 h23 th no ca ba nl xa sa da la ra fa ta ua uh uo ma mh ml nf fo fh fs rs ic mn bh bo ya np pa nc cp)) [0, 1, 2, 3, 4, 5, 6, 7, 8, 9, 10, 11, 12, 13, 14, 15, 16, 17, 18, 19, 20, 21, 22, 23] (by decide) rfl
            have hFc := va_free (wc := (wMd cI cJ cZ h0 h1 h2 h3 h4 h5 h6 h7 h8 h9 h10 h11 h12 h13 h14 h15 h16 h17 h18 h19 h20 h21 h22 h23 th no ca ba nl xa sa da la ra fa ta ua uh uo ma mh ml nf fo fh fs rs ic mn bh bo ya np pa nc cp)) hD hS hA [0, 1, 2, 3, 4, 5, 6, 7, 8, 9, 10, 11, 12, 13, 14, 15, 16, 17, 18, 19, 20, 21, 22, 23] rfl
            refine va_calli (va_runV (As := [.int (iI 0), .int (iI 1), .int (iI 1)]) (rest := []) ⟨hx, hb, hml, hown, hts⟩ (m_Md_goes l D cI cJ cO cZ h0 h1 h2 h3 h4 h5 h6 h7 h8 h9 h10 h11 h12 h13 h14 h15 h16 h17 h18 h19 h20 h21 h22 h23 H.size th no ca ba nl xa sa da la ra fa ta ua uh uo ma mh ml nf fo fh fs rs ic mn bh bo ya np pa nc cp 0 1 1 (fun z t => z = 0 ∧ t = 1) (s_Md_goes_011 th no ca ba nl xa sa da la ra fa ta ua uh uo ma mh ml nf fo fh fs rs ic mn bh bo ya np pa nc cp)) (nv_cwV (n := 3) hts wd_812 wd_814 sl_17 wd_10 wd_815 (by decide +kernel) ⟨Nat.le_of_ble_eq_true rfl, Nat.le_of_ble_eq_true rfl⟩) ⟨blW, va_recv hK hPc (ci := 8) (q0 := 0) rfl rfl, fun U hU hW => ⟨rfl, by rw [hU], by rw [hU]; exact hPc, va_K.moved hW.alike hK, hDc.weaken (fun _ _ _ _ => trivial)⟩⟩ rfl rfl hl.1 rfl (lv_room (Nat.le_of_ble_eq_true rfl)) d_Md_presence_105 ⟨Nat.le_of_ble_eq_true rfl, Nat.le_of_ble_eq_true rfl⟩) hS (fun q _ h => hFc q h) hFc (fun r u t H1 locs ht hvm hw hB hz1 hk1 hS => ?_)
            obtain ⟨hP1, hK1, hD1⟩ := hB
            rw [ht] at hP1
            obtain ⟨_, rfl, rfl, rfl⟩ := hw
            obtain ⟨hP, hD⟩ := va_join (wr := []) (w1 := (wMd cI cJ cZ h0 h1 h2 h3 h4 h5 h6 h7 h8 h9 h10 h11 h12 h13 h14 h15 h16 h17 h18 h19 h20 h21 h22 h23 1 no ca ba nl xa sa da la ra fa ta ua uh uo ma mh ml nf fo fh fs rs ic mn bh bo ya np pa nc cp)) hP hD [0, 1, 2, 3, 4, 5, 6, 7, 8, 9, 10, 11, 12, 13, 14, 15, 16, 17, 18, 19, 20, 21, 22, 23] [] rfl rfl (by decide) (by decide) hk1 hFc hP1 hD1
            generalize H1 = H at hP hS ⊢
            have hP : va_P D vwCl (wMd cI cJ cZ h0 h1 h2 h3 h4 h5 h6 h7 h8 h9 h10 h11 h12 h13 h14 h15 h16 h17 h18 h19 h20 h21 h22 h23 1 no ca ba nl xa sa da la ra fa ta ua uh uo ma mh ml nf fo fh fs rs ic mn bh bo ya np pa nc cp) H := hP
            have hD : va_D A (wMd cI cJ cZ h0 h1 h2 h3 h4 h5 h6 h7 h8 h9 h10 h11 h12 h13 h14 h15 h16 h17 h18 h19 h20 h21 h22 h23 1 no ca ba nl xa sa da la ra fa ta ua uh uo ma mh ml nf fo fh fs rs ic mn bh bo ya np pa nc cp) := hD
            refine W.widen (k := 0) (n := 0) (Nat.le_of_ble_eq_true rfl) (Nat.le_of_ble_eq_true rfl) ?_
            refine nv_if_ne (tgt := 113) hx hb d_Md_presence_108 (by decide) (by decide) (fun c56 => absurd c56 (by decide)) (fun _ => ?_)
            refine nv_iconst (n := 0) hx hb d_Md_presence_111 ?_
            have hP9 := hP.sub (ws' := (wMd cI cJ cZ h0 h1 h2 h3 h4 h5 h6 h7 h8 h9 h10 h11 h12 h13 h14 h15 h16 h17 h18 h19 h20 h21 h22 h23 1 no ca ba nl xa sa da la ra fa ta ua uh uo ma mh ml nf fo fh fs rs ic mn bh bo ya np pa nc cp)) [0, 1, 2, 3, 4, 5, 6, 7, 8, 9, 10, 11, 12, 13, 14, 15, 16, 17, 18, 19, 20, 21, 22, 23] rfl
            have hD9 := hD.sub (ws' := (wMd cI cJ cZ h0 h1 h2 h3 h4 h5 h6 h7 h8 h9 h10 h11 h12 h13 h14 h15 h16 h17 h18 h19 h20 h21 h22 h23 1 no ca ba nl xa sa da la ra fa ta ua uh uo ma mh ml nf fo fh fs rs ic mn bh bo ya np pa nc cp)) [0, 1, 2, 3, 4, 5, 6, 7, 8, 9, 10, 11, 12, 13, 14, 15, 16, 17, 18, 19, 20, 21, 22, 23] (by decide) rfl
            exact W.iret hx hb hr (fun t ht hW => ⟨⟨_, ((1), (uh), (uo), (ua), (la), (ic)), rfl, ⟨_, rfl, v⟩, by rw [ht]; exact hP9, va_K.moved hW.alike hK, hD9⟩, hS.F ht⟩) hS.2.2 d_Md_presence_112
      exact L59 _ 0 0 H locs ls (Nat.lt_succ_self _) v57 hP hD hS (lv_sub hl [3, 4, 5, 6, 2, 1, 0] rfl)
  · replace v := v.2 c3
    refine nv_if_eq (tgt := 19) hx hb d_Md_presence_5 (by decide) (by decide) (fun _ => ?_) (fun c60 => absurd c60 (by decide))
    refine nv_iconst (n := 0) hx hb d_Md_presence_19 ?_
    refine lv_istore (lv' := [(4, .int (iI 0)), (0, .ref h0), (1, .int (iI lp)), (2, .int (iI hour)), (3, .int (iI on))]) hx hb d_Md_presence_20 hl (by decide) rfl (fun ls hl => ?_)
    refine lv_iload hx hb d_Md_presence_22 (lv_at hl 0 rfl) ?_
    refine nv_if_eq (tgt := 36) hx hb d_Md_presence_24 (by decide) (by decide) (fun _ => ?_) (fun c61 => absurd c61 (by decide))
    refine nv_iconst (n := 0) hx hb d_Md_presence_36 ?_
    refine lv_istore (lv' := [(5, .int (iI 0)), (4, .int (iI 0)), (0, .ref h0), (1, .int (iI lp)), (2, .int (iI hour)), (3, .int (iI on))]) hx hb d_Md_presence_37 hl (by decide) rfl (fun ls hl => ?_)
    refine nv_iconst (n := 0) hx hb d_Md_presence_39 ?_
    refine lv_istore (lv' := [(6, .int (iI 0)), (5, .int (iI 0)), (4, .int (iI 0)), (0, .ref h0), (1, .int (iI lp)), (2, .int (iI hour)), (3, .int (iI on))]) hx hb d_Md_presence_40 hl (by decide) rfl (fun ls hl => ?_)
    obtain ⟨I62, μ63, v71, v72⟩ := v
    have L73 : ∀ (N : Nat) (at_ : Int) (k : Int) (H : Heap) (locs : List Loc) (ls : Array Slot), μ63 at_ k < N → I62 at_ k → va_P D vwCl (wMd cI cJ cZ h0 h1 h2 h3 h4 h5 h6 h7 h8 h9 h10 h11 h12 h13 h14 h15 h16 h17 h18 h19 h20 h21 h22 h23 th no ca ba nl xa sa da la ra fa ta ua uh uo ma mh ml nf fo fh fs rs ic mn bh bo ya np pa nc cp) H → va_D A (wMd cI cJ cZ h0 h1 h2 h3 h4 h5 h6 h7 h8 h9 h10 h11 h12 h13 h14 h15 h16 h17 h18 h19 h20 h21 h22 h23 th no ca ba nl xa sa da la ra fa ta ua uh uo ma mh ml nf fo fh fs rs ic mn bh bo ya np pa nc cp) → va_S A s.heap H locs → lv_has ls 7 [(0, .ref h0), (1, .int (iI lp)), (2, .int (iI hour)), (3, .int (iI on)), (4, .int (iI 0)), (5, .int (iI at_)), (6, .int (iI k))] → W p l e (headSpec (.code ⟨"LightDosesModel", "presence", "(IIZ)I"⟩ prog_10_method_16_code 7 (some .int) :: TG) { frames := 1, cells := 0, slots := 0, locals := 25 }).room s m ([Value.ref h0, Value.int (iI lp), Value.int (iI hour), Value.int (iI on)] : List Value).toArray below meth c H locs 0 0 (MQ below (va_Qi (fun (r : Int32) (u : Int × (Nat → Int) × (Nat → Int) × (Nat → Int) × (Nat → Int) × Int) => ∃ z : Int, r = iI z ∧ post z u.1 u.2.1 u.2.2.1 u.2.2.2.1 u.2.2.2.2.1 u.2.2.2.2.2) (fun u t => va_P D vwCl (wMd cI cJ cZ h0 h1 h2 h3 h4 h5 h6 h7 h8 h9 h10 h11 h12 h13 h14 h15 h16 h17 h18 h19 h20 h21 h22 h23 u.1 no ca ba nl xa sa da u.2.2.2.2.1 ra fa ta u.2.2.2.1 u.2.1 u.2.2.1 ma mh ml nf fo fh fs rs u.2.2.2.2.2 mn bh bo ya np pa nc cp) t.heap ∧ va_K D vwCl (tyx cI cJ cO cZ) t ∧ va_D A (wMd cI cJ cZ h0 h1 h2 h3 h4 h5 h6 h7 h8 h9 h10 h11 h12 h13 h14 h15 h16 h17 h18 h19 h20 h21 h22 h23 u.1 no ca ba nl xa sa da u.2.2.2.2.1 ra fa ta u.2.2.2.1 u.2.1 u.2.2.1 ma mh ml nf fo fh fs rs u.2.2.2.2.2 mn bh bo ya np pa nc cp)) A) ([Value.ref h0, Value.int (iI lp), Value.int (iI hour), Value.int (iI on)] : List Value).toArray s 0 0 A) (F0 m 42 ls []) := by
      intro N
      induction N with
      | zero => intro at_ k H locs ls hN; exact absurd hN (Nat.not_lt_zero _)
      | succ N ih64 =>
        intro at_ k H locs ls hN65 hI hP hD hS hl
        have v := v72 at_ k hI
        refine lv_iload hx hb d_Md_presence_42 (lv_at hl 4 rfl) ?_
        refine nv_if_eq (tgt := 89) hx hb d_Md_presence_44 (by decide) (by decide) (fun _ => ?_) (fun c66 => absurd c66 (by decide))
        refine lv_aload_n hx hb d_Md_presence_89 rfl (lv_at hl 0 rfl) ?_
        refine lv_iload hx hb d_Md_presence_90 (lv_at hl 4 rfl) ?_
        refine lv_iload hx hb d_Md_presence_92 (lv_at hl 5 rfl) ?_
        refine nv_bipush (z := 20) hx hb d_Md_presence_94 (by decide) ?_
        obtain ⟨k67, v⟩ := v
        refine nv_icmp_ge (tgt := 103) hx hb d_Md_presence_96 (by decide) k67 (by decide) (fun c68 => ?_) (fun c68 => ?_)
        · replace v := v.1 c68
          refine nv_iconst (n := 0) hx hb d_Md_presence_103 ?_
          refine nv_iconst (n := 1) hx hb d_Md_presence_104 ?_
          have hPc := hP.sub (ws' := (wMd cI cJ cZ h0 h1 h2 h3 h4 h5 h6 h7 h8 h9 h10 h11 h12 h13 h14 h15 h16 h17 h18 h19 h20 h21 h22 h23 th no ca ba nl xa sa da la ra fa ta ua uh uo ma mh ml nf fo fh fs rs ic mn bh bo ya np pa nc cp)) [0, 1, 2, 3, 4, 5, 6, 7, 8, 9, 10, 11, 12, 13, 14, 15, 16, 17, 18, 19, 20, 21, 22, 23] rfl
          have hDc := hD.sub (ws' := (wMd cI cJ cZ h0 h1 h2 h3 h4 h5 h6 h7 h8 h9 h10 h11 h12 h13 h14 h15 h16 h17 h18 h19 h20 h21 h22 h23 th no ca ba nl xa sa da la ra fa ta ua uh uo ma mh ml nf fo fh fs rs ic mn bh bo ya np pa nc cp)) [0, 1, 2, 3, 4, 5, 6, 7, 8, 9, 10, 11, 12, 13, 14, 15, 16, 17, 18, 19, 20, 21, 22, 23] (by decide) rfl
          have hFc := va_free (wc := (wMd cI cJ cZ h0 h1 h2 h3 h4 h5 h6 h7 h8 h9 h10 h11 h12 h13 h14 h15 h16 h17 h18 h19 h20 h21 h22 h23 th no ca ba nl xa sa da la ra fa ta ua uh uo ma mh ml nf fo fh fs rs ic mn bh bo ya np pa nc cp)) hD hS hA [0, 1, 2, 3, 4, 5, 6, 7, 8, 9, 10, 11, 12, 13, 14, 15, 16, 17, 18, 19, 20, 21, 22, 23] rfl
          refine va_calli (va_runV (As := [.int (iI 0), .int (iI 0), .int (iI 1)]) (rest := []) ⟨hx, hb, hml, hown, hts⟩ (m_Md_goes l D cI cJ cO cZ h0 h1 h2 h3 h4 h5 h6 h7 h8 h9 h10 h11 h12 h13 h14 h15 h16 h17 h18 h19 h20 h21 h22 h23 H.size th no ca ba nl xa sa da la ra fa ta ua uh uo ma mh ml nf fo fh fs rs ic mn bh bo ya np pa nc cp 0 0 1 (fun z t => z = 0 ∧ t = 1) (s_Md_goes_001 th no ca ba nl xa sa da la ra fa ta ua uh uo ma mh ml nf fo fh fs rs ic mn bh bo ya np pa nc cp)) (nv_cwV (n := 3) hts wd_812 wd_814 sl_17 wd_10 wd_815 (by decide +kernel) ⟨Nat.le_of_ble_eq_true rfl, Nat.le_of_ble_eq_true rfl⟩) ⟨blW, va_recv hK hPc (ci := 8) (q0 := 0) rfl rfl, fun U hU hW => ⟨rfl, by rw [hU], by rw [hU]; exact hPc, va_K.moved hW.alike hK, hDc.weaken (fun _ _ _ _ => trivial)⟩⟩ rfl rfl hl.1 rfl (lv_room (Nat.le_of_ble_eq_true rfl)) d_Md_presence_105 ⟨Nat.le_of_ble_eq_true rfl, Nat.le_of_ble_eq_true rfl⟩) hS (fun q _ h => hFc q h) hFc (fun r u t H1 locs ht hvm hw hB hz1 hk1 hS => ?_)
          obtain ⟨hP1, hK1, hD1⟩ := hB
          rw [ht] at hP1
          obtain ⟨_, rfl, rfl, rfl⟩ := hw
          obtain ⟨hP, hD⟩ := va_join (wr := []) (w1 := (wMd cI cJ cZ h0 h1 h2 h3 h4 h5 h6 h7 h8 h9 h10 h11 h12 h13 h14 h15 h16 h17 h18 h19 h20 h21 h22 h23 1 no ca ba nl xa sa da la ra fa ta ua uh uo ma mh ml nf fo fh fs rs ic mn bh bo ya np pa nc cp)) hP hD [0, 1, 2, 3, 4, 5, 6, 7, 8, 9, 10, 11, 12, 13, 14, 15, 16, 17, 18, 19, 20, 21, 22, 23] [] rfl rfl (by decide) (by decide) hk1 hFc hP1 hD1
          generalize H1 = H at hP hS ⊢
          have hP : va_P D vwCl (wMd cI cJ cZ h0 h1 h2 h3 h4 h5 h6 h7 h8 h9 h10 h11 h12 h13 h14 h15 h16 h17 h18 h19 h20 h21 h22 h23 1 no ca ba nl xa sa da la ra fa ta ua uh uo ma mh ml nf fo fh fs rs ic mn bh bo ya np pa nc cp) H := hP
          have hD : va_D A (wMd cI cJ cZ h0 h1 h2 h3 h4 h5 h6 h7 h8 h9 h10 h11 h12 h13 h14 h15 h16 h17 h18 h19 h20 h21 h22 h23 1 no ca ba nl xa sa da la ra fa ta ua uh uo ma mh ml nf fo fh fs rs ic mn bh bo ya np pa nc cp) := hD
          refine W.widen (k := 0) (n := 0) (Nat.le_of_ble_eq_true rfl) (Nat.le_of_ble_eq_true rfl) ?_
          refine nv_if_ne (tgt := 113) hx hb d_Md_presence_108 (by decide) (by decide) (fun c69 => absurd c69 (by decide)) (fun _ => ?_)
          refine nv_iconst (n := 0) hx hb d_Md_presence_111 ?_
          have hP9 := hP.sub (ws' := (wMd cI cJ cZ h0 h1 h2 h3 h4 h5 h6 h7 h8 h9 h10 h11 h12 h13 h14 h15 h16 h17 h18 h19 h20 h21 h22 h23 1 no ca ba nl xa sa da la ra fa ta ua uh uo ma mh ml nf fo fh fs rs ic mn bh bo ya np pa nc cp)) [0, 1, 2, 3, 4, 5, 6, 7, 8, 9, 10, 11, 12, 13, 14, 15, 16, 17, 18, 19, 20, 21, 22, 23] rfl
          have hD9 := hD.sub (ws' := (wMd cI cJ cZ h0 h1 h2 h3 h4 h5 h6 h7 h8 h9 h10 h11 h12 h13 h14 h15 h16 h17 h18 h19 h20 h21 h22 h23 1 no ca ba nl xa sa da la ra fa ta ua uh uo ma mh ml nf fo fh fs rs ic mn bh bo ya np pa nc cp)) [0, 1, 2, 3, 4, 5, 6, 7, 8, 9, 10, 11, 12, 13, 14, 15, 16, 17, 18, 19, 20, 21, 22, 23] (by decide) rfl
          exact W.iret hx hb hr (fun t ht hW => ⟨⟨_, ((1), (uh), (uo), (ua), (la), (ic)), rfl, ⟨_, rfl, v⟩, by rw [ht]; exact hP9, va_K.moved hW.alike hK, hD9⟩, hS.F ht⟩) hS.2.2 d_Md_presence_112
        · replace v := v.2 c68
          refine nv_iconst (n := 1) hx hb d_Md_presence_99 ?_
          refine lv_goto (tgt := 104) hx hb d_Md_presence_100 (by decide) ?_
          refine nv_iconst (n := 1) hx hb d_Md_presence_104 ?_
          have hPc := hP.sub (ws' := (wMd cI cJ cZ h0 h1 h2 h3 h4 h5 h6 h7 h8 h9 h10 h11 h12 h13 h14 h15 h16 h17 h18 h19 h20 h21 h22 h23 th no ca ba nl xa sa da la ra fa ta ua uh uo ma mh ml nf fo fh fs rs ic mn bh bo ya np pa nc cp)) [0, 1, 2, 3, 4, 5, 6, 7, 8, 9, 10, 11, 12, 13, 14, 15, 16, 17, 18, 19, 20, 21, 22, 23] rfl
          have hDc := hD.sub (ws' := (wMd cI cJ cZ h0 h1 h2 h3 h4 h5 h6 h7 h8 h9 h10 h11 h12 h13 h14 h15 h16 h17 h18 h19 h20 h21 h22 h23 th no ca ba nl xa sa da la ra fa ta ua uh uo ma mh ml nf fo fh fs rs ic mn bh bo ya np pa nc cp)) [0, 1, 2, 3, 4, 5, 6, 7, 8, 9, 10, 11, 12, 13, 14, 15, 16, 17, 18, 19, 20, 21, 22, 23] (by decide) rfl
          have hFc := va_free (wc := (wMd cI cJ cZ h0 h1 h2 h3 h4 h5 h6 h7 h8 h9 h10 h11 h12 h13 h14 h15 h16 h17 h18 h19 h20 h21 h22 h23 th no ca ba nl xa sa da la ra fa ta ua uh uo ma mh ml nf fo fh fs rs ic mn bh bo ya np pa nc cp)) hD hS hA [0, 1, 2, 3, 4, 5, 6, 7, 8, 9, 10, 11, 12, 13, 14, 15, 16, 17, 18, 19, 20, 21, 22, 23] rfl
          refine va_calli (va_runV (As := [.int (iI 0), .int (iI 1), .int (iI 1)]) (rest := []) ⟨hx, hb, hml, hown, hts⟩ (m_Md_goes l D cI cJ cO cZ h0 h1 h2 h3 h4 h5 h6 h7 h8 h9 h10 h11 h12 h13 h14 h15 h16 h17 h18 h19 h20 h21 h22 h23 H.size th no ca ba nl xa sa da la ra fa ta ua uh uo ma mh ml nf fo fh fs rs ic mn bh bo ya np pa nc cp 0 1 1 (fun z t => z = 0 ∧ t = 1) (s_Md_goes_011 th no ca ba nl xa sa da la ra fa ta ua uh uo ma mh ml nf fo fh fs rs ic mn bh bo ya np pa nc cp)) (nv_cwV (n := 3) hts wd_812 wd_814 sl_17 wd_10 wd_815 (by decide +kernel) ⟨Nat.le_of_ble_eq_true rfl, Nat.le_of_ble_eq_true rfl⟩) ⟨blW, va_recv hK hPc (ci := 8) (q0 := 0) rfl rfl, fun U hU hW => ⟨rfl, by rw [hU], by rw [hU]; exact hPc, va_K.moved hW.alike hK, hDc.weaken (fun _ _ _ _ => trivial)⟩⟩ rfl rfl hl.1 rfl (lv_room (Nat.le_of_ble_eq_true rfl)) d_Md_presence_105 ⟨Nat.le_of_ble_eq_true rfl, Nat.le_of_ble_eq_true rfl⟩) hS (fun q _ h => hFc q h) hFc (fun r u t H1 locs ht hvm hw hB hz1 hk1 hS => ?_)
          obtain ⟨hP1, hK1, hD1⟩ := hB
          rw [ht] at hP1
          obtain ⟨_, rfl, rfl, rfl⟩ := hw
          obtain ⟨hP, hD⟩ := va_join (wr := []) (w1 := (wMd cI cJ cZ h0 h1 h2 h3 h4 h5 h6 h7 h8 h9 h10 h11 h12 h13 h14 h15 h16 h17 h18 h19 h20 h21 h22 h23 1 no ca ba nl xa sa da la ra fa ta ua uh uo ma mh ml nf fo fh fs rs ic mn bh bo ya np pa nc cp)) hP hD [0, 1, 2, 3, 4, 5, 6, 7, 8, 9, 10, 11, 12, 13, 14, 15, 16, 17, 18, 19, 20, 21, 22, 23] [] rfl rfl (by decide) (by decide) hk1 hFc hP1 hD1
          generalize H1 = H at hP hS ⊢
          have hP : va_P D vwCl (wMd cI cJ cZ h0 h1 h2 h3 h4 h5 h6 h7 h8 h9 h10 h11 h12 h13 h14 h15 h16 h17 h18 h19 h20 h21 h22 h23 1 no ca ba nl xa sa da la ra fa ta ua uh uo ma mh ml nf fo fh fs rs ic mn bh bo ya np pa nc cp) H := hP
          have hD : va_D A (wMd cI cJ cZ h0 h1 h2 h3 h4 h5 h6 h7 h8 h9 h10 h11 h12 h13 h14 h15 h16 h17 h18 h19 h20 h21 h22 h23 1 no ca ba nl xa sa da la ra fa ta ua uh uo ma mh ml nf fo fh fs rs ic mn bh bo ya np pa nc cp) := hD
          refine W.widen (k := 0) (n := 0) (Nat.le_of_ble_eq_true rfl) (Nat.le_of_ble_eq_true rfl) ?_
          refine nv_if_ne (tgt := 113) hx hb d_Md_presence_108 (by decide) (by decide) (fun c70 => absurd c70 (by decide)) (fun _ => ?_)
          refine nv_iconst (n := 0) hx hb d_Md_presence_111 ?_
          have hP9 := hP.sub (ws' := (wMd cI cJ cZ h0 h1 h2 h3 h4 h5 h6 h7 h8 h9 h10 h11 h12 h13 h14 h15 h16 h17 h18 h19 h20 h21 h22 h23 1 no ca ba nl xa sa da la ra fa ta ua uh uo ma mh ml nf fo fh fs rs ic mn bh bo ya np pa nc cp)) [0, 1, 2, 3, 4, 5, 6, 7, 8, 9, 10, 11, 12, 13, 14, 15, 16, 17, 18, 19, 20, 21, 22, 23] rfl
          have hD9 := hD.sub (ws' := (wMd cI cJ cZ h0 h1 h2 h3 h4 h5 h6 h7 h8 h9 h10 h11 h12 h13 h14 h15 h16 h17 h18 h19 h20 h21 h22 h23 1 no ca ba nl xa sa da la ra fa ta ua uh uo ma mh ml nf fo fh fs rs ic mn bh bo ya np pa nc cp)) [0, 1, 2, 3, 4, 5, 6, 7, 8, 9, 10, 11, 12, 13, 14, 15, 16, 17, 18, 19, 20, 21, 22, 23] (by decide) rfl
          exact W.iret hx hb hr (fun t ht hW => ⟨⟨_, ((1), (uh), (uo), (ua), (la), (ic)), rfl, ⟨_, rfl, v⟩, by rw [ht]; exact hP9, va_K.moved hW.alike hK, hD9⟩, hS.F ht⟩) hS.2.2 d_Md_presence_112
    exact L73 _ 0 0 H locs ls (Nat.lt_succ_self _) v71 hP hD hS (lv_sub hl [3, 4, 5, 6, 2, 1, 0] rfl)

theorem d_Md_meter_0 : decode prog_10_method_17_code 0 = .ok (.aload_n 0, 1) := by decide +kernel
theorem d_Md_meter_1 : decode prog_10_method_17_code 1 = .ok (.iload_n 1, 1) := by decide +kernel
theorem d_Md_meter_2 : decode prog_10_method_17_code 2 = .ok (.invokevirtual 113, 3) := by decide +kernel
theorem d_Md_meter_5 : decode prog_10_method_17_code 5 = .ok (.ifCond .eq 14, 3) := by decide +kernel
theorem d_Md_meter_8 : decode prog_10_method_17_code 8 = .ok (.iload_n 2, 1) := by decide +kernel
theorem d_Md_meter_9 : decode prog_10_method_17_code 9 = .ok (.invokestatic 119, 3) := by decide +kernel
theorem d_Md_meter_12 : decode prog_10_method_17_code 12 = .ok (.ifCond .eq 7, 3) := by decide +kernel
theorem d_Md_meter_15 : decode prog_10_method_17_code 15 = .ok (.iconst 1, 1) := by decide +kernel
theorem d_Md_meter_16 : decode prog_10_method_17_code 16 = .ok (.goto 4, 3) := by decide +kernel
theorem d_Md_meter_19 : decode prog_10_method_17_code 19 = .ok (.iconst 0, 1) := by decide +kernel
theorem d_Md_meter_20 : decode prog_10_method_17_code 20 = .ok (.istore 4, 2) := by decide +kernel
theorem d_Md_meter_22 : decode prog_10_method_17_code 22 = .ok (.iload 4, 2) := by decide +kernel
theorem d_Md_meter_24 : decode prog_10_method_17_code 24 = .ok (.ifCond .eq 12, 3) := by decide +kernel
theorem d_Md_meter_27 : decode prog_10_method_17_code 27 = .ok (.aload_n 0, 1) := by decide +kernel
theorem d_Md_meter_28 : decode prog_10_method_17_code 28 = .ok (.getfield 48, 3) := by decide +kernel
theorem d_Md_meter_31 : decode prog_10_method_17_code 31 = .ok (.iload_n 1, 1) := by decide +kernel
theorem d_Md_meter_32 : decode prog_10_method_17_code 32 = .ok (.iaload, 1) := by decide +kernel
theorem d_Md_meter_33 : decode prog_10_method_17_code 33 = .ok (.goto 4, 3) := by decide +kernel
theorem d_Md_meter_36 : decode prog_10_method_17_code 36 = .ok (.iconst 0, 1) := by decide +kernel
theorem d_Md_meter_37 : decode prog_10_method_17_code 37 = .ok (.istore 5, 2) := by decide +kernel
theorem d_Md_meter_39 : decode prog_10_method_17_code 39 = .ok (.iconst 0, 1) := by decide +kernel
theorem d_Md_meter_40 : decode prog_10_method_17_code 40 = .ok (.istore 6, 2) := by decide +kernel
theorem d_Md_meter_42 : decode prog_10_method_17_code 42 = .ok (.iload 4, 2) := by decide +kernel
theorem d_Md_meter_44 : decode prog_10_method_17_code 44 = .ok (.ifCond .eq 45, 3) := by decide +kernel
theorem d_Md_meter_47 : decode prog_10_method_17_code 47 = .ok (.iload 6, 2) := by decide +kernel
theorem d_Md_meter_49 : decode prog_10_method_17_code 49 = .ok (.aload_n 0, 1) := by decide +kernel
theorem d_Md_meter_50 : decode prog_10_method_17_code 50 = .ok (.getfield 48, 3) := by decide +kernel
theorem d_Md_meter_53 : decode prog_10_method_17_code 53 = .ok (.iload_n 1, 1) := by decide +kernel
theorem d_Md_meter_54 : decode prog_10_method_17_code 54 = .ok (.iaload, 1) := by decide +kernel
theorem d_Md_meter_55 : decode prog_10_method_17_code 55 = .ok (.if_icmp .ge 34, 3) := by decide +kernel
theorem d_Md_meter_58 : decode prog_10_method_17_code 58 = .ok (.aload_n 0, 1) := by decide +kernel
theorem d_Md_meter_59 : decode prog_10_method_17_code 59 = .ok (.getfield 51, 3) := by decide +kernel
theorem d_Md_meter_62 : decode prog_10_method_17_code 62 = .ok (.bipush 20, 2) := by decide +kernel
theorem d_Md_meter_64 : decode prog_10_method_17_code 64 = .ok (.iload_n 1, 1) := by decide +kernel
theorem d_Md_meter_65 : decode prog_10_method_17_code 65 = .ok (.imul, 1) := by decide +kernel
theorem d_Md_meter_66 : decode prog_10_method_17_code 66 = .ok (.iload 6, 2) := by decide +kernel
theorem d_Md_meter_68 : decode prog_10_method_17_code 68 = .ok (.iadd, 1) := by decide +kernel
theorem d_Md_meter_69 : decode prog_10_method_17_code 69 = .ok (.iaload, 1) := by decide +kernel
theorem d_Md_meter_70 : decode prog_10_method_17_code 70 = .ok (.iload_n 2, 1) := by decide +kernel
theorem d_Md_meter_71 : decode prog_10_method_17_code 71 = .ok (.if_icmp .ne 8, 3) := by decide +kernel
theorem d_Md_meter_74 : decode prog_10_method_17_code 74 = .ok (.iload 6, 2) := by decide +kernel
theorem d_Md_meter_76 : decode prog_10_method_17_code 76 = .ok (.goto 5, 3) := by decide +kernel
theorem d_Md_meter_79 : decode prog_10_method_17_code 79 = .ok (.iload 5, 2) := by decide +kernel
theorem d_Md_meter_81 : decode prog_10_method_17_code 81 = .ok (.istore 5, 2) := by decide +kernel
theorem d_Md_meter_83 : decode prog_10_method_17_code 83 = .ok (.iinc 6 1, 3) := by decide +kernel
theorem d_Md_meter_86 : decode prog_10_method_17_code 86 = .ok (.goto (-44), 3) := by decide +kernel
theorem d_Md_meter_89 : decode prog_10_method_17_code 89 = .ok (.aload_n 0, 1) := by decide +kernel
theorem d_Md_meter_90 : decode prog_10_method_17_code 90 = .ok (.iload 4, 2) := by decide +kernel
theorem d_Md_meter_92 : decode prog_10_method_17_code 92 = .ok (.iload 5, 2) := by decide +kernel
theorem d_Md_meter_94 : decode prog_10_method_17_code 94 = .ok (.bipush 20, 2) := by decide +kernel
theorem d_Md_meter_96 : decode prog_10_method_17_code 96 = .ok (.if_icmp .ge 7, 3) := by decide +kernel
theorem d_Md_meter_99 : decode prog_10_method_17_code 99 = .ok (.iconst 1, 1) := by decide +kernel
theorem d_Md_meter_100 : decode prog_10_method_17_code 100 = .ok (.goto 4, 3) := by decide +kernel
theorem d_Md_meter_103 : decode prog_10_method_17_code 103 = .ok (.iconst 0, 1) := by decide +kernel
theorem d_Md_meter_104 : decode prog_10_method_17_code 104 = .ok (.iload_n 3, 1) := by decide +kernel
theorem d_Md_meter_105 : decode prog_10_method_17_code 105 = .ok (.invokestatic 105, 3) := by decide +kernel
theorem d_Md_meter_108 : decode prog_10_method_17_code 108 = .ok (.invokevirtual 96, 3) := by decide +kernel
theorem d_Md_meter_111 : decode prog_10_method_17_code 111 = .ok (.ifCond .ne 5, 3) := by decide +kernel
theorem d_Md_meter_114 : decode prog_10_method_17_code 114 = .ok (.iconst 0, 1) := by decide +kernel
theorem d_Md_meter_115 : decode prog_10_method_17_code 115 = .ok (.ireturn, 1) := by decide +kernel
theorem d_Md_meter_116 : decode prog_10_method_17_code 116 = .ok (.aload_n 0, 1) := by decide +kernel
theorem d_Md_meter_117 : decode prog_10_method_17_code 117 = .ok (.getfield 51, 3) := by decide +kernel
theorem d_Md_meter_120 : decode prog_10_method_17_code 120 = .ok (.bipush 20, 2) := by decide +kernel
theorem d_Md_meter_122 : decode prog_10_method_17_code 122 = .ok (.iload_n 1, 1) := by decide +kernel
theorem d_Md_meter_123 : decode prog_10_method_17_code 123 = .ok (.imul, 1) := by decide +kernel
theorem d_Md_meter_124 : decode prog_10_method_17_code 124 = .ok (.iload 5, 2) := by decide +kernel
theorem d_Md_meter_126 : decode prog_10_method_17_code 126 = .ok (.iadd, 1) := by decide +kernel
theorem d_Md_meter_127 : decode prog_10_method_17_code 127 = .ok (.iload_n 2, 1) := by decide +kernel
theorem d_Md_meter_128 : decode prog_10_method_17_code 128 = .ok (.iastore, 1) := by decide +kernel
theorem d_Md_meter_129 : decode prog_10_method_17_code 129 = .ok (.aload_n 0, 1) := by decide +kernel
theorem d_Md_meter_130 : decode prog_10_method_17_code 130 = .ok (.getfield 54, 3) := by decide +kernel
theorem d_Md_meter_133 : decode prog_10_method_17_code 133 = .ok (.bipush 20, 2) := by decide +kernel
theorem d_Md_meter_135 : decode prog_10_method_17_code 135 = .ok (.iload_n 1, 1) := by decide +kernel
theorem d_Md_meter_136 : decode prog_10_method_17_code 136 = .ok (.imul, 1) := by decide +kernel
theorem d_Md_meter_137 : decode prog_10_method_17_code 137 = .ok (.iload 5, 2) := by decide +kernel
theorem d_Md_meter_139 : decode prog_10_method_17_code 139 = .ok (.iadd, 1) := by decide +kernel
theorem d_Md_meter_140 : decode prog_10_method_17_code 140 = .ok (.iload_n 3, 1) := by decide +kernel
theorem d_Md_meter_141 : decode prog_10_method_17_code 141 = .ok (.iastore, 1) := by decide +kernel
theorem d_Md_meter_142 : decode prog_10_method_17_code 142 = .ok (.aload_n 0, 1) := by decide +kernel
theorem d_Md_meter_143 : decode prog_10_method_17_code 143 = .ok (.getfield 48, 3) := by decide +kernel
theorem d_Md_meter_146 : decode prog_10_method_17_code 146 = .ok (.iload_n 1, 1) := by decide +kernel
theorem d_Md_meter_147 : decode prog_10_method_17_code 147 = .ok (.iload 5, 2) := by decide +kernel
theorem d_Md_meter_149 : decode prog_10_method_17_code 149 = .ok (.aload_n 0, 1) := by decide +kernel
theorem d_Md_meter_150 : decode prog_10_method_17_code 150 = .ok (.getfield 48, 3) := by decide +kernel
theorem d_Md_meter_153 : decode prog_10_method_17_code 153 = .ok (.iload_n 1, 1) := by decide +kernel
theorem d_Md_meter_154 : decode prog_10_method_17_code 154 = .ok (.iaload, 1) := by decide +kernel
theorem d_Md_meter_155 : decode prog_10_method_17_code 155 = .ok (.if_icmp .ne 10, 3) := by decide +kernel
theorem d_Md_meter_158 : decode prog_10_method_17_code 158 = .ok (.iload 5, 2) := by decide +kernel
theorem d_Md_meter_160 : decode prog_10_method_17_code 160 = .ok (.iconst 1, 1) := by decide +kernel
theorem d_Md_meter_161 : decode prog_10_method_17_code 161 = .ok (.iadd, 1) := by decide +kernel
theorem d_Md_meter_162 : decode prog_10_method_17_code 162 = .ok (.goto 9, 3) := by decide +kernel
theorem d_Md_meter_165 : decode prog_10_method_17_code 165 = .ok (.aload_n 0, 1) := by decide +kernel
theorem d_Md_meter_166 : decode prog_10_method_17_code 166 = .ok (.getfield 48, 3) := by decide +kernel
theorem d_Md_meter_169 : decode prog_10_method_17_code 169 = .ok (.iload_n 1, 1) := by decide +kernel
theorem d_Md_meter_170 : decode prog_10_method_17_code 170 = .ok (.iaload, 1) := by decide +kernel
theorem d_Md_meter_171 : decode prog_10_method_17_code 171 = .ok (.iastore, 1) := by decide +kernel
theorem d_Md_meter_172 : decode prog_10_method_17_code 172 = .ok (.aload_n 0, 1) := by decide +kernel
theorem d_Md_meter_173 : decode prog_10_method_17_code 173 = .ok (.iload_n 1, 1) := by decide +kernel
theorem d_Md_meter_174 : decode prog_10_method_17_code 174 = .ok (.invokevirtual 109, 3) := by decide +kernel
theorem d_Md_meter_177 : decode prog_10_method_17_code 177 = .ok (.aload_n 0, 1) := by decide +kernel
theorem d_Md_meter_178 : decode prog_10_method_17_code 178 = .ok (.getfield 48, 3) := by decide +kernel
theorem d_Md_meter_181 : decode prog_10_method_17_code 181 = .ok (.iload_n 1, 1) := by decide +kernel
theorem d_Md_meter_182 : decode prog_10_method_17_code 182 = .ok (.iaload, 1) := by decide +kernel
theorem d_Md_meter_183 : decode prog_10_method_17_code 183 = .ok (.ireturn, 1) := by decide +kernel
def vc_Md_meter (th : Int) (no : Int) (ca : Nat → Int) (ba : Nat → Int) (nl : Int) (xa : Nat → Int) (sa : Nat → Int) (da : Nat → Int) (la : Nat → Int) (ra : Nat → Int) (fa : Nat → Int) (ta : Nat → Int) (ua : Nat → Int) (uh : Nat → Int) (uo : Nat → Int) (ma : Nat → Int) (mh : Nat → Int) (ml : Nat → Int) (nf : Int) (fo : Nat → Int) (fh : Nat → Int) (fs : Nat → Int) (rs : Int) (ic : Int) (mn : Int) (bh : Nat → Int) (bo : Nat → Int) (ya : Nat → Int) (np : Int) (pa : Nat → Int) (nc : Int) (cp : Nat → Int) (lp : Int) (hour : Int) (lx : Int) (post : Int → Int → (Nat → Int) → (Nat → Int) → (Nat → Int) → (Nat → Int) → Int → Prop) : Prop := (r32 lp) ∧ ((r32 nl) ∧ (((0 ≤ lp ∧ lp < nl) → (r32 hour) ∧ (((0 ≤ hour ∧ hour < 26280) → (0 ≤ lp ∧ lp < 8) ∧ (∃ (I10 : Int → Int → Prop) (μ11 : Int → Int → Nat), I10 (ma (lp).toNat) 0 ∧ ∀ (at_ : Int) (k : Int), I10 at_ k → (0 ≤ lp ∧ lp < 8) ∧ ((r32 k) ∧ ((r32 (ma (lp).toNat)) ∧ ((ma (lp).toNat ≤ k → (r32 at_) ∧ ((20 ≤ at_ → (r32 lx) ∧ (((0 ≤ lx ∧ lx ≤ 5000) → post 0 2 mh ml ma la ic) ∧ (¬ (0 ≤ lx ∧ lx ≤ 5000) → post 0 2 mh ml ma la ic))) ∧ (at_ < 20 → (r32 lx) ∧ (((0 ≤ lx ∧ lx ≤ 5000) → (0 ≤ 20 * lp + at_ ∧ 20 * lp + at_ < 160) ∧ ((0 ≤ 20 * lp + at_ ∧ 20 * lp + at_ < 160) ∧ ((0 ≤ lp ∧ lp < 8) ∧ ((¬ at_ = ma (lp).toNat → (0 ≤ lp ∧ lp < 8) ∧ ((0 ≤ lp ∧ lp < 8) ∧ (∃ P34 : (Nat → Int) → Int → Prop, vc_Md_light 0 no ca ba nl xa sa da la ra fa ta ua uh uo (va_up ma (lp).toNat (ma (lp).toNat)) (va_up mh (20 * lp + at_).toNat hour) (va_up ml (20 * lp + at_).toNat lx) nf fo fh fs rs ic mn bh bo ya np pa nc cp lp P34 ∧ ∀ (y36 : Nat → Int) (y37 : Int), P34 y36 y37 → (0 ≤ lp ∧ lp < 8) ∧ (post ((va_up ma (lp).toNat (ma (lp).toNat)) (lp).toNat) 0 (va_up mh (20 * lp + at_).toNat hour) (va_up ml (20 * lp + at_).toNat lx) (va_up ma (lp).toNat (ma (lp).toNat)) y36 y37)))) ∧ (at_ = ma (lp).toNat → (0 ≤ lp ∧ lp < 8) ∧ (∃ P40 : (Nat → Int) → Int → Prop, vc_Md_light 0 no ca ba nl xa sa da la ra fa ta ua uh uo (va_up ma (lp).toNat (at_ + 1)) (va_up mh (20 * lp + at_).toNat hour) (va_up ml (20 * lp + at_).toNat lx) nf fo fh fs rs ic mn bh bo ya np pa nc cp lp P40 ∧ ∀ (y42 : Nat → Int) (y43 : Int), P40 y42 y43 → (0 ≤ lp ∧ lp < 8) ∧ (post ((va_up ma (lp).toNat (at_ + 1)) (lp).toNat) 0 (va_up mh (20 * lp + at_).toNat hour) (va_up ml (20 * lp + at_).toNat lx) (va_up ma (lp).toNat (at_ + 1)) y42 y43))))))) ∧ (¬ (0 ≤ lx ∧ lx ≤ 5000) → post 0 3 mh ml ma la ic))))) ∧ (k < ma (lp).toNat → (0 ≤ 20 * lp + k ∧ 20 * lp + k < 160) ∧ ((r32 (mh (20 * lp + k).toNat)) ∧ ((¬ mh (20 * lp + k).toNat = hour → I10 at_ (k + 1) ∧ μ11 at_ (k + 1) < μ11 at_ k) ∧ (mh (20 * lp + k).toNat = hour → I10 k (k + 1) ∧ μ11 k (k + 1) < μ11 at_ k))))))))) ∧ (¬ (0 ≤ hour ∧ hour < 26280) → ∃ (I54 : Int → Int → Prop) (μ55 : Int → Int → Nat), I54 0 0 ∧ ∀ (at_ : Int) (k : Int), I54 at_ k → (r32 at_) ∧ ((20 ≤ at_ → (r32 lx) ∧ (((0 ≤ lx ∧ lx ≤ 5000) → post 0 1 mh ml ma la ic) ∧ (¬ (0 ≤ lx ∧ lx ≤ 5000) → post 0 1 mh ml ma la ic))) ∧ (at_ < 20 → (r32 lx) ∧ (((0 ≤ lx ∧ lx ≤ 5000) → post 0 1 mh ml ma la ic) ∧ (¬ (0 ≤ lx ∧ lx ≤ 5000) → post 0 1 mh ml ma la ic))))))) ∧ (¬ (0 ≤ lp ∧ lp < nl) → ∃ (I74 : Int → Int → Prop) (μ75 : Int → Int → Nat), I74 0 0 ∧ ∀ (at_ : Int) (k : Int), I74 at_ k → (r32 at_) ∧ ((20 ≤ at_ → (r32 lx) ∧ (((0 ≤ lx ∧ lx ≤ 5000) → post 0 1 mh ml ma la ic) ∧ (¬ (0 ≤ lx ∧ lx ≤ 5000) → post 0 1 mh ml ma la ic))) ∧ (at_ < 20 → (r32 lx) ∧ (((0 ≤ lx ∧ lx ≤ 5000) → post 0 1 mh ml ma la ic) ∧ (¬ (0 ≤ lx ∧ lx ≤ 5000) → post 0 1 mh ml ma la ic)))))))
set_option maxHeartbeats 4000000 in
set_option maxRecDepth 100000 in
theorem m_Md_meter (l : Launch) (D : va_G) (cI cJ cO cZ : ClassId) (h0 h1 h2 h3 h4 h5 h6 h7 h8 h9 h10 h11 h12 h13 h14 h15 h16 h17 h18 h19 h20 h21 h22 h23 : Nat) (sz : Nat) (th : Int) (no : Int) (ca : Nat → Int) (ba : Nat → Int) (nl : Int) (xa : Nat → Int) (sa : Nat → Int) (da : Nat → Int) (la : Nat → Int) (ra : Nat → Int) (fa : Nat → Int) (ta : Nat → Int) (ua : Nat → Int) (uh : Nat → Int) (uo : Nat → Int) (ma : Nat → Int) (mh : Nat → Int) (ml : Nat → Int) (nf : Int) (fo : Nat → Int) (fh : Nat → Int) (fs : Nat → Int) (rs : Int) (ic : Int) (mn : Int) (bh : Nat → Int) (bo : Nat → Int) (ya : Nat → Int) (np : Int) (pa : Nat → Int) (nc : Int) (cp : Nat → Int) (lp : Int) (hour : Int) (lx : Int) (post : Int → Int → (Nat → Int) → (Nat → Int) → (Nat → Int) → (Nat → Int) → Int → Prop) (v : vc_Md_meter th no ca ba nl xa sa da la ra fa ta ua uh uo ma mh ml nf fo fh fs rs ic mn bh bo ya np pa nc cp lp hour lx post) : Met l ⟨"LightDosesModel", "meter", "(III)I"⟩ (.code ⟨"LightDosesModel", "meter", "(III)I"⟩ prog_10_method_17_code 7 (some .int) :: TG) { frames := 1, cells := 0, slots := 0, locals := 25 } (va_Pc [.ref h0, .int (iI lp), .int (iI hour), .int (iI lx)] (fun U => U.heap.size = sz ∧ va_P D vwCl (wMd cI cJ cZ h0 h1 h2 h3 h4 h5 h6 h7 h8 h9 h10 h11 h12 h13 h14 h15 h16 h17 h18 h19 h20 h21 h22 h23 th no ca ba nl xa sa da la ra fa ta ua uh uo ma mh ml nf fo fh fs rs ic mn bh bo ya np pa nc cp) U.heap ∧ va_K D vwCl (tyx cI cJ cO cZ) U ∧ va_D (fun _ => True) (wMd cI cJ cZ h0 h1 h2 h3 h4 h5 h6 h7 h8 h9 h10 h11 h12 h13 h14 h15 h16 h17 h18 h19 h20 h21 h22 h23 th no ca ba nl xa sa da la ra fa ta ua uh uo ma mh ml nf fo fh fs rs ic mn bh bo ya np pa nc cp))) (va_Qi (fun (r : Int32) (u : Int × (Nat → Int) × (Nat → Int) × (Nat → Int) × (Nat → Int) × Int) => ∃ z : Int, r = iI z ∧ post z u.1 u.2.1 u.2.2.1 u.2.2.2.1 u.2.2.2.2.1 u.2.2.2.2.2) (fun u t => va_P D vwCl (wMd cI cJ cZ h0 h1 h2 h3 h4 h5 h6 h7 h8 h9 h10 h11 h12 h13 h14 h15 h16 h17 h18 h19 h20 h21 h22 h23 u.1 no ca ba nl xa sa da u.2.2.2.2.1 ra fa ta ua uh uo u.2.2.2.1 u.2.1 u.2.2.1 nf fo fh fs rs u.2.2.2.2.2 mn bh bo ya np pa nc cp) t.heap ∧ va_K D vwCl (tyx cI cJ cO cZ) t ∧ va_D (va_A (wMd cI cJ cZ h0 h1 h2 h3 h4 h5 h6 h7 h8 h9 h10 h11 h12 h13 h14 h15 h16 h17 h18 h19 h20 h21 h22 h23 th no ca ba nl xa sa da la ra fa ta ua uh uo ma mh ml nf fo fh fs rs ic mn bh bo ya np pa nc cp) sz) (wMd cI cJ cZ h0 h1 h2 h3 h4 h5 h6 h7 h8 h9 h10 h11 h12 h13 h14 h15 h16 h17 h18 h19 h20 h21 h22 h23 u.1 no ca ba nl xa sa da u.2.2.2.2.1 ra fa ta ua uh uo u.2.2.2.1 u.2.1 u.2.2.1 nf fo fh fs rs u.2.2.2.2.2 mn bh bo ya np pa nc cp)) (va_A (wMd cI cJ cZ h0 h1 h2 h3 h4 h5 h6 h7 h8 h9 h10 h11 h12 h13 h14 h15 h16 h17 h18 h19 h20 h21 h22 h23 th no ca ba nl xa sa da la ra fa ta ua uh uo ma mh ml nf fo fh fs rs ic mn bh bo ya np pa nc cp) sz)) 0 0 (va_A (wMd cI cJ cZ h0 h1 h2 h3 h4 h5 h6 h7 h8 h9 h10 h11 h12 h13 h14 h15 h16 h17 h18 h19 h20 h21 h22 h23 th no ca ba nl xa sa da la ra fa ta ua uh uo ma mh ml nf fo fh fs rs ic mn bh bo ya np pa nc cp) sz) := by
  refine Met.ofW (cc := prog_10_method_17_code) (maxL := 7) (ret := (some .int)) (by decide) rfl ?_
  intro p e s m args below meth c s₁ B hml hv
  obtain ⟨rfl, hsz, hP, hK, hD0⟩ := hv
  have hx := B.exec
  have hb := B.bytes
  have hr := B.returns
  have hts0 := atoms_spec (ws := (.code ⟨"LightDosesModel", "meter", "(III)I"⟩ prog_10_method_17_code 7 (some .int) :: TG)) B.pre
  have hts : ∀ w ∈ TG, w.before _ s = true := fun w h => hts0 w (List.mem_cons_of_mem _ h)
  have hown : s.vm.findClass "LightDosesModel" = some m.cls := findClass_of_methodNamed B.named
  have hlocks := B.notSynchronized
  subst hsz
  have hD := hD0.self (sz := s.heap.size)
  generalize hAe : va_A (wMd cI cJ cZ h0 h1 h2 h3 h4 h5 h6 h7 h8 h9 h10 h11 h12 h13 h14 h15 h16 h17 h18 h19 h20 h21 h22 h23 th no ca ba nl xa sa da la ra fa ta ua uh uo ma mh ml nf fo fh fs rs ic mn bh bo ya np pa nc cp) s.heap.size = A at hD ⊢
  have hA : ∀ q : Nat, s.heap.size ≤ q → A q := fun q h => by rw [← hAe]; exact Or.inr h
  have hS : va_S A s.heap s.heap [] := va_S.rf
  have hP : va_P D vwCl (wMd cI cJ cZ h0 h1 h2 h3 h4 h5 h6 h7 h8 h9 h10 h11 h12 h13 h14 h15 h16 h17 h18 h19 h20 h21 h22 h23 th no ca ba nl xa sa da la ra fa ta ua uh uo ma mh ml nf fo fh fs rs ic mn bh bo ya np pa nc cp) s.heap := hP
  have hl := lv_entry ([Value.ref h0, Value.int (iI lp), Value.int (iI hour), Value.int (iI lx)]) (n := 7) (Nat.le_of_ble_eq_true rfl)
  rw [lg_entry_eq]
  generalize (lg_sl ([Value.ref h0, Value.int (iI lp), Value.int (iI hour), Value.int (iI lx)]) ++ List.replicate (7 - (lg_sl ([Value.ref h0, Value.int (iI lp), Value.int (iI hour), Value.int (iI lx)])).length) Slot.unset).toArray = ls at hl ⊢
  have hl : lv_has ls 7 [(0, .ref h0), (1, .int (iI lp)), (2, .int (iI hour)), (3, .int (iI lx))] := hl
  unfold vc_Md_meter at v
  obtain ⟨H, hH⟩ : ∃ H, H = s.heap := ⟨_, rfl⟩
  obtain ⟨locs, hlc⟩ : ∃ L : List Loc, L = [] := ⟨_, rfl⟩
  rw [← hlc] at hS ⊢
  have hP : va_P D vwCl (wMd cI cJ cZ h0 h1 h2 h3 h4 h5 h6 h7 h8 h9 h10 h11 h12 h13 h14 h15 h16 h17 h18 h19 h20 h21 h22 h23 th no ca ba nl xa sa da la ra fa ta ua uh uo ma mh ml nf fo fh fs rs ic mn bh bo ya np pa nc cp) H := by rw [hH]; exact hP
  have hS : va_S A s.heap H locs := by rw [hH]; exact hS
  have hW0 : ∀ {X : Heap → Prop}, X H → X s.heap := fun h => by rw [← hH]; exact h
  refine hW0 (X := fun Z => W p l e _ s m _ below meth c Z locs 0 0 _ _) ?_
  refine lv_aload_n hx hb d_Md_meter_0 rfl (lv_at hl 0 rfl) ?_
  refine lv_iload_n hx hb d_Md_meter_1 rfl (lv_at hl 1 rfl) ?_
  obtain ⟨k1, v⟩ := v
  obtain ⟨k2, v⟩ := v
  refine vp_callSi (nv_runV (wc := (wMd cI cJ cZ h0 h1 h2 h3 h4 h5 h6 h7 h8 h9 h10 h11 h12 h13 h14 h15 h16 h17 h18 h19 h20 h21 h22 h23 th no ca ba nl xa sa da la ra fa ta ua uh uo ma mh ml nf fo fh fs rs ic mn bh bo ya np pa nc cp)) (As := [.int (iI lp)]) (rest := []) ⟨hx, hb, hml, hown, hts⟩ (m_Md_isLamp l D cI cJ cO cZ h0 h1 h2 h3 h4 h5 h6 h7 h8 h9 h10 h11 h12 h13 h14 h15 h16 h17 h18 h19 h20 h21 h22 h23 th no ca ba nl xa sa da la ra fa ta ua uh uo ma mh ml nf fo fh fs rs ic mn bh bo ya np pa nc cp lp (fun z => (z = 1 ∧ (0 ≤ lp ∧ lp < nl)) ∨ (z = 0 ∧ ¬ (0 ≤ lp ∧ lp < nl))) (s_Md_isLamp th no ca ba nl xa sa da la ra fa ta ua uh uo ma mh ml nf fo fh fs rs ic mn bh bo ya np pa nc cp lp k1 k2)) (nv_cwV (n := 1) hts wd_836 wd_838 sl_19 wd_10 wd_839 (by decide +kernel) ⟨Nat.le_of_ble_eq_true rfl, Nat.le_of_ble_eq_true rfl⟩) hK (hP.sub [0, 1, 2, 3, 4, 5, 6, 7, 8, 9, 10, 11, 12, 13, 14, 15, 16, 17, 18, 19, 20, 21, 22, 23] rfl) (va_recv hK hP (ci := 8) (q0 := 0) rfl rfl) rfl hl.1 rfl (Nat.le_of_ble_eq_true rfl) d_Md_meter_2 (Nat.le_of_ble_eq_true rfl) (Nat.le_of_ble_eq_true rfl)) (fun r hr => ?_)
  rcases hr with ⟨_, rfl, ⟨rfl, c3⟩ | ⟨rfl, c3⟩⟩
  · replace v := v.1 c3
    refine nv_if_eq (tgt := 19) hx hb d_Md_meter_5 (by decide) (by decide) (fun c4 => absurd c4 (by decide)) (fun _ => ?_)
    refine lv_iload_n hx hb d_Md_meter_8 rfl (lv_at hl 2 rfl) ?_
    obtain ⟨k5, v⟩ := v
    refine vp_callSi (nv_runS (wc := []) (As := [.int (iI hour)]) (rest := []) ⟨hx, hb, hml, hown, hts⟩ (m_Md_isHour l D cI cJ cO cZ hour (fun z => (z = 1 ∧ (0 ≤ hour ∧ hour < 26280)) ∨ (z = 0 ∧ ¬ (0 ≤ hour ∧ hour < 26280))) (s_Md_isHour hour k5)) (nv_cwS (n := 1) hts wd_852 wd_853 wd_10 wd_854 (by decide +kernel) ⟨Nat.le_of_ble_eq_true rfl, Nat.le_of_ble_eq_true rfl⟩) hK (hP.sub [] rfl) rfl hl.1 rfl (Nat.le_of_ble_eq_true rfl) d_Md_meter_9 (Nat.le_of_ble_eq_true rfl) (Nat.le_of_ble_eq_true rfl)) (fun r hr => ?_)
    rcases hr with ⟨_, rfl, ⟨rfl, c6⟩ | ⟨rfl, c6⟩⟩
    · replace v := v.1 c6
      refine nv_if_eq (tgt := 19) hx hb d_Md_meter_12 (by decide) (by decide) (fun c7 => absurd c7 (by decide)) (fun _ => ?_)
      refine nv_iconst (n := 1) hx hb d_Md_meter_15 ?_
      refine lv_goto (tgt := 20) hx hb d_Md_meter_16 (by decide) ?_
      refine lv_istore (lv' := [(4, .int (iI 1)), (0, .ref h0), (1, .int (iI lp)), (2, .int (iI hour)), (3, .int (iI lx))]) hx hb d_Md_meter_20 hl (by decide) rfl (fun ls hl => ?_)
      refine lv_iload hx hb d_Md_meter_22 (lv_at hl 0 rfl) ?_
      refine nv_if_eq (tgt := 36) hx hb d_Md_meter_24 (by decide) (by decide) (fun c8 => absurd c8 (by decide)) (fun _ => ?_)
      refine lv_aload_n hx hb d_Md_meter_27 rfl (lv_at hl 1 rfl) ?_
      refine va_get (D := D) (ci := 8) (v := .ref h13) (C := "LightDosesModel") (T := T_Md) (N := 32) hx hb hts in_Md hown hK hP 0 rfl rfl 15 (by decide) (hts _ wd_718) (fun _ h9 => h9) rfl d_Md_meter_28 ?_
      refine lv_iload_n hx hb d_Md_meter_31 rfl (lv_at hl 2 rfl) ?_
      obtain ⟨k9, v⟩ := v
      refine nv_iald (f := ma) hx hb hK 0 (hP 13 _ rfl) rfl (lp).toNat (Int.toNat_of_nonneg k9.1).symm (by omega) (by decide) d_Md_meter_32 ?_
      refine lv_goto (tgt := 37) hx hb d_Md_meter_33 (by decide) ?_
      refine lv_istore (lv' := [(5, .int (iI (ma (lp).toNat))), (4, .int (iI 1)), (0, .ref h0), (1, .int (iI lp)), (2, .int (iI hour)), (3, .int (iI lx))]) hx hb d_Md_meter_37 hl (by decide) rfl (fun ls hl => ?_)
      refine nv_iconst (n := 0) hx hb d_Md_meter_39 ?_
      refine lv_istore (lv' := [(6, .int (iI 0)), (5, .int (iI (ma (lp).toNat))), (4, .int (iI 1)), (0, .ref h0), (1, .int (iI lp)), (2, .int (iI hour)), (3, .int (iI lx))]) hx hb d_Md_meter_40 hl (by decide) rfl (fun ls hl => ?_)
      obtain ⟨I10, μ11, v49, v50⟩ := v
      have L51 : ∀ (N : Nat) (at_ : Int) (k : Int) (H : Heap) (locs : List Loc) (ls : Array Slot), μ11 at_ k < N → I10 at_ k → va_P D vwCl (wMd cI cJ cZ h0 h1 h2 h3 h4 h5 h6 h7 h8 h9 h10 h11 h12 h13 h14 h15 h16 h17 h18 h19 h20 h21 h22 h23 th no ca ba nl xa sa da la ra fa ta ua uh uo ma mh ml nf fo fh fs rs ic mn bh bo ya np pa nc cp) H → va_D A (wMd cI cJ cZ h0 h1 h2 h3 h4 h5 h6 h7 h8 h9 h10 h11 h12 h13 h14 h15 h16 h17 h18 h19 h20 h21 h22 h23 th no ca ba nl xa sa da la ra fa ta ua uh uo ma mh ml nf fo fh fs rs ic mn bh bo ya np pa nc cp) → va_S A s.heap H locs → lv_has ls 7 [(0, .ref h0), (1, .int (iI lp)), (2, .int (iI hour)), (3, .int (iI lx)), (4, .int (iI 1)), (5, .int (iI at_)), (6, .int (iI k))] → W p l e (headSpec (.code ⟨"LightDosesModel", "meter", "(III)I"⟩ prog_10_method_17_code 7 (some .int) :: TG) { frames := 1, cells := 0, slots := 0, locals := 25 }).room s m ([Value.ref h0, Value.int (iI lp), Value.int (iI hour), Value.int (iI lx)] : List Value).toArray below meth c H locs 0 0 (MQ below (va_Qi (fun (r : Int32) (u : Int × (Nat → Int) × (Nat → Int) × (Nat → Int) × (Nat → Int) × Int) => ∃ z : Int, r = iI z ∧ post z u.1 u.2.1 u.2.2.1 u.2.2.2.1 u.2.2.2.2.1 u.2.2.2.2.2) (fun u t => va_P D vwCl (wMd cI cJ cZ h0 h1 h2 h3 h4 h5 h6 h7 h8 h9 h10 h11 h12 h13 h14 h15 h16 h17 h18 h19 h20 h21 h22 h23 u.1 no ca ba nl xa sa da u.2.2.2.2.1 ra fa ta ua uh uo u.2.2.2.1 u.2.1 u.2.2.1 nf fo fh fs rs u.2.2.2.2.2 mn bh bo ya np pa nc cp) t.heap ∧ va_K D vwCl (tyx cI cJ cO cZ) t ∧ va_D A (wMd cI cJ cZ h0 h1 h2 h3 h4 h5 h6 h7 h8 h9 h10 h11 h12 h13 h14 h15 h16 h17 h18 h19 h20 h21 h22 h23 u.1 no ca ba nl xa sa da u.2.2.2.2.1 ra fa ta ua uh uo u.2.2.2.1 u.2.1 u.2.2.1 nf fo fh fs rs u.2.2.2.2.2 mn bh bo ya np pa nc cp)) A) ([Value.ref h0, Value.int (iI lp), Value.int (iI hour), Value.int (iI lx)] : List Value).toArray s 0 0 A) (F0 m 42 ls []) := by
        intro N
        induction N with
        | zero => intro at_ k H locs ls hN; exact absurd hN (Nat.not_lt_zero _)
        | succ N ih12 =>
          intro at_ k H locs ls hN13 hI hP hD hS hl
          have v := v50 at_ k hI
          refine lv_iload hx hb d_Md_meter_42 (lv_at hl 4 rfl) ?_
          refine nv_if_eq (tgt := 89) hx hb d_Md_meter_44 (by decide) (by decide) (fun c14 => absurd c14 (by decide)) (fun _ => ?_)
          refine lv_iload hx hb d_Md_meter_47 (lv_at hl 6 rfl) ?_
          refine lv_aload_n hx hb d_Md_meter_49 rfl (lv_at hl 0 rfl) ?_
          refine va_get (D := D) (ci := 8) (v := .ref h13) (C := "LightDosesModel") (T := T_Md) (N := 32) hx hb hts in_Md hown hK hP 0 rfl rfl 15 (by decide) (hts _ wd_718) (fun _ h9 => h9) rfl d_Md_meter_50 ?_
          refine lv_iload_n hx hb d_Md_meter_53 rfl (lv_at hl 1 rfl) ?_
          obtain ⟨k15, v⟩ := v
          refine nv_iald (f := ma) hx hb hK 0 (hP 13 _ rfl) rfl (lp).toNat (Int.toNat_of_nonneg k15.1).symm (by omega) (by decide) d_Md_meter_54 ?_
          obtain ⟨k16, v⟩ := v
          obtain ⟨k17, v⟩ := v
          refine nv_icmp_ge (tgt := 89) hx hb d_Md_meter_55 (by decide) k16 k17 (fun c18 => ?_) (fun c18 => ?_)
          · replace v := v.1 c18
            refine lv_aload_n hx hb d_Md_meter_89 rfl (lv_at hl 0 rfl) ?_
            refine lv_iload hx hb d_Md_meter_90 (lv_at hl 4 rfl) ?_
            refine lv_iload hx hb d_Md_meter_92 (lv_at hl 5 rfl) ?_
            refine nv_bipush (z := 20) hx hb d_Md_meter_94 (by decide) ?_
            obtain ⟨k19, v⟩ := v
            refine nv_icmp_ge (tgt := 103) hx hb d_Md_meter_96 (by decide) k19 (by decide) (fun c20 => ?_) (fun c20 => ?_)
            · replace v := v.1 c20
              refine nv_iconst (n := 0) hx hb d_Md_meter_103 ?_
              refine lv_iload_n hx hb d_Md_meter_104 rfl (lv_at hl 3 rfl) ?_
              obtain ⟨k21, v⟩ := v
              refine vp_callSi (nv_runS (wc := []) (As := [.int (iI lx)]) (rest := [.int (iI 0), .int (iI 1), .ref h0]) ⟨hx, hb, hml, hown, hts⟩ (m_Md_isLux l D cI cJ cO cZ lx (fun z => (z = 1 ∧ (0 ≤ lx ∧ lx ≤ 5000)) ∨ (z = 0 ∧ ¬ (0 ≤ lx ∧ lx ≤ 5000))) (s_Md_isLux lx k21)) (nv_cwS (n := 1) hts wd_825 wd_826 wd_10 wd_827 (by decide +kernel) ⟨Nat.le_of_ble_eq_true rfl, Nat.le_of_ble_eq_true rfl⟩) hK (hP.sub [] rfl) rfl hl.1 rfl (Nat.le_of_ble_eq_true rfl) d_Md_meter_105 (Nat.le_of_ble_eq_true rfl) (Nat.le_of_ble_eq_true rfl)) (fun r hr => ?_)
              rcases hr with ⟨_, rfl, ⟨rfl, c22⟩ | ⟨rfl, c22⟩⟩
              · replace v := v.1 c22
                have hPc := hP.sub (ws' := (wMd cI cJ cZ h0 h1 h2 h3 h4 h5 h6 h7 h8 h9 h10 h11 h12 h13 h14 h15 h16 h17 h18 h19 h20 h21 h22 h23 th no ca ba nl xa sa da la ra fa ta ua uh uo ma mh ml nf fo fh fs rs ic mn bh bo ya np pa nc cp)) [0, 1, 2, 3, 4, 5, 6, 7, 8, 9, 10, 11, 12, 13, 14, 15, 16, 17, 18, 19, 20, 21, 22, 23] rfl
                have hDc := hD.sub (ws' := (wMd cI cJ cZ h0 h1 h2 h3 h4 h5 h6 h7 h8 h9 h10 h11 h12 h13 h14 h15 h16 h17 h18 h19 h20 h21 h22 h23 th no ca ba nl xa sa da la ra fa ta ua uh uo ma mh ml nf fo fh fs rs ic mn bh bo ya np pa nc cp)) [0, 1, 2, 3, 4, 5, 6, 7, 8, 9, 10, 11, 12, 13, 14, 15, 16, 17, 18, 19, 20, 21, 22, 23] (by decide) rfl
                have hFc := va_free (wc := (wMd cI cJ cZ h0 h1 h2 h3 h4 h5 h6 h7 h8 h9 h10 h11 h12 h13 h14 h15 h16 h17 h18 h19 h20 h21 h22 h23 th no ca ba nl xa sa da la ra fa ta ua uh uo ma mh ml nf fo fh fs rs ic mn bh bo ya np pa nc cp)) hD hS hA [0, 1, 2, 3, 4, 5, 6, 7, 8, 9, 10, 11, 12, 13, 14, 15, 16, 17, 18, 19, 20, 21, 22, 23] rfl
                refine va_calli (va_runV (As := [.int (iI 1), .int (iI 0), .int (iI 1)]) (rest := []) ⟨hx, hb, hml, hown, hts⟩ (m_Md_goes l D cI cJ cO cZ h0 h1 h2 h3 h4 h5 h6 h7 h8 h9 h10 h11 h12 h13 h14 h15 h16 h17 h18 h19 h20 h21 h22 h23 H.size th no ca ba nl xa sa da la ra fa ta ua uh uo ma mh ml nf fo fh fs rs ic mn bh bo ya np pa nc cp 1 0 1 (fun z t => z = 0 ∧ t = 2) (s_Md_goes_101 th no ca ba nl xa sa da la ra fa ta ua uh uo ma mh ml nf fo fh fs rs ic mn bh bo ya np pa nc cp)) (nv_cwV (n := 3) hts wd_812 wd_814 sl_17 wd_10 wd_815 (by decide +kernel) ⟨Nat.le_of_ble_eq_true rfl, Nat.le_of_ble_eq_true rfl⟩) ⟨blW, va_recv hK hPc (ci := 8) (q0 := 0) rfl rfl, fun U hU hW => ⟨rfl, by rw [hU], by rw [hU]; exact hPc, va_K.moved hW.alike hK, hDc.weaken (fun _ _ _ _ => trivial)⟩⟩ rfl rfl hl.1 rfl (lv_room (Nat.le_of_ble_eq_true rfl)) d_Md_meter_108 ⟨Nat.le_of_ble_eq_true rfl, Nat.le_of_ble_eq_true rfl⟩) hS (fun q _ h => hFc q h) hFc (fun r u t H1 locs ht hvm hw hB hz1 hk1 hS => ?_)
                obtain ⟨hP1, hK1, hD1⟩ := hB
                rw [ht] at hP1
                obtain ⟨_, rfl, rfl, rfl⟩ := hw
                obtain ⟨hP, hD⟩ := va_join (wr := []) (w1 := (wMd cI cJ cZ h0 h1 h2 h3 h4 h5 h6 h7 h8 h9 h10 h11 h12 h13 h14 h15 h16 h17 h18 h19 h20 h21 h22 h23 2 no ca ba nl xa sa da la ra fa ta ua uh uo ma mh ml nf fo fh fs rs ic mn bh bo ya np pa nc cp)) hP hD [0, 1, 2, 3, 4, 5, 6, 7, 8, 9, 10, 11, 12, 13, 14, 15, 16, 17, 18, 19, 20, 21, 22, 23] [] rfl rfl (by decide) (by decide) hk1 hFc hP1 hD1
                generalize H1 = H at hP hS ⊢
                have hP : va_P D vwCl (wMd cI cJ cZ h0 h1 h2 h3 h4 h5 h6 h7 h8 h9 h10 h11 h12 h13 h14 h15 h16 h17 h18 h19 h20 h21 h22 h23 2 no ca ba nl xa sa da la ra fa ta ua uh uo ma mh ml nf fo fh fs rs ic mn bh bo ya np pa nc cp) H := hP
                have hD : va_D A (wMd cI cJ cZ h0 h1 h2 h3 h4 h5 h6 h7 h8 h9 h10 h11 h12 h13 h14 h15 h16 h17 h18 h19 h20 h21 h22 h23 2 no ca ba nl xa sa da la ra fa ta ua uh uo ma mh ml nf fo fh fs rs ic mn bh bo ya np pa nc cp) := hD
                refine W.widen (k := 0) (n := 0) (Nat.le_of_ble_eq_true rfl) (Nat.le_of_ble_eq_true rfl) ?_
                refine nv_if_ne (tgt := 116) hx hb d_Md_meter_111 (by decide) (by decide) (fun c23 => absurd c23 (by decide)) (fun _ => ?_)
                refine nv_iconst (n := 0) hx hb d_Md_meter_114 ?_
                have hP9 := hP.sub (ws' := (wMd cI cJ cZ h0 h1 h2 h3 h4 h5 h6 h7 h8 h9 h10 h11 h12 h13 h14 h15 h16 h17 h18 h19 h20 h21 h22 h23 2 no ca ba nl xa sa da la ra fa ta ua uh uo ma mh ml nf fo fh fs rs ic mn bh bo ya np pa nc cp)) [0, 1, 2, 3, 4, 5, 6, 7, 8, 9, 10, 11, 12, 13, 14, 15, 16, 17, 18, 19, 20, 21, 22, 23] rfl
                have hD9 := hD.sub (ws' := (wMd cI cJ cZ h0 h1 h2 h3 h4 h5 h6 h7 h8 h9 h10 h11 h12 h13 h14 h15 h16 h17 h18 h19 h20 h21 h22 h23 2 no ca ba nl xa sa da la ra fa ta ua uh uo ma mh ml nf fo fh fs rs ic mn bh bo ya np pa nc cp)) [0, 1, 2, 3, 4, 5, 6, 7, 8, 9, 10, 11, 12, 13, 14, 15, 16, 17, 18, 19, 20, 21, 22, 23] (by decide) rfl
                exact W.iret hx hb hr (fun t ht hW => ⟨⟨_, ((2), (mh), (ml), (ma), (la), (ic)), rfl, ⟨_, rfl, v⟩, by rw [ht]; exact hP9, va_K.moved hW.alike hK, hD9⟩, hS.F ht⟩) hS.2.2 d_Md_meter_115
              · replace v := v.2 c22
                have hPc := hP.sub (ws' := (wMd cI cJ cZ h0 h1 h2 h3 h4 h5 h6 h7 h8 h9 h10 h11 h12 h13 h14 h15 h16 h17 h18 h19 h20 h21 h22 h23 th no ca ba nl xa sa da la ra fa ta ua uh uo ma mh ml nf fo fh fs rs ic mn bh bo ya np pa nc cp)) [0, 1, 2, 3, 4, 5, 6, 7, 8, 9, 10, 11, 12, 13, 14, 15, 16, 17, 18, 19, 20, 21, 22, 23] rfl
                have hDc := hD.sub (ws' := (wMd cI cJ cZ h0 h1 h2 h3 h4 h5 h6 h7 h8 h9 h10 h11 h12 h13 h14 h15 h16 h17 h18 h19 h20 h21 h22 h23 th no ca ba nl xa sa da la ra fa ta ua uh uo ma mh ml nf fo fh fs rs ic mn bh bo ya np pa nc cp)) [0, 1, 2, 3, 4, 5, 6, 7, 8, 9, 10, 11, 12, 13, 14, 15, 16, 17, 18, 19, 20, 21, 22, 23] (by decide) rfl
                have hFc := va_free (wc := (wMd cI cJ cZ h0 h1 h2 h3 h4 h5 h6 h7 h8 h9 h10 h11 h12 h13 h14 h15 h16 h17 h18 h19 h20 h21 h22 h23 th no ca ba nl xa sa da la ra fa ta ua uh uo ma mh ml nf fo fh fs rs ic mn bh bo ya np pa nc cp)) hD hS hA [0, 1, 2, 3, 4, 5, 6, 7, 8, 9, 10, 11, 12, 13, 14, 15, 16, 17, 18, 19, 20, 21, 22, 23] rfl
                refine va_calli (va_runV (As := [.int (iI 1), .int (iI 0), .int (iI 0)]) (rest := []) ⟨hx, hb, hml, hown, hts⟩ (m_Md_goes l D cI cJ cO cZ h0 h1 h2 h3 h4 h5 h6 h7 h8 h9 h10 h11 h12 h13 h14 h15 h16 h17 h18 h19 h20 h21 h22 h23 H.size th no ca ba nl xa sa da la ra fa ta ua uh uo ma mh ml nf fo fh fs rs ic mn bh bo ya np pa nc cp 1 0 0 (fun z t => z = 0 ∧ t = 2) (s_Md_goes_100 th no ca ba nl xa sa da la ra fa ta ua uh uo ma mh ml nf fo fh fs rs ic mn bh bo ya np pa nc cp)) (nv_cwV (n := 3) hts wd_812 wd_814 sl_17 wd_10 wd_815 (by decide +kernel) ⟨Nat.le_of_ble_eq_true rfl, Nat.le_of_ble_eq_true rfl⟩) ⟨blW, va_recv hK hPc (ci := 8) (q0 := 0) rfl rfl, fun U hU hW => ⟨rfl, by rw [hU], by rw [hU]; exact hPc, va_K.moved hW.alike hK, hDc.weaken (fun _ _ _ _ => trivial)⟩⟩ rfl rfl hl.1 rfl (lv_room (Nat.le_of_ble_eq_true rfl)) d_Md_meter_108 ⟨Nat.le_of_ble_eq_true rfl, Nat.le_of_ble_eq_true rfl⟩) hS (fun q _ h => hFc q h) hFc (fun r u t H1 locs ht hvm hw hB hz1 hk1 hS => ?_)
                obtain ⟨hP1, hK1, hD1⟩ := hB
                rw [ht] at hP1
                obtain ⟨_, rfl, rfl, rfl⟩ := hw
                obtain ⟨hP, hD⟩ := va_join (wr := []) (w1 := (wMd cI cJ cZ h0 h1 h2 h3 h4 h5 h6 h7 h8 h9 h10 h11 h12 h13 h14 h15 h16 h17 h18 h19 h20 h21 h22 h23 2 no ca ba nl xa sa da la ra fa ta ua uh uo ma mh ml nf fo fh fs rs ic mn bh bo ya np pa nc cp)) hP hD [0, 1, 2, 3, 4, 5, 6, 7, 8, 9, 10, 11, 12, 13, 14, 15, 16, 17, 18, 19, 20, 21, 22, 23] [] rfl rfl (by decide) (by decide) hk1 hFc hP1 hD1
                generalize H1 = H at hP hS ⊢
                have hP : va_P D vwCl (wMd cI cJ cZ h0 h1 h2 h3 h4 h5 h6 h7 h8 h9 h10 h11 h12 h13 h14 h15 h16 h17 h18 h19 h20 h21 h22 h23 2 no ca ba nl xa sa da la ra fa ta ua uh uo ma mh ml nf fo fh fs rs ic mn bh bo ya np pa nc cp) H := hP
                have hD : va_D A (wMd cI cJ cZ h0 h1 h2 h3 h4 h5 h6 h7 h8 h9 h10 h11 h12 h13 h14 h15 h16 h17 h18 h19 h20 h21 h22 h23 2 no ca ba nl xa sa da la ra fa ta ua uh uo ma mh ml nf fo fh fs rs ic mn bh bo ya np pa nc cp) := hD
                refine W.widen (k := 0) (n := 0) (Nat.le_of_ble_eq_true rfl) (Nat.le_of_ble_eq_true rfl) ?_
                refine nv_if_ne (tgt := 116) hx hb d_Md_meter_111 (by decide) (by decide) (fun c24 => absurd c24 (by decide)) (fun _ => ?_)
                refine nv_iconst (n := 0) hx hb d_Md_meter_114 ?_
                have hP9 := hP.sub (ws' := (wMd cI cJ cZ h0 h1 h2 h3 h4 h5 h6 h7 h8 h9 h10 h11 h12 h13 h14 h15 h16 h17 h18 h19 h20 h21 h22 h23 2 no ca ba nl xa sa da la ra fa ta ua uh uo ma mh ml nf fo fh fs rs ic mn bh bo ya np pa nc cp)) [0, 1, 2, 3, 4, 5, 6, 7, 8, 9, 10, 11, 12, 13, 14, 15, 16, 17, 18, 19, 20, 21, 22, 23] rfl
                have hD9 := hD.sub (ws' := (wMd cI cJ cZ h0 h1 h2 h3 h4 h5 h6 h7 h8 h9 h10 h11 h12 h13 h14 h15 h16 h17 h18 h19 h20 h21 h22 h23 2 no ca ba nl xa sa da la ra fa ta ua uh uo ma mh ml nf fo fh fs rs ic mn bh bo ya np pa nc cp)) [0, 1, 2, 3, 4, 5, 6, 7, 8, 9, 10, 11, 12, 13, 14, 15, 16, 17, 18, 19, 20, 21, 22, 23] (by decide) rfl
                exact W.iret hx hb hr (fun t ht hW => ⟨⟨_, ((2), (mh), (ml), (ma), (la), (ic)), rfl, ⟨_, rfl, v⟩, by rw [ht]; exact hP9, va_K.moved hW.alike hK, hD9⟩, hS.F ht⟩) hS.2.2 d_Md_meter_115
            · replace v := v.2 c20
              refine nv_iconst (n := 1) hx hb d_Md_meter_99 ?_
              refine lv_goto (tgt := 104) hx hb d_Md_meter_100 (by decide) ?_
              refine lv_iload_n hx hb d_Md_meter_104 rfl (lv_at hl 3 rfl) ?_
              obtain ⟨k25, v⟩ := v
              refine vp_callSi (nv_runS (wc := []) (As := [.int (iI lx)]) (rest := [.int (iI 1), .int (iI 1), .ref h0]) ⟨hx, hb, hml, hown, hts⟩ (m_Md_isLux l D cI cJ cO cZ lx (fun z => (z = 1 ∧ (0 ≤ lx ∧ lx ≤ 5000)) ∨ (z = 0 ∧ ¬ (0 ≤ lx ∧ lx ≤ 5000))) (s_Md_isLux lx k25)) (nv_cwS (n := 1) hts wd_825 wd_826 wd_10 wd_827 (by decide +kernel) ⟨Nat.le_of_ble_eq_true rfl, Nat.le_of_ble_eq_true rfl⟩) hK (hP.sub [] rfl) rfl hl.1 rfl (Nat.le_of_ble_eq_true rfl) d_Md_meter_105 (Nat.le_of_ble_eq_true rfl) (Nat.le_of_ble_eq_true rfl)) (fun r hr => ?_)
              rcases hr with ⟨_, rfl, ⟨rfl, c26⟩ | ⟨rfl, c26⟩⟩
              · replace v := v.1 c26
                have hPc := hP.sub (ws' := (wMd cI cJ cZ h0 h1 h2 h3 h4 h5 h6 h7 h8 h9 h10 h11 h12 h13 h14 h15 h16 h17 h18 h19 h20 h21 h22 h23 th no ca ba nl xa sa da la ra fa ta ua uh uo ma mh ml nf fo fh fs rs ic mn bh bo ya np pa nc cp)) [0, 1, 2, 3, 4, 5, 6, 7, 8, 9, 10, 11, 12, 13, 14, 15, 16, 17, 18, 19, 20, 21, 22, 23] rfl
                have hDc := hD.sub (ws' := (wMd cI cJ cZ h0 h1 h2 h3 h4 h5 h6 h7 h8 h9 h10 h11 h12 h13 h14 h15 h16 h17 h18 h19 h20 h21 h22 h23 th no ca ba nl xa sa da la ra fa ta ua uh uo ma mh ml nf fo fh fs rs ic mn bh bo ya np pa nc cp)) [0, 1, 2, 3, 4, 5, 6, 7, 8, 9, 10, 11, 12, 13, 14, 15, 16, 17, 18, 19, 20, 21, 22, 23] (by decide) rfl
                have hFc := va_free (wc := (wMd cI cJ cZ h0 h1 h2 h3 h4 h5 h6 h7 h8 h9 h10 h11 h12 h13 h14 h15 h16 h17 h18 h19 h20 h21 h22 h23 th no ca ba nl xa sa da la ra fa ta ua uh uo ma mh ml nf fo fh fs rs ic mn bh bo ya np pa nc cp)) hD hS hA [0, 1, 2, 3, 4, 5, 6, 7, 8, 9, 10, 11, 12, 13, 14, 15, 16, 17, 18, 19, 20, 21, 22, 23] rfl
                refine va_calli (va_runV (As := [.int (iI 1), .int (iI 1), .int (iI 1)]) (rest := []) ⟨hx, hb, hml, hown, hts⟩ (m_Md_goes l D cI cJ cO cZ h0 h1 h2 h3 h4 h5 h6 h7 h8 h9 h10 h11 h12 h13 h14 h15 h16 h17 h18 h19 h20 h21 h22 h23 H.size th no ca ba nl xa sa da la ra fa ta ua uh uo ma mh ml nf fo fh fs rs ic mn bh bo ya np pa nc cp 1 1 1 (fun z t => z = 1 ∧ t = 0) (s_Md_goes_111 th no ca ba nl xa sa da la ra fa ta ua uh uo ma mh ml nf fo fh fs rs ic mn bh bo ya np pa nc cp)) (nv_cwV (n := 3) hts wd_812 wd_814 sl_17 wd_10 wd_815 (by decide +kernel) ⟨Nat.le_of_ble_eq_true rfl, Nat.le_of_ble_eq_true rfl⟩) ⟨blW, va_recv hK hPc (ci := 8) (q0 := 0) rfl rfl, fun U hU hW => ⟨rfl, by rw [hU], by rw [hU]; exact hPc, va_K.moved hW.alike hK, hDc.weaken (fun _ _ _ _ => trivial)⟩⟩ rfl rfl hl.1 rfl (lv_room (Nat.le_of_ble_eq_true rfl)) d_Md_meter_108 ⟨Nat.le_of_ble_eq_true rfl, Nat.le_of_ble_eq_true rfl⟩) hS (fun q _ h => hFc q h) hFc (fun r u t H1 locs ht hvm hw hB hz1 hk1 hS => ?_)
                obtain ⟨hP1, hK1, hD1⟩ := hB
                rw [ht] at hP1
                obtain ⟨_, rfl, rfl, rfl⟩ := hw
                obtain ⟨hP, hD⟩ := va_join (wr := []) (w1 := (wMd cI cJ cZ h0 h1 h2 h3 h4 h5 h6 h7 h8 h9 h10 h11 h12 h13 h14 h15 h16 h17 h18 h19 h20 h21 h22 h23 0 no ca ba nl xa sa da la ra fa ta ua uh uo ma mh ml nf fo fh fs rs ic mn bh bo ya np pa nc cp)) hP hD [0, 1, 2, 3, 4, 5, 6, 7, 8, 9, 10, 11, 12, 13, 14, 15, 16, 17, 18, 19, 20, 21, 22, 23] [] rfl rfl (by decide) (by decide) hk1 hFc hP1 hD1
                generalize H1 = H at hP hS ⊢
                have hP : va_P D vwCl (wMd cI cJ cZ h0 h1 h2 h3 h4 h5 h6 h7 h8 h9 h10 h11 h12 h13 h14 h15 h16 h17 h18 h19 h20 h21 h22 h23 0 no ca ba nl xa sa da la ra fa ta ua uh uo ma mh ml nf fo fh fs rs ic mn bh bo ya np pa nc cp) H := hP
                have hD : va_D A (wMd cI cJ cZ h0 h1 h2 h3 h4 h5 h6 h7 h8 h9 h10 h11 h12 h13 h14 h15 h16 h17 h18 h19 h20 h21 h22 h23 0 no ca ba nl xa sa da la ra fa ta ua uh uo ma mh ml nf fo fh fs rs ic mn bh bo ya np pa nc cp) := hD
                refine W.widen (k := 0) (n := 0) (Nat.le_of_ble_eq_true rfl) (Nat.le_of_ble_eq_true rfl) ?_
                refine nv_if_ne (tgt := 116) hx hb d_Md_meter_111 (by decide) (by decide) (fun _ => ?_) (fun c27 => absurd c27 (by decide))
                refine lv_aload_n hx hb d_Md_meter_116 rfl (lv_at hl 0 rfl) ?_
                refine va_get (D := D) (ci := 8) (v := .ref h14) (C := "LightDosesModel") (T := T_Md) (N := 32) hx hb hts in_Md hown hK hP 0 rfl rfl 16 (by decide) (hts _ wd_719) (fun _ h9 => h9) rfl d_Md_meter_117 ?_
                refine nv_bipush (z := 20) hx hb d_Md_meter_120 (by decide) ?_
                refine lv_iload_n hx hb d_Md_meter_122 rfl (lv_at hl 1 rfl) ?_
                refine nv_imul (z := 20 * lp) hx hb d_Md_meter_123 (by first | rfl | omega) ?_
                refine lv_iload hx hb d_Md_meter_124 (lv_at hl 5 rfl) ?_
                refine nv_iadd (z := 20 * lp + at_) hx hb d_Md_meter_126 (by first | rfl | omega) ?_
                refine lv_iload_n hx hb d_Md_meter_127 rfl (lv_at hl 2 rfl) ?_
                obtain ⟨k28, v⟩ := v
                refine nv_iast (f := mh) hx hb hK hP hD hS 14 0 rfl rfl (20 * lp + at_).toNat (Int.toNat_of_nonneg k28.1).symm (by omega) (by decide) d_Md_meter_128 (fun H locs hP hD hS => ?_)
                have hP : va_P D vwCl (wMd cI cJ cZ h0 h1 h2 h3 h4 h5 h6 h7 h8 h9 h10 h11 h12 h13 h14 h15 h16 h17 h18 h19 h20 h21 h22 h23 0 no ca ba nl xa sa da la ra fa ta ua uh uo ma (va_up mh (20 * lp + at_).toNat hour) ml nf fo fh fs rs ic mn bh bo ya np pa nc cp) H := hP
                have hD : va_D A (wMd cI cJ cZ h0 h1 h2 h3 h4 h5 h6 h7 h8 h9 h10 h11 h12 h13 h14 h15 h16 h17 h18 h19 h20 h21 h22 h23 0 no ca ba nl xa sa da la ra fa ta ua uh uo ma (va_up mh (20 * lp + at_).toNat hour) ml nf fo fh fs rs ic mn bh bo ya np pa nc cp) := hD
                refine lv_aload_n hx hb d_Md_meter_129 rfl (lv_at hl 0 rfl) ?_
                refine va_get (D := D) (ci := 8) (v := .ref h15) (C := "LightDosesModel") (T := T_Md) (N := 32) hx hb hts in_Md hown hK hP 0 rfl rfl 17 (by decide) (hts _ wd_720) (fun _ h9 => h9) rfl d_Md_meter_130 ?_
                refine nv_bipush (z := 20) hx hb d_Md_meter_133 (by decide) ?_
                refine lv_iload_n hx hb d_Md_meter_135 rfl (lv_at hl 1 rfl) ?_
                refine nv_imul (z := 20 * lp) hx hb d_Md_meter_136 (by first | rfl | omega) ?_
                refine lv_iload hx hb d_Md_meter_137 (lv_at hl 5 rfl) ?_
                refine nv_iadd (z := 20 * lp + at_) hx hb d_Md_meter_139 (by first | rfl | omega) ?_
                refine lv_iload_n hx hb d_Md_meter_140 rfl (lv_at hl 3 rfl) ?_
                obtain ⟨k29, v⟩ := v
                refine nv_iast (f := ml) hx hb hK hP hD hS 15 0 rfl rfl (20 * lp + at_).toNat (Int.toNat_of_nonneg k29.1).symm (by omega) (by decide) d_Md_meter_141 (fun H locs hP hD hS => ?_)
                have hP : va_P D vwCl (wMd cI cJ cZ h0 h1 h2 h3 h4 h5 h6 h7 h8 h9 h10 h11 h12 h13 h14 h15 h16 h17 h18 h19 h20 h21 h22 h23 0 no ca ba nl xa sa da la ra fa ta ua uh uo ma (va_up mh (20 * lp + at_).toNat hour) (va_up ml (20 * lp + at_).toNat lx) nf fo fh fs rs ic mn bh bo ya np pa nc cp) H := hP
                have hD : va_D A (wMd cI cJ cZ h0 h1 h2 h3 h4 h5 h6 h7 h8 h9 h10 h11 h12 h13 h14 h15 h16 h17 h18 h19 h20 h21 h22 h23 0 no ca ba nl xa sa da la ra fa ta ua uh uo ma (va_up mh (20 * lp + at_).toNat hour) (va_up ml (20 * lp + at_).toNat lx) nf fo fh fs rs ic mn bh bo ya np pa nc cp) := hD
                refine lv_aload_n hx hb d_Md_meter_142 rfl (lv_at hl 0 rfl) ?_
                refine va_get (D := D) (ci := 8) (v := .ref h13) (C := "LightDosesModel") (T := T_Md) (N := 32) hx hb hts in_Md hown hK hP 0 rfl rfl 15 (by decide) (hts _ wd_718) (fun _ h9 => h9) rfl d_Md_meter_143 ?_
                refine lv_iload_n hx hb d_Md_meter_146 rfl (lv_at hl 1 rfl) ?_
                refine lv_iload hx hb d_Md_meter_147 (lv_at hl 5 rfl) ?_
                refine lv_aload_n hx hb d_Md_meter_149 rfl (lv_at hl 0 rfl) ?_
                refine va_get (D := D) (ci := 8) (v := .ref h13) (C := "LightDosesModel") (T := T_Md) (N := 32) hx hb hts in_Md hown hK hP 0 rfl rfl 15 (by decide) (hts _ wd_718) (fun _ h9 => h9) rfl d_Md_meter_150 ?_
                refine lv_iload_n hx hb d_Md_meter_153 rfl (lv_at hl 1 rfl) ?_
                obtain ⟨k30, v⟩ := v
                refine nv_iald (f := ma) hx hb hK 0 (hP 13 _ rfl) rfl (lp).toNat (Int.toNat_of_nonneg k30.1).symm (by omega) (by decide) d_Md_meter_154 ?_
                refine nv_icmp_ne (tgt := 165) hx hb d_Md_meter_155 (by decide) k19 k17 (fun c31 => ?_) (fun c31 => ?_)
                · replace v := v.1 c31
                  refine lv_aload_n hx hb d_Md_meter_165 rfl (lv_at hl 0 rfl) ?_
                  refine va_get (D := D) (ci := 8) (v := .ref h13) (C := "LightDosesModel") (T := T_Md) (N := 32) hx hb hts in_Md hown hK hP 0 rfl rfl 15 (by decide) (hts _ wd_718) (fun _ h9 => h9) rfl d_Md_meter_166 ?_
                  refine lv_iload_n hx hb d_Md_meter_169 rfl (lv_at hl 1 rfl) ?_
                  obtain ⟨k32, v⟩ := v
                  refine nv_iald (f := ma) hx hb hK 0 (hP 13 _ rfl) rfl (lp).toNat (Int.toNat_of_nonneg k32.1).symm (by omega) (by decide) d_Md_meter_170 ?_
                  obtain ⟨k33, v⟩ := v
                  refine nv_iast (f := ma) hx hb hK hP hD hS 13 0 rfl rfl (lp).toNat (Int.toNat_of_nonneg k33.1).symm (by omega) (by decide) d_Md_meter_171 (fun H locs hP hD hS => ?_)
                  have hP : va_P D vwCl (wMd cI cJ cZ h0 h1 h2 h3 h4 h5 h6 h7 h8 h9 h10 h11 h12 h13 h14 h15 h16 h17 h18 h19 h20 h21 h22 h23 0 no ca ba nl xa sa da la ra fa ta ua uh uo (va_up ma (lp).toNat (ma (lp).toNat)) (va_up mh (20 * lp + at_).toNat hour) (va_up ml (20 * lp + at_).toNat lx) nf fo fh fs rs ic mn bh bo ya np pa nc cp) H := hP
                  have hD : va_D A (wMd cI cJ cZ h0 h1 h2 h3 h4 h5 h6 h7 h8 h9 h10 h11 h12 h13 h14 h15 h16 h17 h18 h19 h20 h21 h22 h23 0 no ca ba nl xa sa da la ra fa ta ua uh uo (va_up ma (lp).toNat (ma (lp).toNat)) (va_up mh (20 * lp + at_).toNat hour) (va_up ml (20 * lp + at_).toNat lx) nf fo fh fs rs ic mn bh bo ya np pa nc cp) := hD
                  refine lv_aload_n hx hb d_Md_meter_172 rfl (lv_at hl 0 rfl) ?_
                  refine lv_iload_n hx hb d_Md_meter_173 rfl (lv_at hl 1 rfl) ?_
                  obtain ⟨P34, q35, v⟩ := v
                  have hPc := hP.sub (ws' := (wMd cI cJ cZ h0 h1 h2 h3 h4 h5 h6 h7 h8 h9 h10 h11 h12 h13 h14 h15 h16 h17 h18 h19 h20 h21 h22 h23 0 no ca ba nl xa sa da la ra fa ta ua uh uo (va_up ma (lp).toNat (ma (lp).toNat)) (va_up mh (20 * lp + at_).toNat hour) (va_up ml (20 * lp + at_).toNat lx) nf fo fh fs rs ic mn bh bo ya np pa nc cp)) [0, 1, 2, 3, 4, 5, 6, 7, 8, 9, 10, 11, 12, 13, 14, 15, 16, 17, 18, 19, 20, 21, 22, 23] rfl
                  have hDc := hD.sub (ws' := (wMd cI cJ cZ h0 h1 h2 h3 h4 h5 h6 h7 h8 h9 h10 h11 h12 h13 h14 h15 h16 h17 h18 h19 h20 h21 h22 h23 0 no ca ba nl xa sa da la ra fa ta ua uh uo (va_up ma (lp).toNat (ma (lp).toNat)) (va_up mh (20 * lp + at_).toNat hour) (va_up ml (20 * lp + at_).toNat lx) nf fo fh fs rs ic mn bh bo ya np pa nc cp)) [0, 1, 2, 3, 4, 5, 6, 7, 8, 9, 10, 11, 12, 13, 14, 15, 16, 17, 18, 19, 20, 21, 22, 23] (by decide) rfl
                  have hFc := va_free (wc := (wMd cI cJ cZ h0 h1 h2 h3 h4 h5 h6 h7 h8 h9 h10 h11 h12 h13 h14 h15 h16 h17 h18 h19 h20 h21 h22 h23 0 no ca ba nl xa sa da la ra fa ta ua uh uo (va_up ma (lp).toNat (ma (lp).toNat)) (va_up mh (20 * lp + at_).toNat hour) (va_up ml (20 * lp + at_).toNat lx) nf fo fh fs rs ic mn bh bo ya np pa nc cp)) hD hS hA [0, 1, 2, 3, 4, 5, 6, 7, 8, 9, 10, 11, 12, 13, 14, 15, 16, 17, 18, 19, 20, 21, 22, 23] rfl
                  refine va_callv (va_runV (As := [.int (iI lp)]) (rest := []) ⟨hx, hb, hml, hown, hts⟩ (m_Md_light l D cI cJ cO cZ h0 h1 h2 h3 h4 h5 h6 h7 h8 h9 h10 h11 h12 h13 h14 h15 h16 h17 h18 h19 h20 h21 h22 h23 H.size 0 no ca ba nl xa sa da la ra fa ta ua uh uo (va_up ma (lp).toNat (ma (lp).toNat)) (va_up mh (20 * lp + at_).toNat hour) (va_up ml (20 * lp + at_).toNat lx) nf fo fh fs rs ic mn bh bo ya np pa nc cp lp P34 q35) (nv_cwV (n := 1) hts wd_828 wd_830 sl_18 wd_10 wd_831 (by decide +kernel) ⟨Nat.le_of_ble_eq_true rfl, Nat.le_of_ble_eq_true rfl⟩) ⟨blW, va_recv hK hPc (ci := 8) (q0 := 0) rfl rfl, fun U hU hW => ⟨rfl, by rw [hU], by rw [hU]; exact hPc, va_K.moved hW.alike hK, hDc.weaken (fun _ _ _ _ => trivial)⟩⟩ rfl rfl hl.1 rfl (lv_room (Nat.le_of_ble_eq_true rfl)) d_Md_meter_174 ⟨Nat.le_of_ble_eq_true rfl, Nat.le_of_ble_eq_true rfl⟩) hS (fun q _ h => hFc q h) hFc (fun u t H1 locs ht hvm hw hB hz1 hk1 hS => ?_)
                  obtain ⟨y36, y37⟩ := u
                  obtain ⟨hP1, hK1, hD1⟩ := hB
                  rw [ht] at hP1
                  obtain ⟨hP, hD⟩ := va_join (wr := []) (w1 := (wMd cI cJ cZ h0 h1 h2 h3 h4 h5 h6 h7 h8 h9 h10 h11 h12 h13 h14 h15 h16 h17 h18 h19 h20 h21 h22 h23 0 no ca ba nl xa sa da y36 ra fa ta ua uh uo (va_up ma (lp).toNat (ma (lp).toNat)) (va_up mh (20 * lp + at_).toNat hour) (va_up ml (20 * lp + at_).toNat lx) nf fo fh fs rs y37 mn bh bo ya np pa nc cp)) hP hD [0, 1, 2, 3, 4, 5, 6, 7, 8, 9, 10, 11, 12, 13, 14, 15, 16, 17, 18, 19, 20, 21, 22, 23] [] rfl rfl (by decide) (by decide) hk1 hFc hP1 hD1
                  generalize H1 = H at hP hS ⊢
                  have hP : va_P D vwCl (wMd cI cJ cZ h0 h1 h2 h3 h4 h5 h6 h7 h8 h9 h10 h11 h12 h13 h14 h15 h16 h17 h18 h19 h20 h21 h22 h23 0 no ca ba nl xa sa da y36 ra fa ta ua uh uo (va_up ma (lp).toNat (ma (lp).toNat)) (va_up mh (20 * lp + at_).toNat hour) (va_up ml (20 * lp + at_).toNat lx) nf fo fh fs rs y37 mn bh bo ya np pa nc cp) H := hP
                  have hD : va_D A (wMd cI cJ cZ h0 h1 h2 h3 h4 h5 h6 h7 h8 h9 h10 h11 h12 h13 h14 h15 h16 h17 h18 h19 h20 h21 h22 h23 0 no ca ba nl xa sa da y36 ra fa ta ua uh uo (va_up ma (lp).toNat (ma (lp).toNat)) (va_up mh (20 * lp + at_).toNat hour) (va_up ml (20 * lp + at_).toNat lx) nf fo fh fs rs y37 mn bh bo ya np pa nc cp) := hD
                  refine W.widen (k := 0) (n := 0) (Nat.le_of_ble_eq_true rfl) (Nat.le_of_ble_eq_true rfl) ?_
                  replace v := v y36 y37 hw
                  refine lv_aload_n hx hb d_Md_meter_177 rfl (lv_at hl 0 rfl) ?_
                  refine va_get (D := D) (ci := 8) (v := .ref h13) (C := "LightDosesModel") (T := T_Md) (N := 32) hx hb hts in_Md hown hK hP 0 rfl rfl 15 (by decide) (hts _ wd_718) (fun _ h9 => h9) rfl d_Md_meter_178 ?_
                  refine lv_iload_n hx hb d_Md_meter_181 rfl (lv_at hl 1 rfl) ?_
                  obtain ⟨k38, v⟩ := v
                  refine nv_iald (f := va_up ma (lp).toNat (ma (lp).toNat)) hx hb hK 0 (hP 13 _ rfl) rfl (lp).toNat (Int.toNat_of_nonneg k38.1).symm (by omega) (by decide) d_Md_meter_182 ?_
                  have hP9 := hP.sub (ws' := (wMd cI cJ cZ h0 h1 h2 h3 h4 h5 h6 h7 h8 h9 h10 h11 h12 h13 h14 h15 h16 h17 h18 h19 h20 h21 h22 h23 0 no ca ba nl xa sa da y36 ra fa ta ua uh uo (va_up ma (lp).toNat (ma (lp).toNat)) (va_up mh (20 * lp + at_).toNat hour) (va_up ml (20 * lp + at_).toNat lx) nf fo fh fs rs y37 mn bh bo ya np pa nc cp)) [0, 1, 2, 3, 4, 5, 6, 7, 8, 9, 10, 11, 12, 13, 14, 15, 16, 17, 18, 19, 20, 21, 22, 23] rfl
                  have hD9 := hD.sub (ws' := (wMd cI cJ cZ h0 h1 h2 h3 h4 h5 h6 h7 h8 h9 h10 h11 h12 h13 h14 h15 h16 h17 h18 h19 h20 h21 h22 h23 0 no ca ba nl xa sa da y36 ra fa ta ua uh uo (va_up ma (lp).toNat (ma (lp).toNat)) (va_up mh (20 * lp + at_).toNat hour) (va_up ml (20 * lp + at_).toNat lx) nf fo fh fs rs y37 mn bh bo ya np pa nc cp)) [0, 1, 2, 3, 4, 5, 6, 7, 8, 9, 10, 11, 12, 13, 14, 15, 16, 17, 18, 19, 20, 21, 22, 23] (by decide) rfl
                  exact W.iret hx hb hr (fun t ht hW => ⟨⟨_, ((0), (va_up mh (20 * lp + at_).toNat hour), (va_up ml (20 * lp + at_).toNat lx), (va_up ma (lp).toNat (ma (lp).toNat)), (y36), (y37)), rfl, ⟨_, rfl, v⟩, by rw [ht]; exact hP9, va_K.moved hW.alike hK, hD9⟩, hS.F ht⟩) hS.2.2 d_Md_meter_183
                · replace v := v.2 c31
                  refine lv_iload hx hb d_Md_meter_158 (lv_at hl 5 rfl) ?_
                  refine nv_iconst (n := 1) hx hb d_Md_meter_160 ?_
                  refine nv_iadd (z := at_ + 1) hx hb d_Md_meter_161 (by first | rfl | omega) ?_
                  refine lv_goto (tgt := 171) hx hb d_Md_meter_162 (by decide) ?_
                  obtain ⟨k39, v⟩ := v
                  refine nv_iast (f := ma) hx hb hK hP hD hS 13 0 rfl rfl (lp).toNat (Int.toNat_of_nonneg k39.1).symm (by omega) (by decide) d_Md_meter_171 (fun H locs hP hD hS => ?_)
                  have hP : va_P D vwCl (wMd cI cJ cZ h0 h1 h2 h3 h4 h5 h6 h7 h8 h9 h10 h11 h12 h13 h14 h15 h16 h17 h18 h19 h20 h21 h22 h23 0 no ca ba nl xa sa da la ra fa ta ua uh uo (va_up ma (lp).toNat (at_ + 1)) (va_up mh (20 * lp + at_).toNat hour) (va_up ml (20 * lp + at_).toNat lx) nf fo fh fs rs ic mn bh bo ya np pa nc cp) H := hP
                  have hD : va_D A (wMd cI cJ cZ h0 h1 h2 h3 h4 h5 h6 h7 h8 h9 h10 h11 h12 h13 h14 h15 h16 h17 h18 h19 h20 h21 h22 h23 0 no ca ba nl xa sa da la ra fa ta ua uh uo (va_up ma (lp).toNat (at_ + 1)) (va_up mh (20 * lp + at_).toNat hour) (va_up ml (20 * lp + at_).toNat lx) nf fo fh fs rs ic mn bh bo ya np pa nc cp) := hD
                  refine lv_aload_n hx hb d_Md_meter_172 rfl (lv_at hl 0 rfl) ?_
                  refine lv_iload_n hx hb d_Md_meter_173 rfl (lv_at hl 1 rfl) ?_
                  obtain ⟨P40, q41, v⟩ := v
                  have hPc := hP.sub (ws' := (wMd cI cJ cZ h0 h1 h2 h3 h4 h5 h6 h7 h8 h9 h10 h11 h12 h13 h14 h15 h16 h17 h18 h19 h20 h21 h22 h23 0 no ca ba nl xa sa da la ra fa ta ua uh uo (va_up ma (lp).toNat (at_ + 1)) (va_up mh (20 * lp + at_).toNat hour) (va_up ml (20 * lp + at_).toNat lx) nf fo fh fs rs ic mn bh bo ya np pa nc cp)) [0, 1, 2, 3, 4, 5, 6, 7, 8, 9, 10, 11, 12, 13, 14, 15, 16, 17, 18, 19, 20, 21, 22, 23] rfl
                  have hDc := hD.sub (ws' := (wMd cI cJ cZ h0 h1 h2 h3 h4 h5 h6 h7 h8 h9 h10 h11 h12 h13 h14 h15 h16 h17 h18 h19 h20 h21 h22 h23 0 no ca ba nl xa sa da la ra fa ta ua uh uo (va_up ma (lp).toNat (at_ + 1)) (va_up mh (20 * lp + at_).toNat hour) (va_up ml (20 * lp + at_).toNat lx) nf fo fh fs rs ic mn bh bo ya np pa nc cp)) [0, 1, 2, 3, 4, 5, 6, 7, 8, 9, 10, 11, 12, 13, 14, 15, 16, 17, 18, 19, 20, 21, 22, 23] (by decide) rfl
                  have hFc := va_free (wc := (wMd cI cJ cZ h0 h1 h2 h3 h4 h5 h6 h7 h8 h9 h10 h11 h12 h13 h14 h15 h16 h17 h18 h19 h20 h21 h22 h23 0 no ca ba nl xa sa da la ra fa ta ua uh uo (va_up ma (lp).toNat (at_ + 1)) (va_up mh (20 * lp + at_).toNat hour) (va_up ml (20 * lp + at_).toNat lx) nf fo fh fs rs ic mn bh bo ya np pa nc cp)) hD hS hA [0, 1, 2, 3, 4, 5, 6, 7, 8, 9, 10, 11, 12, 13, 14, 15, 16, 17, 18, 19, 20, 21, 22, 23] rfl
                  refine va_callv (va_runV (As := [.int (iI lp)]) (rest := []) ⟨hx, hb, hml, hown, hts⟩ (m_Md_light l D cI cJ cO cZ h0 h1 h2 h3 h4 h5 h6 h7 h8 h9 h10 h11 h12 h13 h14 h15 h16 h17 h18 h19 h20 h21 h22 h23 H.size 0 no ca ba nl xa sa da la ra fa ta ua uh uo (va_up ma (lp).toNat (at_ + 1)) (va_up mh (20 * lp + at_).toNat hour) (va_up ml (20 * lp + at_).toNat lx) nf fo fh fs rs ic mn bh bo ya np pa nc cp lp P40 q41) (nv_cwV (n := 1) hts wd_828 wd_830 sl_18 wd_10 wd_831 (by decide +kernel) ⟨Nat.le_of_ble_eq_true rfl, Nat.le_of_ble_eq_true rfl⟩) ⟨blW, va_recv hK hPc (ci := 8) (q0 := 0) rfl rfl, fun U hU hW => ⟨rfl, by rw [hU], by rw [hU]; exact hPc, va_K.moved hW.alike hK, hDc.weaken (fun _ _ _ _ => trivial)⟩⟩ rfl rfl hl.1 rfl (lv_room (Nat.le_of_ble_eq_true rfl)) d_Md_meter_174 ⟨Nat.le_of_ble_eq_true rfl, Nat.le_of_ble_eq_true rfl⟩) hS (fun q _ h => hFc q h) hFc (fun u t H1 locs ht hvm hw hB hz1 hk1 hS => ?_)
                  obtain ⟨y42, y43⟩ := u
                  obtain ⟨hP1, hK1, hD1⟩ := hB
                  rw [ht] at hP1
                  obtain ⟨hP, hD⟩ := va_join (wr := []) (w1 := (wMd cI cJ cZ h0 h1 h2 h3 h4 h5 h6 h7 h8 h9 h10 h11 h12 h13 h14 h15 h16 h17 h18 h19 h20 h21 h22 h23 0 no ca ba nl xa sa da y42 ra fa ta ua uh uo (va_up ma (lp).toNat (at_ + 1)) (va_up mh (20 * lp + at_).toNat hour) (va_up ml (20 * lp + at_).toNat lx) nf fo fh fs rs y43 mn bh bo ya np pa nc cp)) hP hD [0, 1, 2, 3, 4, 5, 6, 7, 8, 9, 10, 11, 12, 13, 14, 15, 16, 17, 18, 19, 20, 21, 22, 23] [] rfl rfl (by decide) (by decide) hk1 hFc hP1 hD1
                  generalize H1 = H at hP hS ⊢
                  have hP : va_P D vwCl (wMd cI cJ cZ h0 h1 h2 h3 h4 h5 h6 h7 h8 h9 h10 h11 h12 h13 h14 h15 h16 h17 h18 h19 h20 h21 h22 h23 0 no ca ba nl xa sa da y42 ra fa ta ua uh uo (va_up ma (lp).toNat (at_ + 1)) (va_up mh (20 * lp + at_).toNat hour) (va_up ml (20 * lp + at_).toNat lx) nf fo fh fs rs y43 mn bh bo ya np pa nc cp) H := hP
                  have hD : va_D A (wMd cI cJ cZ h0 h1 h2 h3 h4 h5 h6 h7 h8 h9 h10 h11 h12 h13 h14 h15 h16 h17 h18 h19 h20 h21 h22 h23 0 no ca ba nl xa sa da y42 ra fa ta ua uh uo (va_up ma (lp).toNat (at_ + 1)) (va_up mh (20 * lp + at_).toNat hour) (va_up ml (20 * lp + at_).toNat lx) nf fo fh fs rs y43 mn bh bo ya np pa nc cp) := hD
                  refine W.widen (k := 0) (n := 0) (Nat.le_of_ble_eq_true rfl) (Nat.le_of_ble_eq_true rfl) ?_
                  replace v := v y42 y43 hw
                  refine lv_aload_n hx hb d_Md_meter_177 rfl (lv_at hl 0 rfl) ?_
                  refine va_get (D := D) (ci := 8) (v := .ref h13) (C := "LightDosesModel") (T := T_Md) (N := 32) hx hb hts in_Md hown hK hP 0 rfl rfl 15 (by decide) (hts _ wd_718) (fun _ h9 => h9) rfl d_Md_meter_178 ?_
                  refine lv_iload_n hx hb d_Md_meter_181 rfl (lv_at hl 1 rfl) ?_
                  obtain ⟨k44, v⟩ := v
                  refine nv_iald (f := va_up ma (lp).toNat (at_ + 1)) hx hb hK 0 (hP 13 _ rfl) rfl (lp).toNat (Int.toNat_of_nonneg k44.1).symm (by omega) (by decide) d_Md_meter_182 ?_
                  have hP9 := hP.sub (ws' := (wMd cI cJ cZ h0 h1 h2 h3 h4 h5 h6 h7 h8 h9 h10 h11 h12 h13 h14 h15 h16 h17 h18 h19 h20 h21 h22 h23 0 no ca ba nl xa sa da y42 ra fa ta ua uh uo (va_up ma (lp).toNat (at_ + 1)) (va_up mh (20 * lp + at_).toNat hour) (va_up ml (20 * lp + at_).toNat lx) nf fo fh fs rs y43 mn bh bo ya np pa nc cp)) [0, 1, 2, 3, 4, 5, 6, 7, 8, 9, 10, 11, 12, 13, 14, 15, 16, 17, 18, 19, 20, 21, 22, 23] rfl
                  have hD9 := hD.sub (ws' := (wMd cI cJ cZ h0 h1 h2 h3 h4 h5 h6 h7 h8 h9 h10 h11 h12 h13 h14 h15 h16 h17 h18 h19 h20 h21 h22 h23 0 no ca ba nl xa sa da y42 ra fa ta ua uh uo (va_up ma (lp).toNat (at_ + 1)) (va_up mh (20 * lp + at_).toNat hour) (va_up ml (20 * lp + at_).toNat lx) nf fo fh fs rs y43 mn bh bo ya np pa nc cp)) [0, 1, 2, 3, 4, 5, 6, 7, 8, 9, 10, 11, 12, 13, 14, 15, 16, 17, 18, 19, 20, 21, 22, 23] (by decide) rfl
                  exact W.iret hx hb hr (fun t ht hW => ⟨⟨_, ((0), (va_up mh (20 * lp + at_).toNat hour), (va_up ml (20 * lp + at_).toNat lx), (va_up ma (lp).toNat (at_ + 1)), (y42), (y43)), rfl, ⟨_, rfl, v⟩, by rw [ht]; exact hP9, va_K.moved hW.alike hK, hD9⟩, hS.F ht⟩) hS.2.2 d_Md_meter_183
              · replace v := v.2 c26
                have hPc := hP.sub (ws' := (wMd cI cJ cZ h0 h1 h2 h3 h4 h5 h6 h7 h8 h9 h10 h11 h12 h13 h14 h15 h16 h17 h18 h19 h20 h21 h22 h23 th no ca ba nl xa sa da la ra fa ta ua uh uo ma mh ml nf fo fh fs rs ic mn bh bo ya np pa nc cp)) [0, 1, 2, 3, 4, 5, 6, 7, 8, 9, 10, 11, 12, 13, 14, 15, 16, 17, 18, 19, 20, 21, 22, 23] rfl
                have hDc := hD.sub (ws' := (wMd cI cJ cZ h0 h1 h2 h3 h4 h5 h6 h7 h8 h9 h10 h11 h12 h13 h14 h15 h16 h17 h18 h19 h20 h21 h22 h23 th no ca ba nl xa sa da la ra fa ta ua uh uo ma mh ml nf fo fh fs rs ic mn bh bo ya np pa nc cp)) [0, 1, 2, 3, 4, 5, 6, 7, 8, 9, 10, 11, 12, 13, 14, 15, 16, 17, 18, 19, 20, 21, 22, 23] (by decide) rfl
                have hFc := va_free (wc := (wMd cI cJ cZ h0 h1 h2 h3 h4 h5 h6 h7 h8 h9 h10 h11 h12 h13 h14 h15 h16 h17 h18 h19 h20 h21 h22 h23 th no ca ba nl xa sa da la ra fa ta ua uh uo ma mh ml nf fo fh fs rs ic mn bh bo ya np pa nc cp)) hD hS hA [0, 1, 2, 3, 4, 5, 6, 7, 8, 9, 10, 11, 12, 13, 14, 15, 16, 17, 18, 19, 20, 21, 22, 23] rfl
                refine va_calli (va_runV (As := [.int (iI 1), .int (iI 1), .int (iI 0)]) (rest := []) ⟨hx, hb, hml, hown, hts⟩ (m_Md_goes l D cI cJ cO cZ h0 h1 h2 h3 h4 h5 h6 h7 h8 h9 h10 h11 h12 h13 h14 h15 h16 h17 h18 h19 h20 h21 h22 h23 H.size th no ca ba nl xa sa da la ra fa ta ua uh uo ma mh ml nf fo fh fs rs ic mn bh bo ya np pa nc cp 1 1 0 (fun z t => z = 0 ∧ t = 3) (s_Md_goes_110 th no ca ba nl xa sa da la ra fa ta ua uh uo ma mh ml nf fo fh fs rs ic mn bh bo ya np pa nc cp)) (nv_cwV (n := 3) hts wd_812 wd_814 sl_17 wd_10 wd_815 (by decide +kernel) ⟨Nat.le_of_ble_eq_true rfl, Nat.le_of_ble_eq_true rfl⟩) ⟨blW, va_recv hK hPc (ci := 8) (q0 := 0) rfl rfl, fun U hU hW => ⟨rfl, by rw [hU], by rw [hU]; exact hPc, va_K.moved hW.alike hK, hDc.weaken (fun _ _ _ _ => trivial)⟩⟩ rfl rfl hl.1 rfl (lv_room (Nat.le_of_ble_eq_true rfl)) d_Md_meter_108 ⟨Nat.le_of_ble_eq_true rfl, Nat.le_of_ble_eq_true rfl⟩) hS (fun q _ h => hFc q h) hFc (fun r u t H1 locs ht hvm hw hB hz1 hk1 hS => ?_)
                obtain ⟨hP1, hK1, hD1⟩ := hB
                rw [ht] at hP1
                obtain ⟨_, rfl, rfl, rfl⟩ := hw
                obtain ⟨hP, hD⟩ := va_join (wr := []) (w1 := (wMd cI cJ cZ h0 h1 h2 h3 h4 h5 h6 h7 h8 h9 h10 h11 h12 h13 h14 h15 h16 h17 h18 h19 h20 h21 h22 h23 3 no ca ba nl xa sa da la ra fa ta ua uh uo ma mh ml nf fo fh fs rs ic mn bh bo ya np pa nc cp)) hP hD [0, 1, 2, 3, 4, 5, 6, 7, 8, 9, 10, 11, 12, 13, 14, 15, 16, 17, 18, 19, 20, 21, 22, 23] [] rfl rfl (by decide) (by decide) hk1 hFc hP1 hD1
                generalize H1 = H at hP hS ⊢
                have hP : va_P D vwCl (wMd cI cJ cZ h0 h1 h2 h3 h4 h5 h6 h7 h8 h9 h10 h11 h12 h13 h14 h15 h16 h17 h18 h19 h20 h21 h22 h23 3 no ca ba nl xa sa da la ra fa ta ua uh uo ma mh ml nf fo fh fs rs ic mn bh bo ya np pa nc cp) H := hP
                have hD : va_D A (wMd cI cJ cZ h0 h1 h2 h3 h4 h5 h6 h7 h8 h9 h10 h11 h12 h13 h14 h15 h16 h17 h18 h19 h20 h21 h22 h23 3 no ca ba nl xa sa da la ra fa ta ua uh uo ma mh ml nf fo fh fs rs ic mn bh bo ya np pa nc cp) := hD
                refine W.widen (k := 0) (n := 0) (Nat.le_of_ble_eq_true rfl) (Nat.le_of_ble_eq_true rfl) ?_
                refine nv_if_ne (tgt := 116) hx hb d_Md_meter_111 (by decide) (by decide) (fun c45 => absurd c45 (by decide)) (fun _ => ?_)
                refine nv_iconst (n := 0) hx hb d_Md_meter_114 ?_
                have hP9 := hP.sub (ws' := (wMd cI cJ cZ h0 h1 h2 h3 h4 h5 h6 h7 h8 h9 h10 h11 h12 h13 h14 h15 h16 h17 h18 h19 h20 h21 h22 h23 3 no ca ba nl xa sa da la ra fa ta ua uh uo ma mh ml nf fo fh fs rs ic mn bh bo ya np pa nc cp)) [0, 1, 2, 3, 4, 5, 6, 7, 8, 9, 10, 11, 12, 13, 14, 15, 16, 17, 18, 19, 20, 21, 22, 23] rfl
                have hD9 := hD.sub (ws' := (wMd cI cJ cZ h0 h1 h2 h3 h4 h5 h6 h7 h8 h9 h10 h11 h12 h13 h14 h15 h16 h17 h18 h19 h20 h21 h22 h23 3 no ca ba nl xa sa da la ra fa ta ua uh uo ma mh ml nf fo fh fs rs ic mn bh bo ya np pa nc cp)) [0, 1, 2, 3, 4, 5, 6, 7, 8, 9, 10, 11, 12, 13, 14, 15, 16, 17, 18, 19, 20, 21, 22, 23] (by decide) rfl
                exact W.iret hx hb hr (fun t ht hW => ⟨⟨_, ((3), (mh), (ml), (ma), (la), (ic)), rfl, ⟨_, rfl, v⟩, by rw [ht]; exact hP9, va_K.moved hW.alike hK, hD9⟩, hS.F ht⟩) hS.2.2 d_Md_meter_115
          · replace v := v.2 c18
            refine lv_aload_n hx hb d_Md_meter_58 rfl (lv_at hl 0 rfl) ?_
            refine va_get (D := D) (ci := 8) (v := .ref h14) (C := "LightDosesModel") (T := T_Md) (N := 32) hx hb hts in_Md hown hK hP 0 rfl rfl 16 (by decide) (hts _ wd_719) (fun _ h9 => h9) rfl d_Md_meter_59 ?_
            refine nv_bipush (z := 20) hx hb d_Md_meter_62 (by decide) ?_
            refine lv_iload_n hx hb d_Md_meter_64 rfl (lv_at hl 1 rfl) ?_
            refine nv_imul (z := 20 * lp) hx hb d_Md_meter_65 (by first | rfl | omega) ?_
            refine lv_iload hx hb d_Md_meter_66 (lv_at hl 6 rfl) ?_
            refine nv_iadd (z := 20 * lp + k) hx hb d_Md_meter_68 (by first | rfl | omega) ?_
            obtain ⟨k46, v⟩ := v
            refine nv_iald (f := mh) hx hb hK 0 (hP 14 _ rfl) rfl (20 * lp + k).toNat (Int.toNat_of_nonneg k46.1).symm (by omega) (by decide) d_Md_meter_69 ?_
            refine lv_iload_n hx hb d_Md_meter_70 rfl (lv_at hl 2 rfl) ?_
            obtain ⟨k47, v⟩ := v
            refine nv_icmp_ne (tgt := 79) hx hb d_Md_meter_71 (by decide) k47 k5 (fun c48 => ?_) (fun c48 => ?_)
            · replace v := v.1 c48
              refine lv_iload hx hb d_Md_meter_79 (lv_at hl 5 rfl) ?_
              refine lv_istore (lv' := [(5, .int (iI at_)), (0, .ref h0), (1, .int (iI lp)), (2, .int (iI hour)), (3, .int (iI lx)), (4, .int (iI 1)), (6, .int (iI k))]) hx hb d_Md_meter_81 hl (by decide) rfl (fun ls hl => ?_)
              refine nv_iinc (k := 6) (z := k + 1) (lv' := [(6, .int (iI (k + 1))), (5, .int (iI at_)), (0, .ref h0), (1, .int (iI lp)), (2, .int (iI hour)), (3, .int (iI lx)), (4, .int (iI 1))]) hx hb d_Md_meter_83 hl rfl (by omega) (by decide) rfl (fun ls hl => ?_)
              refine lv_goto (tgt := 42) hx hb d_Md_meter_86 (by decide) ?_
              exact ih12 at_ (k + 1) H locs ls (Nat.lt_of_lt_of_le v.2 (Nat.le_of_lt_succ hN13)) v.1 hP hD hS (lv_sub hl [2, 3, 4, 5, 6, 1, 0] rfl)
            · replace v := v.2 c48
              refine lv_iload hx hb d_Md_meter_74 (lv_at hl 6 rfl) ?_
              refine lv_goto (tgt := 81) hx hb d_Md_meter_76 (by decide) ?_
              refine lv_istore (lv' := [(5, .int (iI k)), (0, .ref h0), (1, .int (iI lp)), (2, .int (iI hour)), (3, .int (iI lx)), (4, .int (iI 1)), (6, .int (iI k))]) hx hb d_Md_meter_81 hl (by decide) rfl (fun ls hl => ?_)
              refine nv_iinc (k := 6) (z := k + 1) (lv' := [(6, .int (iI (k + 1))), (5, .int (iI k)), (0, .ref h0), (1, .int (iI lp)), (2, .int (iI hour)), (3, .int (iI lx)), (4, .int (iI 1))]) hx hb d_Md_meter_83 hl rfl (by omega) (by decide) rfl (fun ls hl => ?_)
              refine lv_goto (tgt := 42) hx hb d_Md_meter_86 (by decide) ?_
              exact ih12 k (k + 1) H locs ls (Nat.lt_of_lt_of_le v.2 (Nat.le_of_lt_succ hN13)) v.1 hP hD hS (lv_sub hl [2, 3, 4, 5, 6, 1, 0] rfl)
      exact L51 _ (ma (lp).toNat) 0 H locs ls (Nat.lt_succ_self _) v49 hP hD hS (lv_sub hl [3, 4, 5, 6, 2, 1, 0] rfl)
    · replace v := v.2 c6
      refine nv_if_eq (tgt := 19) hx hb d_Md_meter_12 (by decide) (by decide) (fun _ => ?_) (fun c52 => absurd c52 (by decide))
      refine nv_iconst (n := 0) hx hb d_Md_meter_19 ?_
      refine lv_istore (lv' := [(4, .int (iI 0)), (0, .ref h0), (1, .int (iI lp)), (2, .int (iI hour)), (3, .int (iI lx))]) hx hb d_Md_meter_20 hl (by decide) rfl (fun ls hl => ?_)
      refine lv_iload hx hb d_Md_meter_22 (lv_at hl 0 rfl) ?_
      refine nv_if_eq (tgt := 36) hx hb d_Md_meter_24 (by decide) (by decide) (fun _ => ?_) (fun c53 => absurd c53 (by decide))
      refine nv_iconst (n := 0) hx hb d_Md_meter_36 ?_
      refine lv_istore (lv' := [(5, .int (iI 0)), (4, .int (iI 0)), (0, .ref h0), (1, .int (iI lp)), (2, .int (iI hour)), (3, .int (iI lx))]) hx hb d_Md_meter_37 hl (by decide) rfl (fun ls hl => ?_)
      refine nv_iconst (n := 0) hx hb d_Md_meter_39 ?_
      refine lv_istore (lv' := [(6, .int (iI 0)), (5, .int (iI 0)), (4, .int (iI 0)), (0, .ref h0), (1, .int (iI lp)), (2, .int (iI hour)), (3, .int (iI lx))]) hx hb d_Md_meter_40 hl (by decide) rfl (fun ls hl => ?_)
      obtain ⟨I54, μ55, v69, v70⟩ := v
      have L71 : ∀ (N : Nat) (at_ : Int) (k : Int) (H : Heap) (locs : List Loc) (ls : Array Slot), μ55 at_ k < N → I54 at_ k → va_P D vwCl (wMd cI cJ cZ h0 h1 h2 h3 h4 h5 h6 h7 h8 h9 h10 h11 h12 h13 h14 h15 h16 h17 h18 h19 h20 h21 h22 h23 th no ca ba nl xa sa da la ra fa ta ua uh uo ma mh ml nf fo fh fs rs ic mn bh bo ya np pa nc cp) H → va_D A (wMd cI cJ cZ h0 h1 h2 h3 h4 h5 h6 h7 h8 h9 h10 h11 h12 h13 h14 h15 h16 h17 h18 h19 h20 h21 h22 h23 th no ca ba nl xa sa da la ra fa ta ua uh uo ma mh ml nf fo fh fs rs ic mn bh bo ya np pa nc cp) → va_S A s.heap H locs → lv_has ls 7 [(0, .ref h0), (1, .int (iI lp)), (2, .int (iI hour)), (3, .int (iI lx)), (4, .int (iI 0)), (5, .int (iI at_)), (6, .int (iI k))] → W p l e (headSpec (.code ⟨"LightDosesModel", "meter", "(III)I"⟩ prog_10_method_17_code 7 (some .int) :: TG) { frames := 1, cells := 0, slots := 0, locals := 25 }).room s m ([Value.ref h0, Value.int (iI lp), Value.int (iI hour), Value.int (iI lx)] : List Value).toArray below meth c H locs 0 0 (MQ below (va_Qi (fun (r : Int32) (u : Int × (Nat → Int) × (Nat → Int) × (Nat → Int) × (Nat → Int) × Int) => ∃ z : Int, r = iI z ∧ post z u.1 u.2.1 u.2.2.1 u.2.2.2.1 u.2.2.2.2.1 u.2.2.2.2.2) (fun u t => va_P D vwCl (wMd cI cJ cZ h0 h1 h2 h3 h4 h5 h6 h7 h8 h9 h10 h11 h12 h13 h14 h15 h16 h17 h18 h19 h20 h21 h22 h23 u.1 no ca ba nl xa sa da u.2.2.2.2.1 ra fa ta ua uh uo u.2.2.2.1 u.2.1 u.2.2.1 nf fo fh fs rs u.2.2.2.2.2 mn bh bo ya np pa nc cp) t.heap ∧ va_K D vwCl (tyx cI cJ cO cZ) t ∧ va_D A (wMd cI cJ cZ h0 h1 h2 h3 h4 h5 h6 h7 h8 h9 h10 h11 h12 h13 h14 h15 h16 h17 h18 h19 h20 h21 h22 h23 u.1 no ca ba nl xa sa da u.2.2.2.2.1 ra fa ta ua uh uo u.2.2.2.1 u.2.1 u.2.2.1 nf fo fh fs rs u.2.2.2.2.2 mn bh bo ya np pa nc cp)) A) ([Value.ref h0, Value.int (iI lp), Value.int (iI hour), Value.int (iI lx)] : List Value).toArray s 0 0 A) (F0 m 42 ls []) := by
        intro N
        induction N with
        | zero => intro at_ k H locs ls hN; exact absurd hN (Nat.not_lt_zero _)
        | succ N ih56 =>
          intro at_ k H locs ls hN57 hI hP hD hS hl
          have v := v70 at_ k hI
          refine lv_iload hx hb d_Md_meter_42 (lv_at hl 4 rfl) ?_
          refine nv_if_eq (tgt := 89) hx hb d_Md_meter_44 (by decide) (by decide) (fun _ => ?_) (fun c58 => absurd c58 (by decide))
          refine lv_aload_n hx hb d_Md_meter_89 rfl (lv_at hl 0 rfl) ?_
          refine lv_iload hx hb d_Md_meter_90 (lv_at hl 4 rfl) ?_
          refine lv_iload hx hb d_Md_meter_92 (lv_at hl 5 rfl) ?_
          refine nv_bipush (z := 20) hx hb d_Md_meter_94 (by decide) ?_
          obtain ⟨k59, v⟩ := v
          refine nv_icmp_ge (tgt := 103) hx hb d_Md_meter_96 (by decide) k59 (by decide) (fun c60 => ?_) (fun c60 => ?_)
          · replace v := v.1 c60
            refine nv_iconst (n := 0) hx hb d_Md_meter_103 ?_
            refine lv_iload_n hx hb d_Md_meter_104 rfl (lv_at hl 3 rfl) ?_
            obtain ⟨k61, v⟩ := v
            refine vp_callSi (nv_runS (wc := []) (As := [.int (iI lx)]) (rest := [.int (iI 0), .int (iI 0), .ref h0]) ⟨hx, hb, hml, hown, hts⟩ (m_Md_isLux l D cI cJ cO cZ lx (fun z => (z = 1 ∧ (0 ≤ lx ∧ lx ≤ 5000)) ∨ (z = 0 ∧ ¬ (0 ≤ lx ∧ lx ≤ 5000))) (s_Md_isLux lx k61)) (nv_cwS (n := 1) hts wd_825 wd_826 wd_10 wd_827 (by decide +kernel) ⟨Nat.le_of_ble_eq_true rfl, Nat.le_of_ble_eq_true rfl⟩) hK (hP.sub [] rfl) rfl hl.1 rfl (Nat.le_of_ble_eq_true rfl) d_Md_meter_105 (Nat.le_of_ble_eq_true rfl) (Nat.le_of_ble_eq_true rfl)) (fun r hr => ?_)
            rcases hr with ⟨_, rfl, ⟨rfl, c62⟩ | ⟨rfl, c62⟩⟩
            · replace v := v.1 c62
              have hPc := hP.sub (ws' := (wMd cI cJ cZ h0 h1 h2 h3 h4 h5 h6 h7 h8 h9 h10 h11 h12 h13 h14 h15 h16 h17 h18 h19 h20 h21 h22 h23 th no ca ba nl xa sa da la ra fa ta ua uh uo ma mh ml nf fo fh fs rs ic mn bh bo ya np pa nc cp)) [0, 1, 2, 3, 4, 5, 6, 7, 8, 9, 10, 11, 12, 13, 14, 15, 16, 17, 18, 19, 20, 21, 22, 23] rfl
              have hDc := hD.sub (ws' := (wMd cI cJ cZ h0 h1 h2 h3 h4 h5 h6 h7 h8 h9 h10 h11 h12 h13 h14 h15 h16 h17 h18 h19 h20 h21 h22 h23 th no ca ba nl xa sa da la ra fa ta ua uh uo ma mh ml nf fo fh fs rs ic mn bh bo ya np pa nc cp)) [0, 1, 2, 3, 4, 5, 6, 7, 8, 9, 10, 11, 12, 13, 14, 15, 16, 17, 18, 19, 20, 21, 22, 23] (by decide) rfl
              have hFc := va_free (wc := (wMd cI cJ cZ h0 h1 h2 h3 h4 h5 h6 h7 h8 h9 h10 h11 h12 h13 h14 h15 h16 h17 h18 h19 h20 h21 h22 h23 th no ca ba nl xa sa da la ra fa ta ua uh uo ma mh ml nf fo fh fs rs ic mn bh bo ya np pa nc cp)) hD hS hA [0, 1, 2, 3, 4, 5, 6, 7, 8, 9, 10, 11, 12, 13, 14, 15, 16, 17, 18, 19, 20, 21, 22, 23] rfl
              refine va_calli (va_runV (As := [.int (iI 0), .int (iI 0), .int (iI 1)]) (rest := []) ⟨hx, hb, hml, hown, hts⟩ (m_Md_goes l D cI cJ cO cZ h0 h1 h2 h3 h4 h5 h6 h7 h8 h9 h10 h11 h12 h13 h14 h15 h16 h17 h18 h19 h20 h21 h22 h23 H.size th no ca ba nl xa sa da la ra fa ta ua uh uo ma mh ml nf fo fh fs rs ic mn bh bo ya np pa nc cp 0 0 1 (fun z t => z = 0 ∧ t = 1) (s_Md_goes_001 th no ca ba nl xa sa da la ra fa ta ua uh uo ma mh ml nf fo fh fs rs ic mn bh bo ya np pa nc cp)) (nv_cwV (n := 3) hts wd_812 wd_814 sl_17 wd_10 wd_815 (by decide +kernel) ⟨Nat.le_of_ble_eq_true rfl, Nat.le_of_ble_eq_true rfl⟩) ⟨blW, va_recv hK hPc (ci := 8) (q0 := 0) rfl rfl, fun U hU hW => ⟨rfl, by rw [hU], by rw [hU]; exact hPc, va_K.moved hW.alike hK, hDc.weaken (fun _ _ _ _ => trivial)⟩⟩ rfl rfl hl.1 rfl (lv_room (Nat.le_of_ble_eq_true rfl)) d_Md_meter_108 ⟨Nat.le_of_ble_eq_true rfl, Nat.le_of_ble_eq_true rfl⟩) hS (fun q _ h => hFc q h) hFc (fun r u t H1 locs ht hvm hw hB hz1 hk1 hS => ?_)
              obtain ⟨hP1, hK1, hD1⟩ := hB
              rw [ht] at hP1
              obtain ⟨_, rfl, rfl, rfl⟩ := hw
              obtain ⟨hP, hD⟩ := va_join (wr := []) (w1 := (wMd cI cJ cZ h0 h1 h2 h3 h4 h5 h6 h7 h8 h9 h10 h11 h12 h13 h14 h15 h16 h17 h18 h19 h20 h21 h22 h23 1 no ca ba nl xa sa da la ra fa ta ua uh uo ma mh ml nf fo fh fs rs ic mn bh bo ya np pa nc cp)) hP hD [0, 1, 2, 3, 4, 5, 6, 7, 8, 9, 10, 11, 12, 13, 14, 15, 16, 17, 18, 19, 20, 21, 22, 23] [] rfl rfl (by decide) (by decide) hk1 hFc hP1 hD1
              generalize H1 = H at hP hS ⊢
              have hP : va_P D vwCl (wMd cI cJ cZ h0 h1 h2 h3 h4 h5 h6 h7 h8 h9 h10 h11 h12 h13 h14 h15 h16 h17 h18 h19 h20 h21 h22 h23 1 no ca ba nl xa sa da la ra fa ta ua uh uo ma mh ml nf fo fh fs rs ic mn bh bo ya np pa nc cp) H := hP
              have hD : va_D A (wMd cI cJ cZ h0 h1 h2 h3 h4 h5 h6 h7 h8 h9 h10 h11 h12 h13 h14 h15 h16 h17 h18 h19 h20 h21 h22 h23 1 no ca ba nl xa sa da la ra fa ta ua uh uo ma mh ml nf fo fh fs rs ic mn bh bo ya np pa nc cp) := hD
              refine W.widen (k := 0) (n := 0) (Nat.le_of_ble_eq_true rfl) (Nat.le_of_ble_eq_true rfl) ?_
              refine nv_if_ne (tgt := 116) hx hb d_Md_meter_111 (by decide) (by decide) (fun c63 => absurd c63 (by decide)) (fun _ => ?_)
              refine nv_iconst (n := 0) hx hb d_Md_meter_114 ?_
              have hP9 := hP.sub (ws' := (wMd cI cJ cZ h0 h1 h2 h3 h4 h5 h6 h7 h8 h9 h10 h11 h12 h13 h14 h15 h16 h17 h18 h19 h20 h21 h22 h23 1 no ca ba nl xa sa da la ra fa ta ua uh uo ma mh ml nf fo fh fs rs ic mn bh bo ya np pa nc cp)) [0, 1, 2, 3, 4, 5, 6, 7, 8, 9, 10, 11, 12, 13, 14, 15, 16, 17, 18, 19, 20, 21, 22, 23] rfl
              have hD9 := hD.sub (ws' := (wMd cI cJ cZ h0 h1 h2 h3 h4 h5 h6 h7 h8 h9 h10 h11 h12 h13 h14 h15 h16 h17 h18 h19 h20 h21 h22 h23 1 no ca ba nl xa sa da la ra fa ta ua uh uo ma mh ml nf fo fh fs rs ic mn bh bo ya np pa nc cp)) [0, 1, 2, 3, 4, 5, 6, 7, 8, 9, 10, 11, 12, 13, 14, 15, 16, 17, 18, 19, 20, 21, 22, 23] (by decide) rfl
              exact W.iret hx hb hr (fun t ht hW => ⟨⟨_, ((1), (mh), (ml), (ma), (la), (ic)), rfl, ⟨_, rfl, v⟩, by rw [ht]; exact hP9, va_K.moved hW.alike hK, hD9⟩, hS.F ht⟩) hS.2.2 d_Md_meter_115
            · replace v := v.2 c62
              have hPc := hP.sub (ws' := (wMd cI cJ cZ h0 h1 h2 h3 h4 h5 h6 h7 h8 h9 h10 h11 h12 h13 h14 h15 h16 h17 h18 h19 h20 h21 h22 h23 th no ca ba nl xa sa da la ra fa ta ua uh uo ma mh ml nf fo fh fs rs ic mn bh bo ya np pa nc cp)) [0, 1, 2, 3, 4, 5, 6, 7, 8, 9, 10, 11, 12, 13, 14, 15, 16, 17, 18, 19, 20, 21, 22, 23] rfl
              have hDc := hD.sub (ws' := (wMd cI cJ cZ h0 h1 h2 h3 h4 h5 h6 h7 h8 h9 h10 h11 h12 h13 h14 h15 h16 h17 h18 h19 h20 h21 h22 h23 th no ca ba nl xa sa da la ra fa ta ua uh uo ma mh ml nf fo fh fs rs ic mn bh bo ya np pa nc cp)) [0, 1, 2, 3, 4, 5, 6, 7, 8, 9, 10, 11, 12, 13, 14, 15, 16, 17, 18, 19, 20, 21, 22, 23] (by decide) rfl
              have hFc := va_free (wc := (wMd cI cJ cZ h0 h1 h2 h3 h4 h5 h6 h7 h8 h9 h10 h11 h12 h13 h14 h15 h16 h17 h18 h19 h20 h21 h22 h23 th no ca ba nl xa sa da la ra fa ta ua uh uo ma mh ml nf fo fh fs rs ic mn bh bo ya np pa nc cp)) hD hS hA [0, 1, 2, 3, 4, 5, 6, 7, 8, 9, 10, 11, 12, 13, 14, 15, 16, 17, 18, 19, 20, 21, 22, 23] rfl
              refine va_calli (va_runV (As := [.int (iI 0), .int (iI 0), .int (iI 0)]) (rest := []) ⟨hx, hb, hml, hown, hts⟩ (m_Md_goes l D cI cJ cO cZ h0 h1 h2 h3 h4 h5 h6 h7 h8 h9 h10 h11 h12 h13 h14 h15 h16 h17 h18 h19 h20 h21 h22 h23 H.size th no ca ba nl xa sa da la ra fa ta ua uh uo ma mh ml nf fo fh fs rs ic mn bh bo ya np pa nc cp 0 0 0 (fun z t => z = 0 ∧ t = 1) (s_Md_goes_000 th no ca ba nl xa sa da la ra fa ta ua uh uo ma mh ml nf fo fh fs rs ic mn bh bo ya np pa nc cp)) (nv_cwV (n := 3) hts wd_812 wd_814 sl_17 wd_10 wd_815 (by decide +kernel) ⟨Nat.le_of_ble_eq_true rfl, Nat.le_of_ble_eq_true rfl⟩) ⟨blW, va_recv hK hPc (ci := 8) (q0 := 0) rfl rfl, fun U hU hW => ⟨rfl, by rw [hU], by rw [hU]; exact hPc, va_K.moved hW.alike hK, hDc.weaken (fun _ _ _ _ => trivial)⟩⟩ rfl rfl hl.1 rfl (lv_room (Nat.le_of_ble_eq_true rfl)) d_Md_meter_108 ⟨Nat.le_of_ble_eq_true rfl, Nat.le_of_ble_eq_true rfl⟩) hS (fun q _ h => hFc q h) hFc (fun r u t H1 locs ht hvm hw hB hz1 hk1 hS => ?_)
              obtain ⟨hP1, hK1, hD1⟩ := hB
              rw [ht] at hP1
              obtain ⟨_, rfl, rfl, rfl⟩ := hw
              obtain ⟨hP, hD⟩ := va_join (wr := []) (w1 := (wMd cI cJ cZ h0 h1 h2 h3 h4 h5 h6 h7 h8 h9 h10 h11 h12 h13 h14 h15 h16 h17 h18 h19 h20 h21 h22 h23 1 no ca ba nl xa sa da la ra fa ta ua uh uo ma mh ml nf fo fh fs rs ic mn bh bo ya np pa nc cp)) hP hD [0, 1, 2, 3, 4, 5, 6, 7, 8, 9, 10, 11, 12, 13, 14, 15, 16, 17, 18, 19, 20, 21, 22, 23] [] rfl rfl (by decide) (by decide) hk1 hFc hP1 hD1
              generalize H1 = H at hP hS ⊢
              have hP : va_P D vwCl (wMd cI cJ cZ h0 h1 h2 h3 h4 h5 h6 h7 h8 h9 h10 h11 h12 h13 h14 h15 h16 h17 h18 h19 h20 h21 h22 h23 1 no ca ba nl xa sa da la ra fa ta ua uh uo ma mh ml nf fo fh fs rs ic mn bh bo ya np pa nc cp) H := hP
              have hD : va_D A (wMd cI cJ cZ h0 h1 h2 h3 h4 h5 h6 h7 h8 h9 h10 h11 h12 h13 h14 h15 h16 h17 h18 h19 h20 h21 h22 h23 1 no ca ba nl xa sa da la ra fa ta ua uh uo ma mh ml nf fo fh fs rs ic mn bh bo ya np pa nc cp) := hD
              refine W.widen (k := 0) (n := 0) (Nat.le_of_ble_eq_true rfl) (Nat.le_of_ble_eq_true rfl) ?_
              refine nv_if_ne (tgt := 116) hx hb d_Md_meter_111 (by decide) (by decide) (fun c64 => absurd c64 (by decide)) (fun _ => ?_)
              refine nv_iconst (n := 0) hx hb d_Md_meter_114 ?_
              have hP9 := hP.sub (ws' := (wMd cI cJ cZ h0 h1 h2 h3 h4 h5 h6 h7 h8 h9 h10 h11 h12 h13 h14 h15 h16 h17 h18 h19 h20 h21 h22 h23 1 no ca ba nl xa sa da la ra fa ta ua uh uo ma mh ml nf fo fh fs rs ic mn bh bo ya np pa nc cp)) [0, 1, 2, 3, 4, 5, 6, 7, 8, 9, 10, 11, 12, 13, 14, 15, 16, 17, 18, 19, 20, 21, 22, 23] rfl
              have hD9 := hD.sub (ws' := (wMd cI cJ cZ h0 h1 h2 h3 h4 h5 h6 h7 h8 h9 h10 h11 h12 h13 h14 h15 h16 h17 h18 h19 h20 h21 h22 h23 1 no ca ba nl xa sa da la ra fa ta ua uh uo ma mh ml nf fo fh fs rs ic mn bh bo ya np pa nc cp)) [0, 1, 2, 3, 4, 5, 6, 7, 8, 9, 10, 11, 12, 13, 14, 15, 16, 17, 18, 19, 20, 21, 22, 23] (by decide) rfl
              exact W.iret hx hb hr (fun t ht hW => ⟨⟨_, ((1), (mh), (ml), (ma), (la), (ic)), rfl, ⟨_, rfl, v⟩, by rw [ht]; exact hP9, va_K.moved hW.alike hK, hD9⟩, hS.F ht⟩) hS.2.2 d_Md_meter_115
          · replace v := v.2 c60
            refine nv_iconst (n := 1) hx hb d_Md_meter_99 ?_
            refine lv_goto (tgt := 104) hx hb d_Md_meter_100 (by decide) ?_
            refine lv_iload_n hx hb d_Md_meter_104 rfl (lv_at hl 3 rfl) ?_
            obtain ⟨k65, v⟩ := v
            refine vp_callSi (nv_runS (wc := []) (As := [.int (iI lx)]) (rest := [.int (iI 1), .int (iI 0), .ref h0]) ⟨hx, hb, hml, hown, hts⟩ (m_Md_isLux l D cI cJ cO cZ lx (fun z => (z = 1 ∧ (0 ≤ lx ∧ lx ≤ 5000)) ∨ (z = 0 ∧ ¬ (0 ≤ lx ∧ lx ≤ 5000))) (s_Md_isLux lx k65)) (nv_cwS (n := 1) hts wd_825 wd_826 wd_10 wd_827 (by decide +kernel) ⟨Nat.le_of_ble_eq_true rfl, Nat.le_of_ble_eq_true rfl⟩) hK (hP.sub [] rfl) rfl hl.1 rfl (Nat.le_of_ble_eq_true rfl) d_Md_meter_105 (Nat.le_of_ble_eq_true rfl) (Nat.le_of_ble_eq_true rfl)) (fun r hr => ?_)
            rcases hr with ⟨_, rfl, ⟨rfl, c66⟩ | ⟨rfl, c66⟩⟩
            · replace v := v.1 c66
              have hPc := hP.sub (ws' := (wMd cI cJ cZ h0 h1 h2 h3 h4 h5 h6 h7 h8 h9 h10 h11 h12 h13 h14 h15 h16 h17 h18 h19 h20 h21 h22 h23 th no ca ba nl xa sa da la ra fa ta ua uh uo ma mh ml nf fo fh fs rs ic mn bh bo ya np pa nc cp)) [0, 1, 2, 3, 4, 5, 6, 7, 8, 9, 10, 11, 12, 13, 14, 15, 16, 17, 18, 19, 20, 21, 22, 23] rfl
              have hDc := hD.sub (ws' := (wMd cI cJ cZ h0 h1 h2 h3 h4 h5 h6 h7 h8 h9 h10 h11 h12 h13 h14 h15 h16 h17 h18 h19 h20 h21 h22 h23 th no ca ba nl xa sa da la ra fa ta ua uh uo ma mh ml nf fo fh fs rs ic mn bh bo ya np pa nc cp)) [0, 1, 2, 3, 4, 5, 6, 7, 8, 9, 10, 11, 12, 13, 14, 15, 16, 17, 18, 19, 20, 21, 22, 23] (by decide) rfl
              have hFc := va_free (wc := (wMd cI cJ cZ h0 h1 h2 h3 h4 h5 h6 h7 h8 h9 h10 h11 h12 h13 h14 h15 h16 h17 h18 h19 h20 h21 h22 h23 th no ca ba nl xa sa da la ra fa ta ua uh uo ma mh ml nf fo fh fs rs ic mn bh bo ya np pa nc cp)) hD hS hA [0, 1, 2, 3, 4, 5, 6, 7, 8, 9, 10, 11, 12, 13, 14, 15, 16, 17, 18, 19, 20, 21, 22, 23] rfl
              refine va_calli (va_runV (As := [.int (iI 0), .int (iI 1), .int (iI 1)]) (rest := []) ⟨hx, hb, hml, hown, hts⟩ (m_Md_goes l D cI cJ cO cZ h0 h1 h2 h3 h4 h5 h6 h7 h8 h9 h10 h11 h12 h13 h14 h15 h16 h17 h18 h19 h20 h21 h22 h23 H.size th no ca ba nl xa sa da la ra fa ta ua uh uo ma mh ml nf fo fh fs rs ic mn bh bo ya np pa nc cp 0 1 1 (fun z t => z = 0 ∧ t = 1) (s_Md_goes_011 th no ca ba nl xa sa da la ra fa ta ua uh uo ma mh ml nf fo fh fs rs ic mn bh bo ya np pa nc cp)) (nv_cwV (n := 3) hts wd_812 wd_814 sl_17 wd_10 wd_815 (by decide +kernel) ⟨Nat.le_of_ble_eq_true rfl, Nat.le_of_ble_eq_true rfl⟩) ⟨blW, va_recv hK hPc (ci := 8) (q0 := 0) rfl rfl, fun U hU hW => ⟨rfl, by rw [hU], by rw [hU]; exact hPc, va_K.moved hW.alike hK, hDc.weaken (fun _ _ _ _ => trivial)⟩⟩ rfl rfl hl.1 rfl (lv_room (Nat.le_of_ble_eq_true rfl)) d_Md_meter_108 ⟨Nat.le_of_ble_eq_true rfl, Nat.le_of_ble_eq_true rfl⟩) hS (fun q _ h => hFc q h) hFc (fun r u t H1 locs ht hvm hw hB hz1 hk1 hS => ?_)
              obtain ⟨hP1, hK1, hD1⟩ := hB
              rw [ht] at hP1
              obtain ⟨_, rfl, rfl, rfl⟩ := hw
              obtain ⟨hP, hD⟩ := va_join (wr := []) (w1 := (wMd cI cJ cZ h0 h1 h2 h3 h4 h5 h6 h7 h8 h9 h10 h11 h12 h13 h14 h15 h16 h17 h18 h19 h20 h21 h22 h23 1 no ca ba nl xa sa da la ra fa ta ua uh uo ma mh ml nf fo fh fs rs ic mn bh bo ya np pa nc cp)) hP hD [0, 1, 2, 3, 4, 5, 6, 7, 8, 9, 10, 11, 12, 13, 14, 15, 16, 17, 18, 19, 20, 21, 22, 23] [] rfl rfl (by decide) (by decide) hk1 hFc hP1 hD1
              generalize H1 = H at hP hS ⊢
              have hP : va_P D vwCl (wMd cI cJ cZ h0 h1 h2 h3 h4 h5 h6 h7 h8 h9 h10 h11 h12 h13 h14 h15 h16 h17 h18 h19 h20 h21 h22 h23 1 no ca ba nl xa sa da la ra fa ta ua uh uo ma mh ml nf fo fh fs rs ic mn bh bo ya np pa nc cp) H := hP
              have hD : va_D A (wMd cI cJ cZ h0 h1 h2 h3 h4 h5 h6 h7 h8 h9 h10 h11 h12 h13 h14 h15 h16 h17 h18 h19 h20 h21 h22 h23 1 no ca ba nl xa sa da la ra fa ta ua uh uo ma mh ml nf fo fh fs rs ic mn bh bo ya np pa nc cp) := hD
              refine W.widen (k := 0) (n := 0) (Nat.le_of_ble_eq_true rfl) (Nat.le_of_ble_eq_true rfl) ?_
              refine nv_if_ne (tgt := 116) hx hb d_Md_meter_111 (by decide) (by decide) (fun c67 => absurd c67 (by decide)) (fun _ => ?_)
              refine nv_iconst (n := 0) hx hb d_Md_meter_114 ?_
              have hP9 := hP.sub (ws' := (wMd cI cJ cZ h0 h1 h2 h3 h4 h5 h6 h7 h8 h9 h10 h11 h12 h13 h14 h15 h16 h17 h18 h19 h20 h21 h22 h23 1 no ca ba nl xa sa da la ra fa ta ua uh uo ma mh ml nf fo fh fs rs ic mn bh bo ya np pa nc cp)) [0, 1, 2, 3, 4, 5, 6, 7, 8, 9, 10, 11, 12, 13, 14, 15, 16, 17, 18, 19, 20, 21, 22, 23] rfl
              have hD9 := hD.sub (ws' := (wMd cI cJ cZ h0 h1 h2 h3 h4 h5 h6 h7 h8 h9 h10 h11 h12 h13 h14 h15 h16 h17 h18 h19 h20 h21 h22 h23 1 no ca ba nl xa sa da la ra fa ta ua uh uo ma mh ml nf fo fh fs rs ic mn bh bo ya np pa nc cp)) [0, 1, 2, 3, 4, 5, 6, 7, 8, 9, 10, 11, 12, 13, 14, 15, 16, 17, 18, 19, 20, 21, 22, 23] (by decide) rfl
              exact W.iret hx hb hr (fun t ht hW => ⟨⟨_, ((1), (mh), (ml), (ma), (la), (ic)), rfl, ⟨_, rfl, v⟩, by rw [ht]; exact hP9, va_K.moved hW.alike hK, hD9⟩, hS.F ht⟩) hS.2.2 d_Md_meter_115
            · replace v := v.2 c66
              have hPc := hP.sub (ws' := (wMd cI cJ cZ h0 h1 h2 h3 h4 h5 h6 h7 h8 h9 h10 h11 h12 h13 h14 h15 h16 h17 h18 h19 h20 h21 h22 h23 th no ca ba nl xa sa da la ra fa ta ua uh uo ma mh ml nf fo fh fs rs ic mn bh bo ya np pa nc cp)) [0, 1, 2, 3, 4, 5, 6, 7, 8, 9, 10, 11, 12, 13, 14, 15, 16, 17, 18, 19, 20, 21, 22, 23] rfl
              have hDc := hD.sub (ws' := (wMd cI cJ cZ h0 h1 h2 h3 h4 h5 h6 h7 h8 h9 h10 h11 h12 h13 h14 h15 h16 h17 h18 h19 h20 h21 h22 h23 th no ca ba nl xa sa da la ra fa ta ua uh uo ma mh ml nf fo fh fs rs ic mn bh bo ya np pa nc cp)) [0, 1, 2, 3, 4, 5, 6, 7, 8, 9, 10, 11, 12, 13, 14, 15, 16, 17, 18, 19, 20, 21, 22, 23] (by decide) rfl
              have hFc := va_free (wc := (wMd cI cJ cZ h0 h1 h2 h3 h4 h5 h6 h7 h8 h9 h10 h11 h12 h13 h14 h15 h16 h17 h18 h19 h20 h21 h22 h23 th no ca ba nl xa sa da la ra fa ta ua uh uo ma mh ml nf fo fh fs rs ic mn bh bo ya np pa nc cp)) hD hS hA [0, 1, 2, 3, 4, 5, 6, 7, 8, 9, 10, 11, 12, 13, 14, 15, 16, 17, 18, 19, 20, 21, 22, 23] rfl
              refine va_calli (va_runV (As := [.int (iI 0), .int (iI 1), .int (iI 0)]) (rest := []) ⟨hx, hb, hml, hown, hts⟩ (m_Md_goes l D cI cJ cO cZ h0 h1 h2 h3 h4 h5 h6 h7 h8 h9 h10 h11 h12 h13 h14 h15 h16 h17 h18 h19 h20 h21 h22 h23 H.size th no ca ba nl xa sa da la ra fa ta ua uh uo ma mh ml nf fo fh fs rs ic mn bh bo ya np pa nc cp 0 1 0 (fun z t => z = 0 ∧ t = 1) (s_Md_goes_010 th no ca ba nl xa sa da la ra fa ta ua uh uo ma mh ml nf fo fh fs rs ic mn bh bo ya np pa nc cp)) (nv_cwV (n := 3) hts wd_812 wd_814 sl_17 wd_10 wd_815 (by decide +kernel) ⟨Nat.le_of_ble_eq_true rfl, Nat.le_of_ble_eq_true rfl⟩) ⟨blW, va_recv hK hPc (ci := 8) (q0 := 0) rfl rfl, fun U hU hW => ⟨rfl, by rw [hU], by rw [hU]; exact hPc, va_K.moved hW.alike hK, hDc.weaken (fun _ _ _ _ => trivial)⟩⟩ rfl rfl hl.1 rfl (lv_room (Nat.le_of_ble_eq_true rfl)) d_Md_meter_108 ⟨Nat.le_of_ble_eq_true rfl, Nat.le_of_ble_eq_true rfl⟩) hS (fun q _ h => hFc q h) hFc (fun r u t H1 locs ht hvm hw hB hz1 hk1 hS => ?_)
              obtain ⟨hP1, hK1, hD1⟩ := hB
              rw [ht] at hP1
              obtain ⟨_, rfl, rfl, rfl⟩ := hw
              obtain ⟨hP, hD⟩ := va_join (wr := []) (w1 := (wMd cI cJ cZ h0 h1 h2 h3 h4 h5 h6 h7 h8 h9 h10 h11 h12 h13 h14 h15 h16 h17 h18 h19 h20 h21 h22 h23 1 no ca ba nl xa sa da la ra fa ta ua uh uo ma mh ml nf fo fh fs rs ic mn bh bo ya np pa nc cp)) hP hD [0, 1, 2, 3, 4, 5, 6, 7, 8, 9, 10, 11, 12, 13, 14, 15, 16, 17, 18, 19, 20, 21, 22, 23] [] rfl rfl (by decide) (by decide) hk1 hFc hP1 hD1
              generalize H1 = H at hP hS ⊢
              have hP : va_P D vwCl (wMd cI cJ cZ h0 h1 h2 h3 h4 h5 h6 h7 h8 h9 h10 h11 h12 h13 h14 h15 h16 h17 h18 h19 h20 h21 h22 h23 1 no ca ba nl xa sa da la ra fa ta ua uh uo ma mh ml nf fo fh fs rs ic mn bh bo ya np pa nc cp) H := hP
              have hD : va_D A (wMd cI cJ cZ h0 h1 h2 h3 h4 h5 h6 h7 h8 h9 h10 h11 h12 h13 h14 h15 h16 h17 h18 h19 h20 h21 h22 h23 1 no ca ba nl xa sa da la ra fa ta ua uh uo ma mh ml nf fo fh fs rs ic mn bh bo ya np pa nc cp) := hD
              refine W.widen (k := 0) (n := 0) (Nat.le_of_ble_eq_true rfl) (Nat.le_of_ble_eq_true rfl) ?_
              refine nv_if_ne (tgt := 116) hx hb d_Md_meter_111 (by decide) (by decide) (fun c68 => absurd c68 (by decide)) (fun _ => ?_)
              refine nv_iconst (n := 0) hx hb d_Md_meter_114 ?_
              have hP9 := hP.sub (ws' := (wMd cI cJ cZ h0 h1 h2 h3 h4 h5 h6 h7 h8 h9 h10 h11 h12 h13 h14 h15 h16 h17 h18 h19 h20 h21 h22 h23 1 no ca ba nl xa sa da la ra fa ta ua uh uo ma mh ml nf fo fh fs rs ic mn bh bo ya np pa nc cp)) [0, 1, 2, 3, 4, 5, 6, 7, 8, 9, 10, 11, 12, 13, 14, 15, 16, 17, 18, 19, 20, 21, 22, 23] rfl
              have hD9 := hD.sub (ws' := (wMd cI cJ cZ h0 h1 h2 h3 h4 h5 h6 h7 h8 h9 h10 h11 h12 h13 h14 h15 h16 h17 h18 h19 h20 h21 h22 h23 1 no ca ba nl xa sa da la ra fa ta ua uh uo ma mh ml nf fo fh fs rs ic mn bh bo ya np pa nc cp)) [0, 1, 2, 3, 4, 5, 6, 7, 8, 9, 10, 11, 12, 13, 14, 15, 16, 17, 18, 19, 20, 21, 22, 23] (by decide) rfl
              exact W.iret hx hb hr (fun t ht hW => ⟨⟨_, ((1), (mh), (ml), (ma), (la), (ic)), rfl, ⟨_, rfl, v⟩, by rw [ht]; exact hP9, va_K.moved hW.alike hK, hD9⟩, hS.F ht⟩) hS.2.2 d_Md_meter_115
      exact L71 _ 0 0 H locs ls (Nat.lt_succ_self _) v69 hP hD hS (lv_sub hl [3, 4, 5, 6, 2, 1, 0] rfl)
  · replace v := v.2 c3
    refine nv_if_eq (tgt := 19) hx hb d_Md_meter_5 (by decide) (by decide) (fun _ => ?_) (fun c72 => absurd c72 (by decide))
    refine nv_iconst (n := 0) hx hb d_Md_meter_19 ?_
    refine lv_istore (lv' := [(4, .int (iI 0)), (0, .ref h0), (1, .int (iI lp)), (2, .int (iI hour)), (3, .int (iI lx))]) hx hb d_Md_meter_20 hl (by decide) rfl (fun ls hl => ?_)
    refine lv_iload hx hb d_Md_meter_22 (lv_at hl 0 rfl) ?_
    refine nv_if_eq (tgt := 36) hx hb d_Md_meter_24 (by decide) (by decide) (fun _ => ?_) (fun c73 => absurd c73 (by decide))
    refine nv_iconst (n := 0) hx hb d_Md_meter_36 ?_
    refine lv_istore (lv' := [(5, .int (iI 0)), (4, .int (iI 0)), (0, .ref h0), (1, .int (iI lp)), (2, .int (iI hour)), (3, .int (iI lx))]) hx hb d_Md_meter_37 hl (by decide) rfl (fun ls hl => ?_)
    refine nv_iconst (n := 0) hx hb d_Md_meter_39 ?_
    refine lv_istore (lv' := [(6, .int (iI 0)), (5, .int (iI 0)), (4, .int (iI 0)), (0, .ref h0), (1, .int (iI lp)), (2, .int (iI hour)), (3, .int (iI lx))]) hx hb d_Md_meter_40 hl (by decide) rfl (fun ls hl => ?_)
    obtain ⟨I74, μ75, v89, v90⟩ := v
    have L91 : ∀ (N : Nat) (at_ : Int) (k : Int) (H : Heap) (locs : List Loc) (ls : Array Slot), μ75 at_ k < N → I74 at_ k → va_P D vwCl (wMd cI cJ cZ h0 h1 h2 h3 h4 h5 h6 h7 h8 h9 h10 h11 h12 h13 h14 h15 h16 h17 h18 h19 h20 h21 h22 h23 th no ca ba nl xa sa da la ra fa ta ua uh uo ma mh ml nf fo fh fs rs ic mn bh bo ya np pa nc cp) H → va_D A (wMd cI cJ cZ h0 h1 h2 h3 h4 h5 h6 h7 h8 h9 h10 h11 h12 h13 h14 h15 h16 h17 h18 h19 h20 h21 h22 h23 th no ca ba nl xa sa da la ra fa ta ua uh uo ma mh ml nf fo fh fs rs ic mn bh bo ya np pa nc cp) → va_S A s.heap H locs → lv_has ls 7 [(0, .ref h0), (1, .int (iI lp)), (2, .int (iI hour)), (3, .int (iI lx)), (4, .int (iI 0)), (5, .int (iI at_)), (6, .int (iI k))] → W p l e (headSpec (.code ⟨"LightDosesModel", "meter", "(III)I"⟩ prog_10_method_17_code 7 (some .int) :: TG) { frames := 1, cells := 0, slots := 0, locals := 25 }).room s m ([Value.ref h0, Value.int (iI lp), Value.int (iI hour), Value.int (iI lx)] : List Value).toArray below meth c H locs 0 0 (MQ below (va_Qi (fun (r : Int32) (u : Int × (Nat → Int) × (Nat → Int) × (Nat → Int) × (Nat → Int) × Int) => ∃ z : Int, r = iI z ∧ post z u.1 u.2.1 u.2.2.1 u.2.2.2.1 u.2.2.2.2.1 u.2.2.2.2.2) (fun u t => va_P D vwCl (wMd cI cJ cZ h0 h1 h2 h3 h4 h5 h6 h7 h8 h9 h10 h11 h12 h13 h14 h15 h16 h17 h18 h19 h20 h21 h22 h23 u.1 no ca ba nl xa sa da u.2.2.2.2.1 ra fa ta ua uh uo u.2.2.2.1 u.2.1 u.2.2.1 nf fo fh fs rs u.2.2.2.2.2 mn bh bo ya np pa nc cp) t.heap ∧ va_K D vwCl (tyx cI cJ cO cZ) t ∧ va_D A (wMd cI cJ cZ h0 h1 h2 h3 h4 h5 h6 h7 h8 h9 h10 h11 h12 h13 h14 h15 h16 h17 h18 h19 h20 h21 h22 h23 u.1 no ca ba nl xa sa da u.2.2.2.2.1 ra fa ta ua uh uo u.2.2.2.1 u.2.1 u.2.2.1 nf fo fh fs rs u.2.2.2.2.2 mn bh bo ya np pa nc cp)) A) ([Value.ref h0, Value.int (iI lp), Value.int (iI hour), Value.int (iI lx)] : List Value).toArray s 0 0 A) (F0 m 42 ls []) := by
      intro N
      induction N with
      | zero => intro at_ k H locs ls hN; exact absurd hN (Nat.not_lt_zero _)
      | succ N ih76 =>
        intro at_ k H locs ls hN77 hI hP hD hS hl
        have v := v90 at_ k hI
        refine lv_iload hx hb d_Md_meter_42 (lv_at hl 4 rfl) ?_
        refine nv_if_eq (tgt := 89) hx hb d_Md_meter_44 (by decide) (by decide) (fun _ => ?_) (fun c78 => absurd c78 (by decide))
        refine lv_aload_n hx hb d_Md_meter_89 rfl (lv_at hl 0 rfl) ?_
        refine lv_iload hx hb d_Md_meter_90 (lv_at hl 4 rfl) ?_
        refine lv_iload hx hb d_Md_meter_92 (lv_at hl 5 rfl) ?_
        refine nv_bipush (z := 20) hx hb d_Md_meter_94 (by decide) ?_
        obtain ⟨k79, v⟩ := v
        refine nv_icmp_ge (tgt := 103) hx hb d_Md_meter_96 (by decide) k79 (by decide) (fun c80 => ?_) (fun c80 => ?_)
        · replace v := v.1 c80
          refine nv_iconst (n := 0) hx hb d_Md_meter_103 ?_
          refine lv_iload_n hx hb d_Md_meter_104 rfl (lv_at hl 3 rfl) ?_
          obtain ⟨k81, v⟩ := v
          refine vp_callSi (nv_runS (wc := []) (As := [.int (iI lx)]) (rest := [.int (iI 0), .int (iI 0), .ref h0]) ⟨hx, hb, hml, hown, hts⟩ (m_Md_isLux l D cI cJ cO cZ lx (fun z => (z = 1 ∧ (0 ≤ lx ∧ lx ≤ 5000)) ∨ (z = 0 ∧ ¬ (0 ≤ lx ∧ lx ≤ 5000))) (s_Md_isLux lx k81)) (nv_cwS (n := 1) hts wd_825 wd_826 wd_10 wd_827 (by decide +kernel) ⟨Nat.le_of_ble_eq_true rfl, Nat.le_of_ble_eq_true rfl⟩) hK (hP.sub [] rfl) rfl hl.1 rfl (Nat.le_of_ble_eq_true rfl) d_Md_meter_105 (Nat.le_of_ble_eq_true rfl) (Nat.le_of_ble_eq_true rfl)) (fun r hr => ?_)
          rcases hr with ⟨_, rfl, ⟨rfl, c82⟩ | ⟨rfl, c82⟩⟩
          · replace v := v.1 c82
            have hPc := hP.sub (ws' := (wMd cI cJ cZ h0 h1 h2 h3 h4 h5 h6 h7 h8 h9 h10 h11 h12 h13 h14 h15 h16 h17 h18 h19 h20 h21 h22 h23 th no ca ba nl xa sa da la ra fa ta ua uh uo ma mh ml nf fo fh fs rs ic mn bh bo ya np pa nc cp)) [0, 1, 2, 3, 4, 5, 6, 7, 8, 9, 10, 11, 12, 13, 14, 15, 16, 17, 18, 19, 20, 21, 22, 23] rfl
            have hDc := hD.sub (ws' := (wMd cI cJ cZ h0 h1 h2 h3 h4 h5 h6 h7 h8 h9 h10 h11 h12 h13 h14 h15 h16 h17 h18 h19 h20 h21 h22 h23 th no ca ba nl xa sa da la ra fa ta ua uh uo ma mh ml nf fo fh fs rs ic mn bh bo ya np pa nc cp)) [0, 1, 2, 3, 4, 5, 6, 7, 8, 9, 10, 11, 12, 13, 14, 15, 16, 17, 18, 19, 20, 21, 22, 23] (by decide) rfl
            have hFc := va_free (wc := (wMd cI cJ cZ h0 h1 h2 h3 h4 h5 h6 h7 h8 h9 h10 h11 h12 h13 h14 h15 h16 h17 h18 h19 h20 h21 h22 h23 th no ca ba nl xa sa da la ra fa ta ua uh uo ma mh ml nf fo fh fs rs ic mn bh bo ya np pa nc cp)) hD hS hA [0, 1, 2, 3, 4, 5, 6, 7, 8, 9, 10, 11, 12, 13, 14, 15, 16, 17, 18, 19, 20, 21, 22, 23] rfl
            refine va_calli (va_runV (As := [.int (iI 0), .int (iI 0), .int (iI 1)]) (rest := []) ⟨hx, hb, hml, hown, hts⟩ (m_Md_goes l D cI cJ cO cZ h0 h1 h2 h3 h4 h5 h6 h7 h8 h9 h10 h11 h12 h13 h14 h15 h16 h17 h18 h19 h20 h21 h22 h23 H.size th no ca ba nl xa sa da la ra fa ta ua uh uo ma mh ml nf fo fh fs rs ic mn bh bo ya np pa nc cp 0 0 1 (fun z t => z = 0 ∧ t = 1) (s_Md_goes_001 th no ca ba nl xa sa da la ra fa ta ua uh uo ma mh ml nf fo fh fs rs ic mn bh bo ya np pa nc cp)) (nv_cwV (n := 3) hts wd_812 wd_814 sl_17 wd_10 wd_815 (by decide +kernel) ⟨Nat.le_of_ble_eq_true rfl, Nat.le_of_ble_eq_true rfl⟩) ⟨blW, va_recv hK hPc (ci := 8) (q0 := 0) rfl rfl, fun U hU hW => ⟨rfl, by rw [hU], by rw [hU]; exact hPc, va_K.moved hW.alike hK, hDc.weaken (fun _ _ _ _ => trivial)⟩⟩ rfl rfl hl.1 rfl (lv_room (Nat.le_of_ble_eq_true rfl)) d_Md_meter_108 ⟨Nat.le_of_ble_eq_true rfl, Nat.le_of_ble_eq_true rfl⟩) hS (fun q _ h => hFc q h) hFc (fun r u t H1 locs ht hvm hw hB hz1 hk1 hS => ?_)
            obtain ⟨hP1, hK1, hD1⟩ := hB
            rw [ht] at hP1
            obtain ⟨_, rfl, rfl, rfl⟩ := hw
            obtain ⟨hP, hD⟩ := va_join (wr := []) (w1 := (wMd cI cJ cZ h0 h1 h2 h3 h4 h5 h6 h7 h8 h9 h10 h11 h12 h13 h14 h15 h16 h17 h18 h19 h20 h21 h22 h23 1 no ca ba nl xa sa da la ra fa ta ua uh uo ma mh ml nf fo fh fs rs ic mn bh bo ya np pa nc cp)) hP hD [0, 1, 2, 3, 4, 5, 6, 7, 8, 9, 10, 11, 12, 13, 14, 15, 16, 17, 18, 19, 20, 21, 22, 23] [] rfl rfl (by decide) (by decide) hk1 hFc hP1 hD1
            generalize H1 = H at hP hS ⊢
            have hP : va_P D vwCl (wMd cI cJ cZ h0 h1 h2 h3 h4 h5 h6 h7 h8 h9 h10 h11 h12 h13 h14 h15 h16 h17 h18 h19 h20 h21 h22 h23 1 no ca ba nl xa sa da la ra fa ta ua uh uo ma mh ml nf fo fh fs rs ic mn bh bo ya np pa nc cp) H := hP
            have hD : va_D A (wMd cI cJ cZ h0 h1 h2 h3 h4 h5 h6 h7 h8 h9 h10 h11 h12 h13 h14 h15 h16 h17 h18 h19 h20 h21 h22 h23 1 no ca ba nl xa sa da la ra fa ta ua uh uo ma mh ml nf fo fh fs rs ic mn bh bo ya np pa nc cp) := hD
            refine W.widen (k := 0) (n := 0) (Nat.le_of_ble_eq_true rfl) (Nat.le_of_ble_eq_true rfl) ?_
            refine nv_if_ne (tgt := 116) hx hb d_Md_meter_111 (by decide) (by decide) (fun c83 => absurd c83 (by decide)) (fun _ => ?_)
            refine nv_iconst (n := 0) hx hb d_Md_meter_114 ?_
            have hP9 := hP.sub (ws' := (wMd cI cJ cZ h0 h1 h2 h3 h4 h5 h6 h7 h8 h9 h10 h11 h12 h13 h14 h15 h16 h17 h18 h19 h20 h21 h22 h23 1 no ca ba nl xa sa da la ra fa ta ua uh uo ma mh ml nf fo fh fs rs ic mn bh bo ya np pa nc cp)) [0, 1, 2, 3, 4, 5, 6, 7, 8, 9, 10, 11, 12, 13, 14, 15, 16, 17, 18, 19, 20, 21, 22, 23] rfl
            have hD9 := hD.sub (ws' := (wMd cI cJ cZ h0 h1 h2 h3 h4 h5 h6 h7 h8 h9 h10 h11 h12 h13 h14 h15 h16 h17 h18 h19 h20 h21 h22 h23 1 no ca ba nl xa sa da la ra fa ta ua uh uo ma mh ml nf fo fh fs rs ic mn bh bo ya np pa nc cp)) [0, 1, 2, 3, 4, 5, 6, 7, 8, 9, 10, 11, 12, 13, 14, 15, 16, 17, 18, 19, 20, 21, 22, 23] (by decide) rfl
            exact W.iret hx hb hr (fun t ht hW => ⟨⟨_, ((1), (mh), (ml), (ma), (la), (ic)), rfl, ⟨_, rfl, v⟩, by rw [ht]; exact hP9, va_K.moved hW.alike hK, hD9⟩, hS.F ht⟩) hS.2.2 d_Md_meter_115
          · replace v := v.2 c82
            have hPc := hP.sub (ws' := (wMd cI cJ cZ h0 h1 h2 h3 h4 h5 h6 h7 h8 h9 h10 h11 h12 h13 h14 h15 h16 h17 h18 h19 h20 h21 h22 h23 th no ca ba nl xa sa da la ra fa ta ua uh uo ma mh ml nf fo fh fs rs ic mn bh bo ya np pa nc cp)) [0, 1, 2, 3, 4, 5, 6, 7, 8, 9, 10, 11, 12, 13, 14, 15, 16, 17, 18, 19, 20, 21, 22, 23] rfl
            have hDc := hD.sub (ws' := (wMd cI cJ cZ h0 h1 h2 h3 h4 h5 h6 h7 h8 h9 h10 h11 h12 h13 h14 h15 h16 h17 h18 h19 h20 h21 h22 h23 th no ca ba nl xa sa da la ra fa ta ua uh uo ma mh ml nf fo fh fs rs ic mn bh bo ya np pa nc cp)) [0, 1, 2, 3, 4, 5, 6, 7, 8, 9, 10, 11, 12, 13, 14, 15, 16, 17, 18, 19, 20, 21, 22, 23] (by decide) rfl
            have hFc := va_free (wc := (wMd cI cJ cZ h0 h1 h2 h3 h4 h5 h6 h7 h8 h9 h10 h11 h12 h13 h14 h15 h16 h17 h18 h19 h20 h21 h22 h23 th no ca ba nl xa sa da la ra fa ta ua uh uo ma mh ml nf fo fh fs rs ic mn bh bo ya np pa nc cp)) hD hS hA [0, 1, 2, 3, 4, 5, 6, 7, 8, 9, 10, 11, 12, 13, 14, 15, 16, 17, 18, 19, 20, 21, 22, 23] rfl
            refine va_calli (va_runV (As := [.int (iI 0), .int (iI 0), .int (iI 0)]) (rest := []) ⟨hx, hb, hml, hown, hts⟩ (m_Md_goes l D cI cJ cO cZ h0 h1 h2 h3 h4 h5 h6 h7 h8 h9 h10 h11 h12 h13 h14 h15 h16 h17 h18 h19 h20 h21 h22 h23 H.size th no ca ba nl xa sa da la ra fa ta ua uh uo ma mh ml nf fo fh fs rs ic mn bh bo ya np pa nc cp 0 0 0 (fun z t => z = 0 ∧ t = 1) (s_Md_goes_000 th no ca ba nl xa sa da la ra fa ta ua uh uo ma mh ml nf fo fh fs rs ic mn bh bo ya np pa nc cp)) (nv_cwV (n := 3) hts wd_812 wd_814 sl_17 wd_10 wd_815 (by decide +kernel) ⟨Nat.le_of_ble_eq_true rfl, Nat.le_of_ble_eq_true rfl⟩) ⟨blW, va_recv hK hPc (ci := 8) (q0 := 0) rfl rfl, fun U hU hW => ⟨rfl, by rw [hU], by rw [hU]; exact hPc, va_K.moved hW.alike hK, hDc.weaken (fun _ _ _ _ => trivial)⟩⟩ rfl rfl hl.1 rfl (lv_room (Nat.le_of_ble_eq_true rfl)) d_Md_meter_108 ⟨Nat.le_of_ble_eq_true rfl, Nat.le_of_ble_eq_true rfl⟩) hS (fun q _ h => hFc q h) hFc (fun r u t H1 locs ht hvm hw hB hz1 hk1 hS => ?_)
            obtain ⟨hP1, hK1, hD1⟩ := hB
            rw [ht] at hP1
            obtain ⟨_, rfl, rfl, rfl⟩ := hw
            obtain ⟨hP, hD⟩ := va_join (wr := []) (w1 := (wMd cI cJ cZ h0 h1 h2 h3 h4 h5 h6 h7 h8 h9 h10 h11 h12 h13 h14 h15 h16 h17 h18 h19 h20 h21 h22 h23 1 no ca ba nl xa sa da la ra fa ta ua uh uo ma mh ml nf fo fh fs rs ic mn bh bo ya np pa nc cp)) hP hD [0, 1, 2, 3, 4, 5, 6, 7, 8, 9, 10, 11, 12, 13, 14, 15, 16, 17, 18, 19, 20, 21, 22, 23] [] rfl rfl (by decide) (by decide) hk1 hFc hP1 hD1
            generalize H1 = H at hP hS ⊢
            have hP : va_P D vwCl (wMd cI cJ cZ h0 h1 h2 h3 h4 h5 h6 h7 h8 h9 h10 h11 h12 h13 h14 h15 h16 h17 h18 h19 h20 h21 h22 h23 1 no ca ba nl xa sa da la ra fa ta ua uh uo ma mh ml nf fo fh fs rs ic mn bh bo ya np pa nc cp) H := hP
            have hD : va_D A (wMd cI cJ cZ h0 h1 h2 h3 h4 h5 h6 h7 h8 h9 h10 h11 h12 h13 h14 h15 h16 h17 h18 h19 h20 h21 h22 h23 1 no ca ba nl xa sa da la ra fa ta ua uh uo ma mh ml nf fo fh fs rs ic mn bh bo ya np pa nc cp) := hD
            refine W.widen (k := 0) (n := 0) (Nat.le_of_ble_eq_true rfl) (Nat.le_of_ble_eq_true rfl) ?_
            refine nv_if_ne (tgt := 116) hx hb d_Md_meter_111 (by decide) (by decide) (fun c84 => absurd c84 (by decide)) (fun _ => ?_)
            refine nv_iconst (n := 0) hx hb d_Md_meter_114 ?_
            have hP9 := hP.sub (ws' := (wMd cI cJ cZ h0 h1 h2 h3 h4 h5 h6 h7 h8 h9 h10 h11 h12 h13 h14 h15 h16 h17 h18 h19 h20 h21 h22 h23 1 no ca ba nl xa sa da la ra fa ta ua uh uo ma mh ml nf fo fh fs rs ic mn bh bo ya np pa nc cp)) [0, 1, 2, 3, 4, 5, 6, 7, 8, 9, 10, 11, 12, 13, 14, 15, 16, 17, 18, 19, 20, 21, 22, 23] rfl
            have hD9 := hD.sub (ws' := (wMd cI cJ cZ h0 h1 h2 h3 h4 h5 h6 h7 h8 h9 h10 h11 h12 h13 h14 h15 h16 h17 h18 h19 h20 h21 h22 h23 1 no ca ba nl xa sa da la ra fa ta ua uh uo ma mh ml nf fo fh fs rs ic mn bh bo ya np pa nc cp)) [0, 1, 2, 3, 4, 5, 6, 7, 8, 9, 10, 11, 12, 13, 14, 15, 16, 17, 18, 19, 20, 21, 22, 23] (by decide) rfl
            exact W.iret hx hb hr (fun t ht hW => ⟨⟨_, ((1), (mh), (ml), (ma), (la), (ic)), rfl, ⟨_, rfl, v⟩, by rw [ht]; exact hP9, va_K.moved hW.alike hK, hD9⟩, hS.F ht⟩) hS.2.2 d_Md_meter_115
        · replace v := v.2 c80
          refine nv_iconst (n := 1) hx hb d_Md_meter_99 ?_
          refine lv_goto (tgt := 104) hx hb d_Md_meter_100 (by decide) ?_
          refine lv_iload_n hx hb d_Md_meter_104 rfl (lv_at hl 3 rfl) ?_
          obtain ⟨k85, v⟩ := v
          refine vp_callSi (nv_runS (wc := []) (As := [.int (iI lx)]) (rest := [.int (iI 1), .int (iI 0), .ref h0]) ⟨hx, hb, hml, hown, hts⟩ (m_Md_isLux l D cI cJ cO cZ lx (fun z => (z = 1 ∧ (0 ≤ lx ∧ lx ≤ 5000)) ∨ (z = 0 ∧ ¬ (0 ≤ lx ∧ lx ≤ 5000))) (s_Md_isLux lx k85)) (nv_cwS (n := 1) hts wd_825 wd_826 wd_10 wd_827 (by decide +kernel) ⟨Nat.le_of_ble_eq_true rfl, Nat.le_of_ble_eq_true rfl⟩) hK (hP.sub [] rfl) rfl hl.1 rfl (Nat.le_of_ble_eq_true rfl) d_Md_meter_105 (Nat.le_of_ble_eq_true rfl) (Nat.le_of_ble_eq_true rfl)) (fun r hr => ?_)
          rcases hr with ⟨_, rfl, ⟨rfl, c86⟩ | ⟨rfl, c86⟩⟩
          · replace v := v.1 c86
            have hPc := hP.sub (ws' := (wMd cI cJ cZ h0 h1 h2 h3 h4 h5 h6 h7 h8 h9 h10 h11 h12 h13 h14 h15 h16 h17 h18 h19 h20 h21 h22 h23 th no ca ba nl xa sa da la ra fa ta ua uh uo ma mh ml nf fo fh fs rs ic mn bh bo ya np pa nc cp)) [0, 1, 2, 3, 4, 5, 6, 7, 8, 9, 10, 11, 12, 13, 14, 15, 16, 17, 18, 19, 20, 21, 22, 23] rfl
            have hDc := hD.sub (ws' := (wMd cI cJ cZ h0 h1 h2 h3 h4 h5 h6 h7 h8 h9 h10 h11 h12 h13 h14 h15 h16 h17 h18 h19 h20 h21 h22 h23 th no ca ba nl xa sa da la ra fa ta ua uh uo ma mh ml nf fo fh fs rs ic mn bh bo ya np pa nc cp)) [0, 1, 2, 3, 4, 5, 6, 7, 8, 9, 10, 11, 12, 13, 14, 15, 16, 17, 18, 19, 20, 21, 22, 23] (by decide) rfl
            have hFc := va_free (wc := (wMd cI cJ cZ h0 h1 h2 h3 h4 h5 h6 h7 h8 h9 h10 h11 h12 h13 h14 h15 h16 h17 h18 h19 h20 h21 h22 h23 th no ca ba nl xa sa da la ra fa ta ua uh uo ma mh ml nf fo fh fs rs ic mn bh bo ya np pa nc cp)) hD hS hA [0, 1, 2, 3, 4, 5, 6, 7, 8, 9, 10, 11, 12, 13, 14, 15, 16, 17, 18, 19, 20, 21, 22, 23] rfl
            refine va_calli (va_runV (As := [.int (iI 0), .int (iI 1), .int (iI 1)]) (rest := []) ⟨hx, hb, hml, hown, hts⟩ (m_Md_goes l D cI cJ cO cZ h0 h1 h2 h3 h4 h5 h6 h7 h8 h9 h10 h11 h12 h13 h14 h15 h16 h17 h18 h19 h20 h21 h22 h23 H.size th no ca ba nl xa sa da la ra fa ta ua uh uo ma mh ml nf fo fh fs rs ic mn bh bo ya np pa nc cp 0 1 1 (fun z t => z = 0 ∧ t = 1) (s_Md_goes_011 th no ca ba nl xa sa da la ra fa ta ua uh uo ma mh ml nf fo fh fs rs ic mn bh bo ya np pa nc cp)) (nv_cwV (n := 3) hts wd_812 wd_814 sl_17 wd_10 wd_815 (by decide +kernel) ⟨Nat.le_of_ble_eq_true rfl, Nat.le_of_ble_eq_true rfl⟩) ⟨blW, va_recv hK hPc (ci := 8) (q0 := 0) rfl rfl, fun U hU hW => ⟨rfl, by rw [hU], by rw [hU]; exact hPc, va_K.moved hW.alike hK, hDc.weaken (fun _ _ _ _ => trivial)⟩⟩ rfl rfl hl.1 rfl (lv_room (Nat.le_of_ble_eq_true rfl)) d_Md_meter_108 ⟨Nat.le_of_ble_eq_true rfl, Nat.le_of_ble_eq_true rfl⟩) hS (fun q _ h => hFc q h) hFc (fun r u t H1 locs ht hvm hw hB hz1 hk1 hS => ?_)
            obtain ⟨hP1, hK1, hD1⟩ := hB
            rw [ht] at hP1
            obtain ⟨_, rfl, rfl, rfl⟩ := hw
            obtain ⟨hP, hD⟩ := va_join (wr := []) (w1 := (wMd cI cJ cZ h0 h1 h2 h3 h4 h5 h6 h7 h8 h9 h10 h11 h12 h13 h14 h15 h16 h17 h18 h19 h20 h21 h22 h23 1 no ca ba nl xa sa da la ra fa ta ua uh uo ma mh ml nf fo fh fs rs ic mn bh bo ya np pa nc cp)) hP hD [0, 1, 2, 3, 4, 5, 6, 7, 8, 9, 10, 11, 12, 13, 14, 15, 16, 17, 18, 19, 20, 21, 22, 23] [] rfl rfl (by decide) (by decide) hk1 hFc hP1 hD1
            generalize H1 = H at hP hS ⊢
            have hP : va_P D vwCl (wMd cI cJ cZ h0 h1 h2 h3 h4 h5 h6 h7 h8 h9 h10 h11 h12 h13 h14 h15 h16 h17 h18 h19 h20 h21 h22 h23 1 no ca ba nl xa sa da la ra fa ta ua uh uo ma mh ml nf fo fh fs rs ic mn bh bo ya np pa nc cp) H := hP
            have hD : va_D A (wMd cI cJ cZ h0 h1 h2 h3 h4 h5 h6 h7 h8 h9 h10 h11 h12 h13 h14 h15 h16 h17 h18 h19 h20 h21 h22 h23 1 no ca ba nl xa sa da la ra fa ta ua uh uo ma mh ml nf fo fh fs rs ic mn bh bo ya np pa nc cp) := hD
            refine W.widen (k := 0) (n := 0) (Nat.le_of_ble_eq_true rfl) (Nat.le_of_ble_eq_true rfl) ?_
            refine nv_if_ne (tgt := 116) hx hb d_Md_meter_111 (by decide) (by decide) (fun c87 => absurd c87 (by decide)) (fun _ => ?_)
            refine nv_iconst (n := 0) hx hb d_Md_meter_114 ?_
            have hP9 := hP.sub (ws' := (wMd cI cJ cZ h0 h1 h2 h3 h4 h5 h6 h7 h8 h9 h10 h11 h12 h13 h14 h15 h16 h17 h18 h19 h20 h21 h22 h23 1 no ca ba nl xa sa da la ra fa ta ua uh uo ma mh ml nf fo fh fs rs ic mn bh bo ya np pa nc cp)) [0, 1, 2, 3, 4, 5, 6, 7, 8, 9, 10, 11, 12, 13, 14, 15, 16, 17, 18, 19, 20, 21, 22, 23] rfl
            have hD9 := hD.sub (ws' := (wMd cI cJ cZ h0 h1 h2 h3 h4 h5 h6 h7 h8 h9 h10 h11 h12 h13 h14 h15 h16 h17 h18 h19 h20 h21 h22 h23 1 no ca ba nl xa sa da la ra fa ta ua uh uo ma mh ml nf fo fh fs rs ic mn bh bo ya np pa nc cp)) [0, 1, 2, 3, 4, 5, 6, 7, 8, 9, 10, 11, 12, 13, 14, 15, 16, 17, 18, 19, 20, 21, 22, 23] (by decide) rfl
            exact W.iret hx hb hr (fun t ht hW => ⟨⟨_, ((1), (mh), (ml), (ma), (la), (ic)), rfl, ⟨_, rfl, v⟩, by rw [ht]; exact hP9, va_K.moved hW.alike hK, hD9⟩, hS.F ht⟩) hS.2.2 d_Md_meter_115
          · replace v := v.2 c86
            have hPc := hP.sub (ws' := (wMd cI cJ cZ h0 h1 h2 h3 h4 h5 h6 h7 h8 h9 h10 h11 h12 h13 h14 h15 h16 h17 h18 h19 h20 h21 h22 h23 th no ca ba nl xa sa da la ra fa ta ua uh uo ma mh ml nf fo fh fs rs ic mn bh bo ya np pa nc cp)) [0, 1, 2, 3, 4, 5, 6, 7, 8, 9, 10, 11, 12, 13, 14, 15, 16, 17, 18, 19, 20, 21, 22, 23] rfl
            have hDc := hD.sub (ws' := (wMd cI cJ cZ h0 h1 h2 h3 h4 h5 h6 h7 h8 h9 h10 h11 h12 h13 h14 h15 h16 h17 h18 h19 h20 h21 h22 h23 th no ca ba nl xa sa da la ra fa ta ua uh uo ma mh ml nf fo fh fs rs ic mn bh bo ya np pa nc cp)) [0, 1, 2, 3, 4, 5, 6, 7, 8, 9, 10, 11, 12, 13, 14, 15, 16, 17, 18, 19, 20, 21, 22, 23] (by decide) rfl
            have hFc := va_free (wc := (wMd cI cJ cZ h0 h1 h2 h3 h4 h5 h6 h7 h8 h9 h10 h11 h12 h13 h14 h15 h16 h17 h18 h19 h20 h21 h22 h23 th no ca ba nl xa sa da la ra fa ta ua uh uo ma mh ml nf fo fh fs rs ic mn bh bo ya np pa nc cp)) hD hS hA [0, 1, 2, 3, 4, 5, 6, 7, 8, 9, 10, 11, 12, 13, 14, 15, 16, 17, 18, 19, 20, 21, 22, 23] rfl
            refine va_calli (va_runV (As := [.int (iI 0), .int (iI 1), .int (iI 0)]) (rest := []) ⟨hx, hb, hml, hown, hts⟩ (m_Md_goes l D cI cJ cO cZ h0 h1 h2 h3 h4 h5 h6 h7 h8 h9 h10 h11 h12 h13 h14 h15 h16 h17 h18 h19 h20 h21 h22 h23 H.size th no ca ba nl xa sa da la ra fa ta ua uh uo ma mh ml nf fo fh fs rs ic mn bh bo ya np pa nc cp 0 1 0 (fun z t => z = 0 ∧ t = 1) (s_Md_goes_010 th no ca ba nl xa sa da la ra fa ta ua uh uo ma mh ml nf fo fh fs rs ic mn bh bo ya np pa nc cp)) (nv_cwV (n := 3) hts wd_812 wd_814 sl_17 wd_10 wd_815 (by decide +kernel) ⟨Nat.le_of_ble_eq_true rfl, Nat.le_of_ble_eq_true rfl⟩) ⟨blW, va_recv hK hPc (ci := 8) (q0 := 0) rfl rfl, fun U hU hW => ⟨rfl, by rw [hU], by rw [hU]; exact hPc, va_K.moved hW.alike hK, hDc.weaken (fun _ _ _ _ => trivial)⟩⟩ rfl rfl hl.1 rfl (lv_room (Nat.le_of_ble_eq_true rfl)) d_Md_meter_108 ⟨Nat.le_of_ble_eq_true rfl, Nat.le_of_ble_eq_true rfl⟩) hS (fun q _ h => hFc q h) hFc (fun r u t H1 locs ht hvm hw hB hz1 hk1 hS => ?_)
            obtain ⟨hP1, hK1, hD1⟩ := hB
            rw [ht] at hP1
            obtain ⟨_, rfl, rfl, rfl⟩ := hw
            obtain ⟨hP, hD⟩ := va_join (wr := []) (w1 := (wMd cI cJ cZ h0 h1 h2 h3 h4 h5 h6 h7 h8 h9 h10 h11 h12 h13 h14 h15 h16 h17 h18 h19 h20 h21 h22 h23 1 no ca ba nl xa sa da la ra fa ta ua uh uo ma mh ml nf fo fh fs rs ic mn bh bo ya np pa nc cp)) hP hD [0, 1, 2, 3, 4, 5, 6, 7, 8, 9, 10, 11, 12, 13, 14, 15, 16, 17, 18, 19, 20, 21, 22, 23] [] rfl rfl (by decide) (by decide) hk1 hFc hP1 hD1
            generalize H1 = H at hP hS ⊢
            have hP : va_P D vwCl (wMd cI cJ cZ h0 h1 h2 h3 h4 h5 h6 h7 h8 h9 h10 h11 h12 h13 h14 h15 h16 h17 h18 h19 h20 h21 h22 h23 1 no ca ba nl xa sa da la ra fa ta ua uh uo ma mh ml nf fo fh fs rs ic mn bh bo ya np pa nc cp) H := hP
            have hD : va_D A (wMd cI cJ cZ h0 h1 h2 h3 h4 h5 h6 h7 h8 h9 h10 h11 h12 h13 h14 h15 h16 h17 h18 h19 h20 h21 h22 h23 1 no ca ba nl xa sa da la ra fa ta ua uh uo ma mh ml nf fo fh fs rs ic mn bh bo ya np pa nc cp) := hD
            refine W.widen (k := 0) (n := 0) (Nat.le_of_ble_eq_true rfl) (Nat.le_of_ble_eq_true rfl) ?_
            refine nv_if_ne (tgt := 116) hx hb d_Md_meter_111 (by decide) (by decide) (fun c88 => absurd c88 (by decide)) (fun _ => ?_)
            refine nv_iconst (n := 0) hx hb d_Md_meter_114 ?_
            have hP9 := hP.sub (ws' := (wMd cI cJ cZ h0 h1 h2 h3 h4 h5 h6 h7 h8 h9 h10 h11 h12 h13 h14 h15 h16 h17 h18 h19 h20 h21 h22 h23 1 no ca ba nl xa sa da la ra fa ta ua uh uo ma mh ml nf fo fh fs rs ic mn bh bo ya np pa nc cp)) [0, 1, 2, 3, 4, 5, 6, 7, 8, 9, 10, 11, 12, 13, 14, 15, 16, 17, 18, 19, 20, 21, 22, 23] rfl
            have hD9 := hD.sub (ws' := (wMd cI cJ cZ h0 h1 h2 h3 h4 h5 h6 h7 h8 h9 h10 h11 h12 h13 h14 h15 h16 h17 h18 h19 h20 h21 h22 h23 1 no ca ba nl xa sa da la ra fa ta ua uh uo ma mh ml nf fo fh fs rs ic mn bh bo ya np pa nc cp)) [0, 1, 2, 3, 4, 5, 6, 7, 8, 9, 10, 11, 12, 13, 14, 15, 16, 17, 18, 19, 20, 21, 22, 23] (by decide) rfl
            exact W.iret hx hb hr (fun t ht hW => ⟨⟨_, ((1), (mh), (ml), (ma), (la), (ic)), rfl, ⟨_, rfl, v⟩, by rw [ht]; exact hP9, va_K.moved hW.alike hK, hD9⟩, hS.F ht⟩) hS.2.2 d_Md_meter_115
    exact L91 _ 0 0 H locs ls (Nat.lt_succ_self _) v89 hP hD hS (lv_sub hl [3, 4, 5, 6, 2, 1, 0] rfl)

