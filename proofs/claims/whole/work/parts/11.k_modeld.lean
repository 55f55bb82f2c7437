set_option maxRecDepth 20000 in
theorem ggX8_chance_X8_isRail : GoodIn wsX8_chance wsX8_isRail := goodIn_r _ [10, 3, 38, 39, 40, 41, 42, 43, 44, 45, 46, 47, 48, 49, 50, 51, 52, 53, 54, 55, 56, 57, 58, 59, 60, 61, 62, 63] (by decide +kernel) (by decide +kernel)
set_option maxRecDepth 20000 in
theorem gX8_chance_X8_isRail : GoodIn wsX8_chance (wsV RX8 173 RX8 yX8_isRail wsX8_isRail) := goodIn_app (goodIn_of _ (by decide +kernel)) ggX8_chance_X8_isRail
set_option maxRecDepth 20000 in
theorem ggX8_chance_X8_in : GoodIn wsX8_chance wsX8_in := goodIn_r _ [13] (by decide +kernel) (by decide +kernel)
set_option maxRecDepth 20000 in
theorem gX8_chance_X8_in : GoodIn wsX8_chance (va_wsS RX8 59 yX8_in wsX8_in) := goodIn_app (goodIn_of _ (by decide +kernel)) ggX8_chance_X8_in
set_option maxRecDepth 20000 in
theorem ggX8_chance_X8_copies : GoodIn wsX8_chance wsX8_copies := goodIn_r _ [16] (by decide +kernel) (by decide +kernel)
set_option maxRecDepth 20000 in
theorem gX8_chance_X8_copies : GoodIn wsX8_chance (va_wsS RX8 135 yX8_copies wsX8_copies) := goodIn_app (goodIn_of _ (by decide +kernel)) ggX8_chance_X8_copies
set_option maxRecDepth 20000 in
theorem ggX8_chance_X8_settles : GoodIn wsX8_chance wsX8_settles := goodIn_r _ [19] (by decide +kernel) (by decide +kernel)
set_option maxRecDepth 20000 in
theorem gX8_chance_X8_settles : GoodIn wsX8_chance (va_wsS RX8 159 yX8_settles wsX8_settles) := goodIn_app (goodIn_of _ (by decide +kernel)) ggX8_chance_X8_settles
set_option maxRecDepth 20000 in
theorem ggX8_chance_X8_worst : GoodIn wsX8_chance wsX8_worst := goodIn_r _ [22, 23, 24, 9, 25, 26, 27, 28, 29, 30, 31, 32, 33, 34, 11, 12, 13, 35, 36, 37] (by decide +kernel) (by decide +kernel)
set_option maxRecDepth 20000 in
theorem gX8_chance_X8_worst : GoodIn wsX8_chance (va_wsS RX8 188 yX8_worst wsX8_worst) := goodIn_app (goodIn_of _ (by decide +kernel)) ggX8_chance_X8_worst
theorem dX8_chance_0 : decode cX8_chance 0 = .ok (.aload_n 0, 1) := by decide +kernel
theorem dX8_chance_1 : decode cX8_chance 1 = .ok (.invokevirtual 173, 3) := by decide +kernel
theorem dX8_chance_4 : decode cX8_chance 4 = .ok (.ifCond .ne 7, 3) := by decide +kernel
theorem dX8_chance_7 : decode cX8_chance 7 = .ok (.ldc2_w 242, 3) := by decide +kernel
theorem dX8_chance_10 : decode cX8_chance 10 = .ok (.lreturn, 1) := by decide +kernel
theorem dX8_chance_11 : decode cX8_chance 11 = .ok (.iload_n 1, 1) := by decide +kernel
theorem dX8_chance_12 : decode cX8_chance 12 = .ok (.iconst 0, 1) := by decide +kernel
theorem dX8_chance_13 : decode cX8_chance 13 = .ok (.bipush 99, 2) := by decide +kernel
theorem dX8_chance_15 : decode cX8_chance 15 = .ok (.invokestatic 59, 3) := by decide +kernel
theorem dX8_chance_18 : decode cX8_chance 18 = .ok (.ifCond .eq 22, 3) := by decide +kernel
theorem dX8_chance_21 : decode cX8_chance 21 = .ok (.iload_n 2, 1) := by decide +kernel
theorem dX8_chance_22 : decode cX8_chance 22 = .ok (.iconst 0, 1) := by decide +kernel
theorem dX8_chance_23 : decode cX8_chance 23 = .ok (.bipush 10, 2) := by decide +kernel
theorem dX8_chance_25 : decode cX8_chance 25 = .ok (.invokestatic 59, 3) := by decide +kernel
theorem dX8_chance_28 : decode cX8_chance 28 = .ok (.ifCond .eq 12, 3) := by decide +kernel
theorem dX8_chance_31 : decode cX8_chance 31 = .ok (.iload_n 3, 1) := by decide +kernel
theorem dX8_chance_32 : decode cX8_chance 32 = .ok (.iconst 0, 1) := by decide +kernel
theorem dX8_chance_33 : decode cX8_chance 33 = .ok (.iconst 1, 1) := by decide +kernel
theorem dX8_chance_34 : decode cX8_chance 34 = .ok (.invokestatic 59, 3) := by decide +kernel
theorem dX8_chance_37 : decode cX8_chance 37 = .ok (.ifCond .ne 7, 3) := by decide +kernel
theorem dX8_chance_40 : decode cX8_chance 40 = .ok (.ldc2_w 244, 3) := by decide +kernel
theorem dX8_chance_43 : decode cX8_chance 43 = .ok (.lreturn, 1) := by decide +kernel
theorem dX8_chance_44 : decode cX8_chance 44 = .ok (.iconst 0, 1) := by decide +kernel
theorem dX8_chance_45 : decode cX8_chance 45 = .ok (.istore 4, 2) := by decide +kernel
theorem dX8_chance_47 : decode cX8_chance 47 = .ok (.lconst 1, 1) := by decide +kernel
theorem dX8_chance_48 : decode cX8_chance 48 = .ok (.lstore 5, 2) := by decide +kernel
theorem dX8_chance_50 : decode cX8_chance 50 = .ok (.iconst 0, 1) := by decide +kernel
theorem dX8_chance_51 : decode cX8_chance 51 = .ok (.istore 7, 2) := by decide +kernel
theorem dX8_chance_53 : decode cX8_chance 53 = .ok (.iload 7, 2) := by decide +kernel
theorem dX8_chance_55 : decode cX8_chance 55 = .ok (.aload_n 0, 1) := by decide +kernel
theorem dX8_chance_56 : decode cX8_chance 56 = .ok (.getfield 25, 3) := by decide +kernel
theorem dX8_chance_59 : decode cX8_chance 59 = .ok (.iconst 0, 1) := by decide +kernel
theorem dX8_chance_60 : decode cX8_chance 60 = .ok (.iaload, 1) := by decide +kernel
theorem dX8_chance_61 : decode cX8_chance 61 = .ok (.if_icmp .ge 66, 3) := by decide +kernel
theorem dX8_chance_64 : decode cX8_chance 64 = .ok (.aload_n 0, 1) := by decide +kernel
theorem dX8_chance_65 : decode cX8_chance 65 = .ok (.getfield 25, 3) := by decide +kernel
theorem dX8_chance_68 : decode cX8_chance 68 = .ok (.iconst 2, 1) := by decide +kernel
theorem dX8_chance_69 : decode cX8_chance 69 = .ok (.iconst 4, 1) := by decide +kernel
theorem dX8_chance_70 : decode cX8_chance 70 = .ok (.iload 7, 2) := by decide +kernel
theorem dX8_chance_72 : decode cX8_chance 72 = .ok (.imul, 1) := by decide +kernel
theorem dX8_chance_73 : decode cX8_chance 73 = .ok (.iadd, 1) := by decide +kernel
theorem dX8_chance_74 : decode cX8_chance 74 = .ok (.iaload, 1) := by decide +kernel
theorem dX8_chance_75 : decode cX8_chance 75 = .ok (.iconst 2, 1) := by decide +kernel
theorem dX8_chance_76 : decode cX8_chance 76 = .ok (.if_icmp .ne 7, 3) := by decide +kernel
theorem dX8_chance_79 : decode cX8_chance 79 = .ok (.iconst 1, 1) := by decide +kernel
theorem dX8_chance_80 : decode cX8_chance 80 = .ok (.goto 4, 3) := by decide +kernel
theorem dX8_chance_83 : decode cX8_chance 83 = .ok (.iconst 0, 1) := by decide +kernel
theorem dX8_chance_84 : decode cX8_chance 84 = .ok (.istore 8, 2) := by decide +kernel
theorem dX8_chance_86 : decode cX8_chance 86 = .ok (.iload 4, 2) := by decide +kernel
theorem dX8_chance_88 : decode cX8_chance 88 = .ok (.iload 8, 2) := by decide +kernel
theorem dX8_chance_90 : decode cX8_chance 90 = .ok (.ifCond .eq 10, 3) := by decide +kernel
theorem dX8_chance_93 : decode cX8_chance 93 = .ok (.iconst 1, 1) := by decide +kernel
theorem dX8_chance_94 : decode cX8_chance 94 = .ok (.iload 7, 2) := by decide +kernel
theorem dX8_chance_96 : decode cX8_chance 96 = .ok (.ishl, 1) := by decide +kernel
theorem dX8_chance_97 : decode cX8_chance 97 = .ok (.goto 4, 3) := by decide +kernel
theorem dX8_chance_100 : decode cX8_chance 100 = .ok (.iconst 0, 1) := by decide +kernel
theorem dX8_chance_101 : decode cX8_chance 101 = .ok (.ior, 1) := by decide +kernel
theorem dX8_chance_102 : decode cX8_chance 102 = .ok (.istore 4, 2) := by decide +kernel
theorem dX8_chance_104 : decode cX8_chance 104 = .ok (.lload 5, 2) := by decide +kernel
theorem dX8_chance_106 : decode cX8_chance 106 = .ok (.iload 8, 2) := by decide +kernel
theorem dX8_chance_108 : decode cX8_chance 108 = .ok (.ifCond .eq 9, 3) := by decide +kernel
theorem dX8_chance_111 : decode cX8_chance 111 = .ok (.ldc2_w 246, 3) := by decide +kernel
theorem dX8_chance_114 : decode cX8_chance 114 = .ok (.goto 4, 3) := by decide +kernel
theorem dX8_chance_117 : decode cX8_chance 117 = .ok (.lconst 1, 1) := by decide +kernel
theorem dX8_chance_118 : decode cX8_chance 118 = .ok (.lmul, 1) := by decide +kernel
theorem dX8_chance_119 : decode cX8_chance 119 = .ok (.lstore 5, 2) := by decide +kernel
theorem dX8_chance_121 : decode cX8_chance 121 = .ok (.iinc 7 1, 3) := by decide +kernel
theorem dX8_chance_124 : decode cX8_chance 124 = .ok (.goto (-71), 3) := by decide +kernel
theorem dX8_chance_127 : decode cX8_chance 127 = .ok (.lconst 0, 1) := by decide +kernel
theorem dX8_chance_128 : decode cX8_chance 128 = .ok (.lstore 7, 2) := by decide +kernel
theorem dX8_chance_130 : decode cX8_chance 130 = .ok (.iconst 0, 1) := by decide +kernel
theorem dX8_chance_131 : decode cX8_chance 131 = .ok (.istore 9, 2) := by decide +kernel
theorem dX8_chance_133 : decode cX8_chance 133 = .ok (.iload 9, 2) := by decide +kernel
theorem dX8_chance_135 : decode cX8_chance 135 = .ok (.iload 4, 2) := by decide +kernel
theorem dX8_chance_137 : decode cX8_chance 137 = .ok (.if_icmp .gt 143, 3) := by decide +kernel
theorem dX8_chance_140 : decode cX8_chance 140 = .ok (.iload 9, 2) := by decide +kernel
theorem dX8_chance_142 : decode cX8_chance 142 = .ok (.iload 4, 2) := by decide +kernel
theorem dX8_chance_144 : decode cX8_chance 144 = .ok (.iconst (-1), 1) := by decide +kernel
theorem dX8_chance_145 : decode cX8_chance 145 = .ok (.ixor, 1) := by decide +kernel
theorem dX8_chance_146 : decode cX8_chance 146 = .ok (.iand, 1) := by decide +kernel
theorem dX8_chance_147 : decode cX8_chance 147 = .ok (.ifCond .ne 127, 3) := by decide +kernel
theorem dX8_chance_150 : decode cX8_chance 150 = .ok (.lconst 1, 1) := by decide +kernel
theorem dX8_chance_151 : decode cX8_chance 151 = .ok (.lstore 10, 2) := by decide +kernel
theorem dX8_chance_153 : decode cX8_chance 153 = .ok (.aload_n 0, 1) := by decide +kernel
theorem dX8_chance_154 : decode cX8_chance 154 = .ok (.getfield 25, 3) := by decide +kernel
theorem dX8_chance_157 : decode cX8_chance 157 = .ok (.iconst 0, 1) := by decide +kernel
theorem dX8_chance_158 : decode cX8_chance 158 = .ok (.aload_n 0, 1) := by decide +kernel
theorem dX8_chance_159 : decode cX8_chance 159 = .ok (.getfield 31, 3) := by decide +kernel
theorem dX8_chance_162 : decode cX8_chance 162 = .ok (.iconst 0, 1) := by decide +kernel
theorem dX8_chance_163 : decode cX8_chance 163 = .ok (.invokestatic 135, 3) := by decide +kernel
theorem dX8_chance_166 : decode cX8_chance 166 = .ok (.iconst 0, 1) := by decide +kernel
theorem dX8_chance_167 : decode cX8_chance 167 = .ok (.istore 12, 2) := by decide +kernel
theorem dX8_chance_169 : decode cX8_chance 169 = .ok (.iload 12, 2) := by decide +kernel
theorem dX8_chance_171 : decode cX8_chance 171 = .ok (.aload_n 0, 1) := by decide +kernel
theorem dX8_chance_172 : decode cX8_chance 172 = .ok (.getfield 25, 3) := by decide +kernel
theorem dX8_chance_175 : decode cX8_chance 175 = .ok (.iconst 0, 1) := by decide +kernel
theorem dX8_chance_176 : decode cX8_chance 176 = .ok (.iaload, 1) := by decide +kernel
theorem dX8_chance_177 : decode cX8_chance 177 = .ok (.if_icmp .ge 75, 3) := by decide +kernel
theorem dX8_chance_180 : decode cX8_chance 180 = .ok (.iload 9, 2) := by decide +kernel
theorem dX8_chance_182 : decode cX8_chance 182 = .ok (.iload 12, 2) := by decide +kernel
theorem dX8_chance_184 : decode cX8_chance 184 = .ok (.ishr, 1) := by decide +kernel
theorem dX8_chance_185 : decode cX8_chance 185 = .ok (.iconst 1, 1) := by decide +kernel
theorem dX8_chance_186 : decode cX8_chance 186 = .ok (.iand, 1) := by decide +kernel
theorem dX8_chance_187 : decode cX8_chance 187 = .ok (.iconst 1, 1) := by decide +kernel
theorem dX8_chance_188 : decode cX8_chance 188 = .ok (.if_icmp .ne 7, 3) := by decide +kernel
theorem dX8_chance_191 : decode cX8_chance 191 = .ok (.iconst 1, 1) := by decide +kernel
theorem dX8_chance_192 : decode cX8_chance 192 = .ok (.goto 4, 3) := by decide +kernel
theorem dX8_chance_195 : decode cX8_chance 195 = .ok (.iconst 0, 1) := by decide +kernel
theorem dX8_chance_196 : decode cX8_chance 196 = .ok (.istore 13, 2) := by decide +kernel
theorem dX8_chance_198 : decode cX8_chance 198 = .ok (.lload 10, 2) := by decide +kernel
theorem dX8_chance_200 : decode cX8_chance 200 = .ok (.iload 4, 2) := by decide +kernel
theorem dX8_chance_202 : decode cX8_chance 202 = .ok (.iload 12, 2) := by decide +kernel
theorem dX8_chance_204 : decode cX8_chance 204 = .ok (.ishr, 1) := by decide +kernel
theorem dX8_chance_205 : decode cX8_chance 205 = .ok (.iconst 1, 1) := by decide +kernel
theorem dX8_chance_206 : decode cX8_chance 206 = .ok (.iand, 1) := by decide +kernel
theorem dX8_chance_207 : decode cX8_chance 207 = .ok (.ifCond .ne 7, 3) := by decide +kernel
theorem dX8_chance_210 : decode cX8_chance 210 = .ok (.lconst 1, 1) := by decide +kernel
theorem dX8_chance_211 : decode cX8_chance 211 = .ok (.goto 18, 3) := by decide +kernel
theorem dX8_chance_214 : decode cX8_chance 214 = .ok (.iload 13, 2) := by decide +kernel
theorem dX8_chance_216 : decode cX8_chance 216 = .ok (.ifCond .eq 8, 3) := by decide +kernel
theorem dX8_chance_219 : decode cX8_chance 219 = .ok (.iload_n 2, 1) := by decide +kernel
theorem dX8_chance_220 : decode cX8_chance 220 = .ok (.i2l, 1) := by decide +kernel
theorem dX8_chance_221 : decode cX8_chance 221 = .ok (.goto 8, 3) := by decide +kernel
theorem dX8_chance_224 : decode cX8_chance 224 = .ok (.bipush 10, 2) := by decide +kernel
theorem dX8_chance_226 : decode cX8_chance 226 = .ok (.iload_n 2, 1) := by decide +kernel
theorem dX8_chance_227 : decode cX8_chance 227 = .ok (.isub, 1) := by decide +kernel
theorem dX8_chance_228 : decode cX8_chance 228 = .ok (.i2l, 1) := by decide +kernel
theorem dX8_chance_229 : decode cX8_chance 229 = .ok (.lmul, 1) := by decide +kernel
theorem dX8_chance_230 : decode cX8_chance 230 = .ok (.lstore 10, 2) := by decide +kernel
theorem dX8_chance_232 : decode cX8_chance 232 = .ok (.iload 13, 2) := by decide +kernel
theorem dX8_chance_234 : decode cX8_chance 234 = .ok (.ifCond .eq 12, 3) := by decide +kernel
theorem dX8_chance_237 : decode cX8_chance 237 = .ok (.aload_n 0, 1) := by decide +kernel
theorem dX8_chance_238 : decode cX8_chance 238 = .ok (.getfield 31, 3) := by decide +kernel
theorem dX8_chance_241 : decode cX8_chance 241 = .ok (.iload 12, 2) := by decide +kernel
theorem dX8_chance_243 : decode cX8_chance 243 = .ok (.invokestatic 159, 3) := by decide +kernel
theorem dX8_chance_246 : decode cX8_chance 246 = .ok (.iinc 12 1, 3) := by decide +kernel
theorem dX8_chance_249 : decode cX8_chance 249 = .ok (.goto (-80), 3) := by decide +kernel
theorem dX8_chance_252 : decode cX8_chance 252 = .ok (.lload 7, 2) := by decide +kernel
theorem dX8_chance_254 : decode cX8_chance 254 = .ok (.aload_n 0, 1) := by decide +kernel
theorem dX8_chance_255 : decode cX8_chance 255 = .ok (.getfield 31, 3) := by decide +kernel
theorem dX8_chance_258 : decode cX8_chance 258 = .ok (.invokestatic 188, 3) := by decide +kernel
theorem dX8_chance_261 : decode cX8_chance 261 = .ok (.iload_n 1, 1) := by decide +kernel
theorem dX8_chance_262 : decode cX8_chance 262 = .ok (.if_icmp .gt 8, 3) := by decide +kernel
theorem dX8_chance_265 : decode cX8_chance 265 = .ok (.lload 10, 2) := by decide +kernel
theorem dX8_chance_267 : decode cX8_chance 267 = .ok (.goto 4, 3) := by decide +kernel
theorem dX8_chance_270 : decode cX8_chance 270 = .ok (.lconst 0, 1) := by decide +kernel
theorem dX8_chance_271 : decode cX8_chance 271 = .ok (.ladd, 1) := by decide +kernel
theorem dX8_chance_272 : decode cX8_chance 272 = .ok (.lstore 7, 2) := by decide +kernel
theorem dX8_chance_274 : decode cX8_chance 274 = .ok (.iinc 9 1, 3) := by decide +kernel
theorem dX8_chance_277 : decode cX8_chance 277 = .ok (.goto (-144), 3) := by decide +kernel
theorem dX8_chance_280 : decode cX8_chance 280 = .ok (.lload 7, 2) := by decide +kernel
theorem dX8_chance_282 : decode cX8_chance 282 = .ok (.lstore 9, 2) := by decide +kernel
theorem dX8_chance_284 : decode cX8_chance 284 = .ok (.lload 5, 2) := by decide +kernel
theorem dX8_chance_286 : decode cX8_chance 286 = .ok (.lstore 11, 2) := by decide +kernel
theorem dX8_chance_288 : decode cX8_chance 288 = .ok (.lload 11, 2) := by decide +kernel
theorem dX8_chance_290 : decode cX8_chance 290 = .ok (.lconst 0, 1) := by decide +kernel
theorem dX8_chance_291 : decode cX8_chance 291 = .ok (.lcmp, 1) := by decide +kernel
theorem dX8_chance_292 : decode cX8_chance 292 = .ok (.ifCond .eq 21, 3) := by decide +kernel
theorem dX8_chance_295 : decode cX8_chance 295 = .ok (.lload 9, 2) := by decide +kernel
theorem dX8_chance_297 : decode cX8_chance 297 = .ok (.lload 11, 2) := by decide +kernel
theorem dX8_chance_299 : decode cX8_chance 299 = .ok (.lrem, 1) := by decide +kernel
theorem dX8_chance_300 : decode cX8_chance 300 = .ok (.lstore 13, 2) := by decide +kernel
theorem dX8_chance_302 : decode cX8_chance 302 = .ok (.lload 11, 2) := by decide +kernel
theorem dX8_chance_304 : decode cX8_chance 304 = .ok (.lstore 9, 2) := by decide +kernel
theorem dX8_chance_306 : decode cX8_chance 306 = .ok (.lload 13, 2) := by decide +kernel
theorem dX8_chance_308 : decode cX8_chance 308 = .ok (.lstore 11, 2) := by decide +kernel
theorem dX8_chance_310 : decode cX8_chance 310 = .ok (.goto (-22), 3) := by decide +kernel
theorem dX8_chance_313 : decode cX8_chance 313 = .ok (.iload_n 3, 1) := by decide +kernel
theorem dX8_chance_314 : decode cX8_chance 314 = .ok (.ifCond .ne 8, 3) := by decide +kernel
theorem dX8_chance_317 : decode cX8_chance 317 = .ok (.lload 7, 2) := by decide +kernel
theorem dX8_chance_319 : decode cX8_chance 319 = .ok (.goto 5, 3) := by decide +kernel
theorem dX8_chance_322 : decode cX8_chance 322 = .ok (.lload 5, 2) := by decide +kernel
theorem dX8_chance_324 : decode cX8_chance 324 = .ok (.lload 9, 2) := by decide +kernel
theorem dX8_chance_326 : decode cX8_chance 326 = .ok (.ldiv, 1) := by decide +kernel
theorem dX8_chance_327 : decode cX8_chance 327 = .ok (.lreturn, 1) := by decide +kernel
def rmX8_chance : Room := { frames := 5, cells := 0, slots := 0, locals := 108 }
def lpX8_chance_288 (K288_313 : Int64 → Int64 → Prop) : Nat → Int64 → Int64 → Prop
  | 0, _, _ => False
  | fu288 + 1, y22, y23 =>
    (((lg_cmp y23 (0 : Int64)) = 0) → (
    K288_313 y22 y23)) ∧
    ((¬ (lg_cmp y23 (0 : Int64)) = 0) → (
    ¬ y23 = 0 ∧
    lpX8_chance_288 K288_313 fu288 y23 (y22 - y22 / y23 * y23)))
def jnX8_chance_229 (o0 : Nat) (y28 : Int64) (x29 : Int32) (M30 : zM) (x37 : Int32) (B169 : Int64 → Int32 → zM → Prop) (y38 : Int64) : Prop :=
    ((x37 = 0) → (
    ∀ x39 : Int32, x39 = x29 + (1 : Int32) →
    B169 (y28 * y38) x39 M30)) ∧
    ((¬ x37 = 0) → (
    wX8_settles M30 (o0 + 8) 50 x29 (fun M40 =>
    ∀ x41 : Int32, x41 = x29 + (1 : Int32) →
    B169 (y28 * y38) x41 M40)))
def jnX8_chance_196 (o0 : Nat) (x2 : Int32) (x13 : Int32) (y28 : Int64) (x29 : Int32) (M30 : zM) (B169 : Int64 → Int32 → zM → Prop) (x37 : Int32) : Prop :=
    ((¬ ((x13 >>> (x29 &&& 31)) &&& (1 : Int32)) = 0) → (
    ((x37 = 0) → (
    jnX8_chance_229 o0 y28 x29 M30 x37 (B169) ((10 : Int32) - x2).toInt64)) ∧
    ((¬ x37 = 0) → (
    jnX8_chance_229 o0 y28 x29 M30 x37 (B169) x2.toInt64)))) ∧
    ((((x13 >>> (x29 &&& 31)) &&& (1 : Int32)) = 0) → (
    jnX8_chance_229 o0 y28 x29 M30 x37 (B169) (1 : Int64)))
def lpX8_chance_169 (o0 : Nat) (x2 : Int32) (x13 : Int32) (x17 : Int32) (K169_252 : Int64 → Int32 → zM → Prop) : Nat → Int64 → Int32 → zM → Prop
  | 0, _, _, _ => False
  | fu169 + 1, y28, x29, M30 =>
    (((M30 (o0 + 6) (0 : Int32).toNatClampNeg) ≤ x29) → (
    K169_252 y28 x29 M30)) ∧
    ((¬ (M30 (o0 + 6) (0 : Int32).toNatClampNeg) ≤ x29) → (
    ((¬ ((x17 >>> (x29 &&& 31)) &&& (1 : Int32)) = (1 : Int32)) → (
    jnX8_chance_196 o0 x2 x13 y28 x29 M30 (lpX8_chance_169 o0 x2 x13 x17 K169_252 fu169) (0 : Int32))) ∧
    ((((x17 >>> (x29 &&& 31)) &&& (1 : Int32)) = (1 : Int32)) → (
    jnX8_chance_196 o0 x2 x13 y28 x29 M30 (lpX8_chance_169 o0 x2 x13 x17 K169_252 fu169) (1 : Int32)))))
def lpX8_chance_133 (o0 : Nat) (x1 : Int32) (x2 : Int32) (x13 : Int32) (K133_280 : Int64 → Int32 → zM → Prop) : Nat → Int64 → Int32 → zM → Prop
  | 0, _, _, _ => False
  | fu133 + 1, y16, x17, M18 =>
    ((x13 < x17) → (
    K133_280 y16 x17 M18)) ∧
    ((¬ x13 < x17) → (
    ((¬ (x17 &&& (x13 ^^^ (-1 : Int32))) = 0) → (
    ∀ x26 : Int32, x26 = x17 + (1 : Int32) →
    lpX8_chance_133 o0 x1 x2 x13 K133_280 fu133 y16 x26 M18)) ∧
    (((x17 &&& (x13 ^^^ (-1 : Int32))) = 0) → (
    wX8_copies M18 (o0 + 6) 50 (0 : Int32) (o0 + 8) 50 (0 : Int32) (fun M27 =>
    ∃ fu169 : Nat, lpX8_chance_169 o0 x2 x13 x17 (fun y31 x32 M33 =>
    wX8_worst M33 (o0 + 8) 50 (fun r34 =>
    ((x1 < r34) → (
    ∀ x35 : Int32, x35 = x17 + (1 : Int32) →
    lpX8_chance_133 o0 x1 x2 x13 K133_280 fu133 (y16 + (0 : Int64)) x35 M33)) ∧
    ((¬ x1 < r34) → (
    ∀ x36 : Int32, x36 = x17 + (1 : Int32) →
    lpX8_chance_133 o0 x1 x2 x13 K133_280 fu133 (y16 + y31) x36 M33)))) fu169 (1 : Int64) (0 : Int32) M27)))))
def jnX8_chance_101 (x10 : Int32) (y11 : Int64) (x12 : Int32) (x43 : Int32) (B53 : Int32 → Int64 → Int32 → Prop) (x44 : Int32) : Prop :=
    ((x43 = 0) → (
    ∀ x45 : Int32, x45 = x12 + (1 : Int32) →
    B53 (x10 ||| x44) (y11 * (1 : Int64)) x45)) ∧
    ((¬ x43 = 0) → (
    ∀ x46 : Int32, x46 = x12 + (1 : Int32) →
    B53 (x10 ||| x44) (y11 * (10 : Int64)) x46))
def jnX8_chance_84 (x10 : Int32) (y11 : Int64) (x12 : Int32) (B53 : Int32 → Int64 → Int32 → Prop) (x43 : Int32) : Prop :=
    ((x43 = 0) → (
    jnX8_chance_101 x10 y11 x12 x43 (B53) (0 : Int32))) ∧
    ((¬ x43 = 0) → (
    jnX8_chance_101 x10 y11 x12 x43 (B53) ((1 : Int32) <<< (x12 &&& 31))))
def lpX8_chance_53 (M : zM) (o0 : Nat) (K53_127 : Int32 → Int64 → Int32 → Prop) : Nat → Int32 → Int64 → Int32 → Prop
  | 0, _, _, _ => False
  | fu53 + 1, x10, y11, x12 =>
    (((M (o0 + 6) (0 : Int32).toNatClampNeg) ≤ x12) → (
    K53_127 x10 y11 x12)) ∧
    ((¬ (M (o0 + 6) (0 : Int32).toNatClampNeg) ≤ x12) → (
    vp_in ((2 : Int32) + ((4 : Int32) * x12)) 50 ∧
    ∀ x42 : Int32, x42 = (M (o0 + 6) ((2 : Int32) + ((4 : Int32) * x12)).toNatClampNeg) →
    ((¬ x42 = (2 : Int32)) → (
    jnX8_chance_84 x10 y11 x12 (lpX8_chance_53 M o0 K53_127 fu53) (0 : Int32))) ∧
    ((x42 = (2 : Int32)) → (
    jnX8_chance_84 x10 y11 x12 (lpX8_chance_53 M o0 K53_127 fu53) (1 : Int32)))))
def wX8_chance (M : zM) (o0 : Nat) (x1 : Int32) (x2 : Int32) (x3 : Int32) (Q : Int64 → zM → Prop) : Prop :=
    wX8_isRail M o0 (fun r6 =>
    ((¬ r6 = 0) → (
    wX8_in M x1 (0 : Int32) (99 : Int32) (fun r7 =>
    ((r7 = 0) → (
    Q (-1000001 : Int64) M)) ∧
    ((¬ r7 = 0) → (
    wX8_in M x2 (0 : Int32) (10 : Int32) (fun r8 =>
    ((r8 = 0) → (
    Q (-1000001 : Int64) M)) ∧
    ((¬ r8 = 0) → (
    wX8_in M x3 (0 : Int32) (1 : Int32) (fun r9 =>
    ((¬ r9 = 0) → (
    ∃ fu53 : Nat, lpX8_chance_53 M o0 (fun x13 y14 x15 =>
    ∃ fu133 : Nat, lpX8_chance_133 o0 x1 x2 x13 (fun y19 x20 M21 =>
    ∃ fu288 : Nat, lpX8_chance_288 (fun y24 y25 =>
    ((¬ x3 = 0) → (
    ¬ y24 = 0 ∧
    Q (y14 / y24) M21)) ∧
    ((x3 = 0) → (
    ¬ y24 = 0 ∧
    Q (y19 / y24) M21))) fu288 y19 y14) fu133 (0 : Int64) (0 : Int32) M) fu53 (0 : Int32) (1 : Int64) (0 : Int32))) ∧
    ((r9 = 0) → (
    Q (-1000001 : Int64) M))))))))))) ∧
    ((r6 = 0) → (
    Q (-1000002 : Int64) M)))
set_option maxHeartbeats 4000000 in
set_option maxRecDepth 100000 in
theorem kX8_chance {l : Launch} {D : va_G} {Y : zY} {ad kd : Nat → Nat} {RL : List Nat} {M : zM} {J : zL} {o0 : Nat} {x1 : Int32} {x2 : Int32} {x3 : Int32} (h_o0 : kd o0 = 8) {Q : Int64 → zM → Prop} (hq : wX8_chance M o0 x1 x2 x3 Q) : zCl_ l yX8_chance wsX8_chance rmX8_chance [.ref (ad o0), .int x1, .int x2, .int x3] D Y ad kd RL M J (fun r M' J' => Q r M' ∧ J = J') := by
  refine z_metl (cc := cX8_chance) (maxL := 15) (ret := (some .long)) (by decide) rfl (Nat.le_of_ble_eq_true rfl) ?_
  intro p e s m below meth c ls A ar QE hQE hx hb hr hml hown hts hlk hw hl
  have hown : s.vm.findClass RX8 = some m.cls := hown
  have hl : lv_has ls 15 [(0, .ref (ad o0)), (1, .int x1), (2, .int x2), (3, .int x3)] := hl
  have hC := hw.2.2.2.2.2.1
  have g8 : ∀ w ∈ wsX80, w.before ar s = true := (fun w h => hts w (List.mem_cons_of_mem _ (List.mem_append_right _ h)))
  have q1 := hts _ (List.mem_of_getElem? (i := 1) rfl)
  have q2 := hts _ (List.mem_of_getElem? (i := 2) rfl)
  have q3 := hts _ (List.mem_of_getElem? (i := 3) rfl)
  have q4 := hts _ (List.mem_of_getElem? (i := 4) rfl)
  have q5 := hts _ (List.mem_of_getElem? (i := 5) rfl)
  unfold wX8_chance at hq
  refine lv_aload_n hx hb dX8_chance_0 rfl (lv_at hl 0 rfl) ?_
  refine z_cvi ⟨hx, hb, hml, hown, hts⟩ hw h_o0 (kX8_isRail h_o0 hq) (by decide) rfl (cwV 0 hts gX8_chance_X8_isRail rfl rfl rfl (by decide +kernel) ⟨Nat.le_of_ble_eq_true rfl, Nat.le_of_ble_eq_true rfl⟩) rfl hl.1 rfl (Nat.le_of_ble_eq_true rfl) dX8_chance_1 ⟨Nat.zero_le _, Nat.zero_le _⟩ (fun r6 M0 J0 H locs hq hw => ?_)
  obtain ⟨hq, rfl, rfl⟩ := hq
  refine lv_if_ne (tgt := 11) hx hb dX8_chance_4 (by decide) (fun hc => ?_) (fun hc => ?_)
  · have hq := hq.1 hc
    refine lv_iload_n hx hb dX8_chance_11 rfl (lv_at hl 1 rfl) ?_
    refine lv_iconst (v := (0 : Int32)) hx hb dX8_chance_12 (by decide) ?_
    refine lv_bipush (v := (99 : Int32)) hx hb dX8_chance_13 (by decide) ?_
    refine z_csi ⟨hx, hb, hml, hown, hts⟩ hw (kX8_in  hq) (va_cwS 3 hts gX8_chance_X8_in rfl rfl rfl (by decide +kernel) ⟨Nat.le_of_ble_eq_true rfl, Nat.le_of_ble_eq_true rfl⟩) rfl hl.1 rfl (Nat.le_of_ble_eq_true rfl) dX8_chance_15 ⟨Nat.zero_le _, Nat.zero_le _⟩ (fun r7 M0 J0 H locs hq hw => ?_)
    obtain ⟨hq, rfl, rfl⟩ := hq
    refine lv_if_eq (tgt := 40) hx hb dX8_chance_18 (by decide) (fun hc => ?_) (fun hc => ?_)
    · have hq := hq.1 hc
      refine lv_ldc2 (v := (-1000001 : Int64)) hx hb hown q2 dX8_chance_40 ?_
      exact z_lret hQE hx hb hr hlk hw dX8_chance_43 ⟨hq, rfl⟩
    · have hq := hq.2 hc
      refine lv_iload_n hx hb dX8_chance_21 rfl (lv_at hl 2 rfl) ?_
      refine lv_iconst (v := (0 : Int32)) hx hb dX8_chance_22 (by decide) ?_
      refine lv_bipush (v := (10 : Int32)) hx hb dX8_chance_23 (by decide) ?_
      refine z_csi ⟨hx, hb, hml, hown, hts⟩ hw (kX8_in  hq) (va_cwS 3 hts gX8_chance_X8_in rfl rfl rfl (by decide +kernel) ⟨Nat.le_of_ble_eq_true rfl, Nat.le_of_ble_eq_true rfl⟩) rfl hl.1 rfl (Nat.le_of_ble_eq_true rfl) dX8_chance_25 ⟨Nat.zero_le _, Nat.zero_le _⟩ (fun r8 M0 J0 H locs hq hw => ?_)
      obtain ⟨hq, rfl, rfl⟩ := hq
      refine lv_if_eq (tgt := 40) hx hb dX8_chance_28 (by decide) (fun hc => ?_) (fun hc => ?_)
      · have hq := hq.1 hc
        refine lv_ldc2 (v := (-1000001 : Int64)) hx hb hown q2 dX8_chance_40 ?_
        exact z_lret hQE hx hb hr hlk hw dX8_chance_43 ⟨hq, rfl⟩
      · have hq := hq.2 hc
        refine lv_iload_n hx hb dX8_chance_31 rfl (lv_at hl 3 rfl) ?_
        refine lv_iconst (v := (0 : Int32)) hx hb dX8_chance_32 (by decide) ?_
        refine lv_iconst (v := (1 : Int32)) hx hb dX8_chance_33 (by decide) ?_
        refine z_csi ⟨hx, hb, hml, hown, hts⟩ hw (kX8_in  hq) (va_cwS 3 hts gX8_chance_X8_in rfl rfl rfl (by decide +kernel) ⟨Nat.le_of_ble_eq_true rfl, Nat.le_of_ble_eq_true rfl⟩) rfl hl.1 rfl (Nat.le_of_ble_eq_true rfl) dX8_chance_34 ⟨Nat.zero_le _, Nat.zero_le _⟩ (fun r9 M0 J0 H locs hq hw => ?_)
        obtain ⟨hq, rfl, rfl⟩ := hq
        refine lv_if_ne (tgt := 44) hx hb dX8_chance_37 (by decide) (fun hc => ?_) (fun hc => ?_)
        · have hq := hq.1 hc
          refine lv_iconst (v := (0 : Int32)) hx hb dX8_chance_44 (by decide) ?_
          refine lv_istore (lv' := [(4, .int (0 : Int32)), (0, .ref (ad o0)), (1, .int x1), (2, .int x2), (3, .int x3)]) hx hb dX8_chance_45 hl (by decide) rfl (fun ls hl => ?_)
          refine lv_lconst (v := (1 : Int64)) hx hb dX8_chance_47 (by decide) ?_
          refine lv_lstore (lv' := [(5, .long (1 : Int64)), (4, .int (0 : Int32)), (0, .ref (ad o0)), (1, .int x1), (2, .int x2), (3, .int x3)]) hx hb dX8_chance_48 hl (by decide) rfl (fun ls hl => ?_)
          refine lv_iconst (v := (0 : Int32)) hx hb dX8_chance_50 (by decide) ?_
          refine lv_istore (lv' := [(7, .int (0 : Int32)), (5, .long (1 : Int64)), (4, .int (0 : Int32)), (0, .ref (ad o0)), (1, .int x1), (2, .int x2), (3, .int x3)]) hx hb dX8_chance_51 hl (by decide) rfl (fun ls hl => ?_)
          have ex53_127 : ∀ (x13 : Int32) (y14 : Int64) (x15 : Int32) (H : Heap) (locs : List Loc) (ls : Array Slot), (∃ fu133 : Nat, lpX8_chance_133 o0 x1 x2 x13 (fun y19 x20 M21 => ∃ fu288 : Nat, lpX8_chance_288 (fun y24 y25 => ((¬ x3 = 0) → ( ¬ y24 = 0 ∧ Q (y14 / y24) M21)) ∧ ((x3 = 0) → ( ¬ y24 = 0 ∧ Q (y19 / y24) M21))) fu288 y19 y14) fu133 (0 : Int64) (0 : Int32) M) → zH D Y ad kd RL M J A s.heap H locs s → lv_has ls 15 [(0, .ref (ad o0)), (1, .int x1), (2, .int x2), (3, .int x3), (4, .int x13), (5, .long y14)] → W p l e rmX8_chance s m ar below meth c H locs 0 0 QE (F0 m 127 ls []) := by
            intro x13 y14 x15 H locs ls hq hw hl
            refine lv_lconst (v := (0 : Int64)) hx hb dX8_chance_127 (by decide) ?_
            refine lv_lstore (lv' := [(7, .long (0 : Int64)), (0, .ref (ad o0)), (1, .int x1), (2, .int x2), (3, .int x3), (4, .int x13), (5, .long y14)]) hx hb dX8_chance_128 hl (by decide) rfl (fun ls hl => ?_)
            refine lv_iconst (v := (0 : Int32)) hx hb dX8_chance_130 (by decide) ?_
            refine lv_istore (lv' := [(9, .int (0 : Int32)), (7, .long (0 : Int64)), (0, .ref (ad o0)), (1, .int x1), (2, .int x2), (3, .int x3), (4, .int x13), (5, .long y14)]) hx hb dX8_chance_131 hl (by decide) rfl (fun ls hl => ?_)
            have ex133_280 : ∀ (y19 : Int64) (x20 : Int32) (M21 : zM) (H : Heap) (locs : List Loc) (ls : Array Slot), (∃ fu288 : Nat, lpX8_chance_288 (fun y24 y25 => ((¬ x3 = 0) → ( ¬ y24 = 0 ∧ Q (y14 / y24) M21)) ∧ ((x3 = 0) → ( ¬ y24 = 0 ∧ Q (y19 / y24) M21))) fu288 y19 y14) → zH D Y ad kd RL M21 J A s.heap H locs s → lv_has ls 15 [(3, .int x3), (5, .long y14), (7, .long y19)] → W p l e rmX8_chance s m ar below meth c H locs 0 0 QE (F0 m 280 ls []) := by
              intro y19 x20 M21 H locs ls hq hw hl
              refine lv_lload hx hb dX8_chance_280 (lv_at hl 2 rfl) ?_
              refine lv_lstore (lv' := [(9, .long y19), (3, .int x3), (5, .long y14), (7, .long y19)]) hx hb dX8_chance_282 hl (by decide) rfl (fun ls hl => ?_)
              refine lv_lload hx hb dX8_chance_284 (lv_at hl 2 rfl) ?_
              refine lv_lstore (lv' := [(11, .long y14), (9, .long y19), (3, .int x3), (5, .long y14), (7, .long y19)]) hx hb dX8_chance_286 hl (by decide) rfl (fun ls hl => ?_)
              have ex288_313 : ∀ (y24 : Int64) (y25 : Int64) (H : Heap) (locs : List Loc) (ls : Array Slot), (((¬ x3 = 0) → ( ¬ y24 = 0 ∧ Q (y14 / y24) M21)) ∧ ((x3 = 0) → ( ¬ y24 = 0 ∧ Q (y19 / y24) M21))) → zH D Y ad kd RL M21 J A s.heap H locs s → lv_has ls 15 [(3, .int x3), (5, .long y14), (7, .long y19), (9, .long y24)] → W p l e rmX8_chance s m ar below meth c H locs 0 0 QE (F0 m 313 ls []) := by
                intro y24 y25 H locs ls hq hw hl
                refine lv_iload_n hx hb dX8_chance_313 rfl (lv_at hl 0 rfl) ?_
                refine lv_if_ne (tgt := 322) hx hb dX8_chance_314 (by decide) (fun hc => ?_) (fun hc => ?_)
                · have hq := hq.1 hc
                  refine lv_lload hx hb dX8_chance_322 (lv_at hl 1 rfl) ?_
                  refine lv_lload hx hb dX8_chance_324 (lv_at hl 3 rfl) ?_
                  obtain ⟨hz, hq⟩ := hq
                  refine lv_ldiv hx hb dX8_chance_326 hz ?_
                  exact z_lret hQE hx hb hr hlk hw dX8_chance_327 ⟨hq, rfl⟩
                · have hq := hq.2 hc
                  refine lv_lload hx hb dX8_chance_317 (lv_at hl 2 rfl) ?_
                  refine lv_goto (tgt := 324) hx hb dX8_chance_319 (by decide) ?_
                  refine lv_lload hx hb dX8_chance_324 (lv_at hl 3 rfl) ?_
                  obtain ⟨hz, hq⟩ := hq
                  refine lv_ldiv hx hb dX8_chance_326 hz ?_
                  exact z_lret hQE hx hb hr hlk hw dX8_chance_327 ⟨hq, rfl⟩
              obtain ⟨fu288, hq⟩ := hq
              have lp288 : ∀ (fu288 : Nat) (y22 : Int64) (y23 : Int64) (H : Heap) (locs : List Loc) (ls : Array Slot), lpX8_chance_288 (fun y24 y25 => ((¬ x3 = 0) → ( ¬ y24 = 0 ∧ Q (y14 / y24) M21)) ∧ ((x3 = 0) → ( ¬ y24 = 0 ∧ Q (y19 / y24) M21))) fu288 y22 y23 → zH D Y ad kd RL M21 J A s.heap H locs s → lv_has ls 15 [(3, .int x3), (5, .long y14), (7, .long y19), (9, .long y22), (11, .long y23)] → W p l e rmX8_chance s m ar below meth c H locs 0 0 QE (F0 m 288 ls []) := by
                intro fu288
                induction fu288 with
                | zero => intro y22 y23 H locs ls hq; exact hq.elim
                | succ fu288 ih288 =>
                  intro y22 y23 H locs ls hq hw hl
                  unfold lpX8_chance_288 at hq
                  refine lv_lload hx hb dX8_chance_288 (lv_at hl 4 rfl) ?_
                  refine lv_lconst (v := (0 : Int64)) hx hb dX8_chance_290 (by decide) ?_
                  refine W.lcmp hx hb dX8_chance_291 ?_
                  refine lv_if_eq (tgt := 313) hx hb dX8_chance_292 (by decide) (fun hc => ?_) (fun hc => ?_)
                  · have hq := hq.1 hc
                    exact ex288_313 y22 y23 _ _ _ hq hw (lv_sub hl [0, 1, 2, 3] rfl)
                  · have hq := hq.2 hc
                    refine lv_lload hx hb dX8_chance_295 (lv_at hl 3 rfl) ?_
                    refine lv_lload hx hb dX8_chance_297 (lv_at hl 4 rfl) ?_
                    obtain ⟨hz, hq⟩ := hq
                    refine lv_lrem hx hb dX8_chance_299 hz ?_
                    refine lv_lstore (lv' := [(13, .long (y22 - y22 / y23 * y23)), (3, .int x3), (5, .long y14), (7, .long y19), (9, .long y22), (11, .long y23)]) hx hb dX8_chance_300 hl (by decide) rfl (fun ls hl => ?_)
                    refine lv_lload hx hb dX8_chance_302 (lv_at hl 5 rfl) ?_
                    refine lv_lstore (lv' := [(9, .long y23), (13, .long (y22 - y22 / y23 * y23)), (3, .int x3), (5, .long y14), (7, .long y19), (11, .long y23)]) hx hb dX8_chance_304 hl (by decide) rfl (fun ls hl => ?_)
                    refine lv_lload hx hb dX8_chance_306 (lv_at hl 1 rfl) ?_
                    refine lv_lstore (lv' := [(11, .long (y22 - y22 / y23 * y23)), (9, .long y23), (13, .long (y22 - y22 / y23 * y23)), (3, .int x3), (5, .long y14), (7, .long y19)]) hx hb dX8_chance_308 hl (by decide) rfl (fun ls hl => ?_)
                    refine lv_goto (tgt := 288) hx hb dX8_chance_310 (by decide) ?_
                    exact ih288 y23 (y22 - y22 / y23 * y23) _ _ _ hq hw (lv_sub hl [3, 4, 5, 1, 0] rfl)
              exact lp288 fu288 y19 y14 _ _ _ hq hw (lv_sub hl [2, 3, 4, 1, 0] rfl)
            obtain ⟨fu133, hq⟩ := hq
            have lp133 : ∀ (fu133 : Nat) (y16 : Int64) (x17 : Int32) (M18 : zM) (H : Heap) (locs : List Loc) (ls : Array Slot), lpX8_chance_133 o0 x1 x2 x13 (fun y19 x20 M21 => ∃ fu288 : Nat, lpX8_chance_288 (fun y24 y25 => ((¬ x3 = 0) → ( ¬ y24 = 0 ∧ Q (y14 / y24) M21)) ∧ ((x3 = 0) → ( ¬ y24 = 0 ∧ Q (y19 / y24) M21))) fu288 y19 y14) fu133 y16 x17 M18 → zH D Y ad kd RL M18 J A s.heap H locs s → lv_has ls 15 [(0, .ref (ad o0)), (1, .int x1), (2, .int x2), (3, .int x3), (4, .int x13), (5, .long y14), (7, .long y16), (9, .int x17)] → W p l e rmX8_chance s m ar below meth c H locs 0 0 QE (F0 m 133 ls []) := by
              intro fu133
              induction fu133 with
              | zero => intro y16 x17 M18 H locs ls hq; exact hq.elim
              | succ fu133 ih133 =>
                intro y16 x17 M18 H locs ls hq hw hl
                unfold lpX8_chance_133 at hq
                refine lv_iload hx hb dX8_chance_133 (lv_at hl 7 rfl) ?_
                refine lv_iload hx hb dX8_chance_135 (lv_at hl 4 rfl) ?_
                refine lv_icmp_gt (tgt := 280) hx hb dX8_chance_137 (by decide) (fun hc => ?_) (fun hc => ?_)
                · have hq := hq.1 hc
                  exact ex133_280 y16 x17 M18 _ _ _ hq hw (lv_sub hl [3, 5, 6] rfl)
                · have hq := hq.2 hc
                  refine lv_iload hx hb dX8_chance_140 (lv_at hl 7 rfl) ?_
                  refine lv_iload hx hb dX8_chance_142 (lv_at hl 4 rfl) ?_
                  refine lv_iconst (v := (-1 : Int32)) hx hb dX8_chance_144 (by decide) ?_
                  refine lv_ixor hx hb dX8_chance_145 ?_
                  refine lv_iand hx hb dX8_chance_146 ?_
                  refine lv_if_ne (tgt := 274) hx hb dX8_chance_147 (by decide) (fun hc => ?_) (fun hc => ?_)
                  · have hq := hq.1 hc
                    obtain ⟨x26, e_x26⟩ : ∃ y : Int32, y = x17 + (1 : Int32) := ⟨_, rfl⟩
                    have hq := hq x26 e_x26
                    refine lv_iinc (v := x26) (lv' := [(9, .int x26), (0, .ref (ad o0)), (1, .int x1), (2, .int x2), (3, .int x3), (4, .int x13), (5, .long y14), (7, .long y16)]) hx hb dX8_chance_274 hl (k := 7) rfl (by rw [e_x26]; rfl) (by decide) rfl (fun ls hl => ?_)
                    refine lv_goto (tgt := 133) hx hb dX8_chance_277 (by decide) ?_
                    exact ih133 y16 x26 M18 _ _ _ hq hw (lv_sub hl [1, 2, 3, 4, 5, 6, 7, 0] rfl)
                  · have hq := hq.2 hc
                    refine lv_lconst (v := (1 : Int64)) hx hb dX8_chance_150 (by decide) ?_
                    refine lv_lstore (lv' := [(10, .long (1 : Int64)), (0, .ref (ad o0)), (1, .int x1), (2, .int x2), (3, .int x3), (4, .int x13), (5, .long y14), (7, .long y16), (9, .int x17)]) hx hb dX8_chance_151 hl (by decide) rfl (fun ls hl => ?_)
                    refine lv_aload_n hx hb dX8_chance_153 rfl (lv_at hl 1 rfl) ?_
                    refine zg8_now hx hb g8 hown hw h_o0 q3 dX8_chance_154 ?_
                    refine lv_iconst (v := (0 : Int32)) hx hb dX8_chance_157 (by decide) ?_
                    refine lv_aload_n hx hb dX8_chance_158 rfl (lv_at hl 1 rfl) ?_
                    refine zg8_tried hx hb g8 hown hw h_o0 q5 dX8_chance_159 ?_
                    refine lv_iconst (v := (0 : Int32)) hx hb dX8_chance_162 (by decide) ?_
                    refine z_csv ⟨hx, hb, hml, hown, hts⟩ hw (kX8_copies (zk_8_6 hC h_o0) (zk_8_8 hC h_o0) hq) (va_cwS 4 hts gX8_chance_X8_copies rfl rfl rfl (by decide +kernel) ⟨Nat.le_of_ble_eq_true rfl, Nat.le_of_ble_eq_true rfl⟩) rfl hl.1 rfl (Nat.le_of_ble_eq_true rfl) dX8_chance_163 ⟨Nat.zero_le _, Nat.zero_le _⟩ (fun M27 J0 H locs hq hw => ?_)
                    obtain ⟨hq, rfl⟩ := hq
                    refine lv_iconst (v := (0 : Int32)) hx hb dX8_chance_166 (by decide) ?_
                    refine lv_istore (lv' := [(12, .int (0 : Int32)), (10, .long (1 : Int64)), (0, .ref (ad o0)), (1, .int x1), (2, .int x2), (3, .int x3), (4, .int x13), (5, .long y14), (7, .long y16), (9, .int x17)]) hx hb dX8_chance_167 hl (by decide) rfl (fun ls hl => ?_)
                    have ex169_252 : ∀ (y31 : Int64) (x32 : Int32) (M33 : zM) (H : Heap) (locs : List Loc) (ls : Array Slot), (wX8_worst M33 (o0 + 8) 50 (fun r34 => ((x1 < r34) → ( ∀ x35 : Int32, x35 = x17 + (1 : Int32) → lpX8_chance_133 o0 x1 x2 x13 (fun y19 x20 M21 => ∃ fu288 : Nat, lpX8_chance_288 (fun y24 y25 => ((¬ x3 = 0) → ( ¬ y24 = 0 ∧ Q (y14 / y24) M21)) ∧ ((x3 = 0) → ( ¬ y24 = 0 ∧ Q (y19 / y24) M21))) fu288 y19 y14) fu133 (y16 + (0 : Int64)) x35 M33)) ∧ ((¬ x1 < r34) → ( ∀ x36 : Int32, x36 = x17 + (1 : Int32) → lpX8_chance_133 o0 x1 x2 x13 (fun y19 x20 M21 => ∃ fu288 : Nat, lpX8_chance_288 (fun y24 y25 => ((¬ x3 = 0) → ( ¬ y24 = 0 ∧ Q (y14 / y24) M21)) ∧ ((x3 = 0) → ( ¬ y24 = 0 ∧ Q (y19 / y24) M21))) fu288 y19 y14) fu133 (y16 + y31) x36 M33)))) → zH D Y ad kd RL M33 J A s.heap H locs s → lv_has ls 15 [(0, .ref (ad o0)), (1, .int x1), (2, .int x2), (3, .int x3), (4, .int x13), (5, .long y14), (7, .long y16), (9, .int x17), (10, .long y31)] → W p l e rmX8_chance s m ar below meth c H locs 0 0 QE (F0 m 252 ls []) := by
                      intro y31 x32 M33 H locs ls hq hw hl
                      refine lv_lload hx hb dX8_chance_252 (lv_at hl 6 rfl) ?_
                      refine lv_aload_n hx hb dX8_chance_254 rfl (lv_at hl 0 rfl) ?_
                      refine zg8_tried hx hb g8 hown hw h_o0 q5 dX8_chance_255 ?_
                      refine z_csi ⟨hx, hb, hml, hown, hts⟩ hw (kX8_worst (zk_8_8 hC h_o0) hq) (va_cwS 1 hts gX8_chance_X8_worst rfl rfl rfl (by decide +kernel) ⟨Nat.le_of_ble_eq_true rfl, Nat.le_of_ble_eq_true rfl⟩) rfl hl.1 rfl (Nat.le_of_ble_eq_true rfl) dX8_chance_258 ⟨Nat.zero_le _, Nat.zero_le _⟩ (fun r34 M0 J0 H locs hq hw => ?_)
                      obtain ⟨hq, rfl, rfl⟩ := hq
                      refine lv_iload_n hx hb dX8_chance_261 rfl (lv_at hl 1 rfl) ?_
                      refine lv_icmp_gt (tgt := 270) hx hb dX8_chance_262 (by decide) (fun hc => ?_) (fun hc => ?_)
                      · have hq := hq.1 hc
                        refine lv_lconst (v := (0 : Int64)) hx hb dX8_chance_270 (by decide) ?_
                        refine lv_ladd hx hb dX8_chance_271 ?_
                        refine lv_lstore (lv' := [(7, .long (y16 + (0 : Int64))), (0, .ref (ad o0)), (1, .int x1), (2, .int x2), (3, .int x3), (4, .int x13), (5, .long y14), (9, .int x17), (10, .long y31)]) hx hb dX8_chance_272 hl (by decide) rfl (fun ls hl => ?_)
                        obtain ⟨x35, e_x35⟩ : ∃ y : Int32, y = x17 + (1 : Int32) := ⟨_, rfl⟩
                        have hq := hq x35 e_x35
                        refine lv_iinc (v := x35) (lv' := [(9, .int x35), (7, .long (y16 + (0 : Int64))), (0, .ref (ad o0)), (1, .int x1), (2, .int x2), (3, .int x3), (4, .int x13), (5, .long y14), (10, .long y31)]) hx hb dX8_chance_274 hl (k := 7) rfl (by rw [e_x35]; rfl) (by decide) rfl (fun ls hl => ?_)
                        refine lv_goto (tgt := 133) hx hb dX8_chance_277 (by decide) ?_
                        exact ih133 (y16 + (0 : Int64)) x35 M33 _ _ _ hq hw (lv_sub hl [2, 3, 4, 5, 6, 7, 1, 0] rfl)
                      · have hq := hq.2 hc
                        refine lv_lload hx hb dX8_chance_265 (lv_at hl 8 rfl) ?_
                        refine lv_goto (tgt := 271) hx hb dX8_chance_267 (by decide) ?_
                        refine lv_ladd hx hb dX8_chance_271 ?_
                        refine lv_lstore (lv' := [(7, .long (y16 + y31)), (0, .ref (ad o0)), (1, .int x1), (2, .int x2), (3, .int x3), (4, .int x13), (5, .long y14), (9, .int x17), (10, .long y31)]) hx hb dX8_chance_272 hl (by decide) rfl (fun ls hl => ?_)
                        obtain ⟨x36, e_x36⟩ : ∃ y : Int32, y = x17 + (1 : Int32) := ⟨_, rfl⟩
                        have hq := hq x36 e_x36
                        refine lv_iinc (v := x36) (lv' := [(9, .int x36), (7, .long (y16 + y31)), (0, .ref (ad o0)), (1, .int x1), (2, .int x2), (3, .int x3), (4, .int x13), (5, .long y14), (10, .long y31)]) hx hb dX8_chance_274 hl (k := 7) rfl (by rw [e_x36]; rfl) (by decide) rfl (fun ls hl => ?_)
                        refine lv_goto (tgt := 133) hx hb dX8_chance_277 (by decide) ?_
                        exact ih133 (y16 + y31) x36 M33 _ _ _ hq hw (lv_sub hl [2, 3, 4, 5, 6, 7, 1, 0] rfl)
                    obtain ⟨fu169, hq⟩ := hq
                    have lp169 : ∀ (fu169 : Nat) (y28 : Int64) (x29 : Int32) (M30 : zM) (H : Heap) (locs : List Loc) (ls : Array Slot), lpX8_chance_169 o0 x2 x13 x17 (fun y31 x32 M33 => wX8_worst M33 (o0 + 8) 50 (fun r34 => ((x1 < r34) → ( ∀ x35 : Int32, x35 = x17 + (1 : Int32) → lpX8_chance_133 o0 x1 x2 x13 (fun y19 x20 M21 => ∃ fu288 : Nat, lpX8_chance_288 (fun y24 y25 => ((¬ x3 = 0) → ( ¬ y24 = 0 ∧ Q (y14 / y24) M21)) ∧ ((x3 = 0) → ( ¬ y24 = 0 ∧ Q (y19 / y24) M21))) fu288 y19 y14) fu133 (y16 + (0 : Int64)) x35 M33)) ∧ ((¬ x1 < r34) → ( ∀ x36 : Int32, x36 = x17 + (1 : Int32) → lpX8_chance_133 o0 x1 x2 x13 (fun y19 x20 M21 => ∃ fu288 : Nat, lpX8_chance_288 (fun y24 y25 => ((¬ x3 = 0) → ( ¬ y24 = 0 ∧ Q (y14 / y24) M21)) ∧ ((x3 = 0) → ( ¬ y24 = 0 ∧ Q (y19 / y24) M21))) fu288 y19 y14) fu133 (y16 + y31) x36 M33)))) fu169 y28 x29 M30 → zH D Y ad kd RL M30 J A s.heap H locs s → lv_has ls 15 [(0, .ref (ad o0)), (1, .int x1), (2, .int x2), (3, .int x3), (4, .int x13), (5, .long y14), (7, .long y16), (9, .int x17), (10, .long y28), (12, .int x29)] → W p l e rmX8_chance s m ar below meth c H locs 0 0 QE (F0 m 169 ls []) := by
                      intro fu169
                      induction fu169 with
                      | zero => intro y28 x29 M30 H locs ls hq; exact hq.elim
                      | succ fu169 ih169 =>
                        intro y28 x29 M30 H locs ls hq hw hl
                        unfold lpX8_chance_169 at hq
                        refine lv_iload hx hb dX8_chance_169 (lv_at hl 9 rfl) ?_
                        refine lv_aload_n hx hb dX8_chance_171 rfl (lv_at hl 0 rfl) ?_
                        refine zg8_now hx hb g8 hown hw h_o0 q3 dX8_chance_172 ?_
                        refine lv_iconst (v := (0 : Int32)) hx hb dX8_chance_175 (by decide) ?_
                        have hi : vp_in (0 : Int32) 50 := by unfold vp_in; decide
                        refine z_iald (n := 50) hx hb hw (zk_8_6 hC h_o0) hi dX8_chance_176 ?_
                        refine lv_icmp_ge (tgt := 252) hx hb dX8_chance_177 (by decide) (fun hc => ?_) (fun hc => ?_)
                        · have hq := hq.1 hc
                          exact ex169_252 y28 x29 M30 _ _ _ hq hw (lv_sub hl [0, 1, 2, 3, 4, 5, 6, 7, 8] rfl)
                        · have hq := hq.2 hc
                          refine lv_iload hx hb dX8_chance_180 (lv_at hl 7 rfl) ?_
                          refine lv_iload hx hb dX8_chance_182 (lv_at hl 9 rfl) ?_
                          refine lv_ishr hx hb dX8_chance_184 ?_
                          refine lv_iconst (v := (1 : Int32)) hx hb dX8_chance_185 (by decide) ?_
                          refine lv_iand hx hb dX8_chance_186 ?_
                          refine lv_iconst (v := (1 : Int32)) hx hb dX8_chance_187 (by decide) ?_
                          have jn196 : ∀ (x37 : Int32) (H : Heap) (locs : List Loc) (ls : Array Slot), jnX8_chance_196 o0 x2 x13 y28 x29 M30 (lpX8_chance_169 o0 x2 x13 x17 (fun y31 x32 M33 => wX8_worst M33 (o0 + 8) 50 (fun r34 => ((x1 < r34) → ( ∀ x35 : Int32, x35 = x17 + (1 : Int32) → lpX8_chance_133 o0 x1 x2 x13 (fun y19 x20 M21 => ∃ fu288 : Nat, lpX8_chance_288 (fun y24 y25 => ((¬ x3 = 0) → ( ¬ y24 = 0 ∧ Q (y14 / y24) M21)) ∧ ((x3 = 0) → ( ¬ y24 = 0 ∧ Q (y19 / y24) M21))) fu288 y19 y14) fu133 (y16 + (0 : Int64)) x35 M33)) ∧ ((¬ x1 < r34) → ( ∀ x36 : Int32, x36 = x17 + (1 : Int32) → lpX8_chance_133 o0 x1 x2 x13 (fun y19 x20 M21 => ∃ fu288 : Nat, lpX8_chance_288 (fun y24 y25 => ((¬ x3 = 0) → ( ¬ y24 = 0 ∧ Q (y14 / y24) M21)) ∧ ((x3 = 0) → ( ¬ y24 = 0 ∧ Q (y19 / y24) M21))) fu288 y19 y14) fu133 (y16 + y31) x36 M33)))) fu169) x37 → zH D Y ad kd RL M30 J A s.heap H locs s → lv_has ls 15 [(0, .ref (ad o0)), (1, .int x1), (2, .int x2), (3, .int x3), (4, .int x13), (5, .long y14), (7, .long y16), (9, .int x17), (10, .long y28), (12, .int x29)] → W p l e rmX8_chance s m ar below meth c H locs 0 0 QE (F0 m 196 ls [.int x37]) := by
                            intro x37 H locs ls hq hw hl
                            unfold jnX8_chance_196 at hq
                            refine lv_istore (lv' := [(13, .int x37), (0, .ref (ad o0)), (1, .int x1), (2, .int x2), (3, .int x3), (4, .int x13), (5, .long y14), (7, .long y16), (9, .int x17), (10, .long y28), (12, .int x29)]) hx hb dX8_chance_196 hl (by decide) rfl (fun ls hl => ?_)
                            refine lv_lload hx hb dX8_chance_198 (lv_at hl 9 rfl) ?_
                            refine lv_iload hx hb dX8_chance_200 (lv_at hl 5 rfl) ?_
                            refine lv_iload hx hb dX8_chance_202 (lv_at hl 10 rfl) ?_
                            refine lv_ishr hx hb dX8_chance_204 ?_
                            refine lv_iconst (v := (1 : Int32)) hx hb dX8_chance_205 (by decide) ?_
                            refine lv_iand hx hb dX8_chance_206 ?_
                            have jn229 : ∀ (y38 : Int64) (H : Heap) (locs : List Loc) (ls : Array Slot), jnX8_chance_229 o0 y28 x29 M30 x37 (lpX8_chance_169 o0 x2 x13 x17 (fun y31 x32 M33 => wX8_worst M33 (o0 + 8) 50 (fun r34 => ((x1 < r34) → ( ∀ x35 : Int32, x35 = x17 + (1 : Int32) → lpX8_chance_133 o0 x1 x2 x13 (fun y19 x20 M21 => ∃ fu288 : Nat, lpX8_chance_288 (fun y24 y25 => ((¬ x3 = 0) → ( ¬ y24 = 0 ∧ Q (y14 / y24) M21)) ∧ ((x3 = 0) → ( ¬ y24 = 0 ∧ Q (y19 / y24) M21))) fu288 y19 y14) fu133 (y16 + (0 : Int64)) x35 M33)) ∧ ((¬ x1 < r34) → ( ∀ x36 : Int32, x36 = x17 + (1 : Int32) → lpX8_chance_133 o0 x1 x2 x13 (fun y19 x20 M21 => ∃ fu288 : Nat, lpX8_chance_288 (fun y24 y25 => ((¬ x3 = 0) → ( ¬ y24 = 0 ∧ Q (y14 / y24) M21)) ∧ ((x3 = 0) → ( ¬ y24 = 0 ∧ Q (y19 / y24) M21))) fu288 y19 y14) fu133 (y16 + y31) x36 M33)))) fu169) y38 → zH D Y ad kd RL M30 J A s.heap H locs s → lv_has ls 15 [(0, .ref (ad o0)), (1, .int x1), (2, .int x2), (3, .int x3), (4, .int x13), (5, .long y14), (7, .long y16), (9, .int x17), (12, .int x29), (13, .int x37)] → W p l e rmX8_chance s m ar below meth c H locs 0 0 QE (F0 m 229 ls [.long y38, .long y28]) := by
                              intro y38 H locs ls hq hw hl
                              unfold jnX8_chance_229 at hq
                              refine lv_lmul hx hb dX8_chance_229 ?_
                              refine lv_lstore (lv' := [(10, .long (y28 * y38)), (0, .ref (ad o0)), (1, .int x1), (2, .int x2), (3, .int x3), (4, .int x13), (5, .long y14), (7, .long y16), (9, .int x17), (12, .int x29), (13, .int x37)]) hx hb dX8_chance_230 hl (by decide) rfl (fun ls hl => ?_)
                              refine lv_iload hx hb dX8_chance_232 (lv_at hl 10 rfl) ?_
                              refine lv_if_eq (tgt := 246) hx hb dX8_chance_234 (by decide) (fun hc => ?_) (fun hc => ?_)
                              · have hq := hq.1 hc
                                obtain ⟨x39, e_x39⟩ : ∃ y : Int32, y = x29 + (1 : Int32) := ⟨_, rfl⟩
                                have hq := hq x39 e_x39
                                refine lv_iinc (v := x39) (lv' := [(12, .int x39), (10, .long (y28 * y38)), (0, .ref (ad o0)), (1, .int x1), (2, .int x2), (3, .int x3), (4, .int x13), (5, .long y14), (7, .long y16), (9, .int x17), (13, .int x37)]) hx hb dX8_chance_246 hl (k := 9) rfl (by rw [e_x39]; rfl) (by decide) rfl (fun ls hl => ?_)
                                refine lv_goto (tgt := 169) hx hb dX8_chance_249 (by decide) ?_
                                exact ih169 (y28 * y38) x39 M30 _ _ _ hq hw (lv_sub hl [2, 3, 4, 5, 6, 7, 8, 9, 1, 0] rfl)
                              · have hq := hq.2 hc
                                refine lv_aload_n hx hb dX8_chance_237 rfl (lv_at hl 1 rfl) ?_
                                refine zg8_tried hx hb g8 hown hw h_o0 q5 dX8_chance_238 ?_
                                refine lv_iload hx hb dX8_chance_241 (lv_at hl 9 rfl) ?_
                                refine z_csv ⟨hx, hb, hml, hown, hts⟩ hw (kX8_settles (zk_8_8 hC h_o0) hq) (va_cwS 2 hts gX8_chance_X8_settles rfl rfl rfl (by decide +kernel) ⟨Nat.le_of_ble_eq_true rfl, Nat.le_of_ble_eq_true rfl⟩) rfl hl.1 rfl (Nat.le_of_ble_eq_true rfl) dX8_chance_243 ⟨Nat.zero_le _, Nat.zero_le _⟩ (fun M40 J0 H locs hq hw => ?_)
                                obtain ⟨hq, rfl⟩ := hq
                                obtain ⟨x41, e_x41⟩ : ∃ y : Int32, y = x29 + (1 : Int32) := ⟨_, rfl⟩
                                have hq := hq x41 e_x41
                                refine lv_iinc (v := x41) (lv' := [(12, .int x41), (10, .long (y28 * y38)), (0, .ref (ad o0)), (1, .int x1), (2, .int x2), (3, .int x3), (4, .int x13), (5, .long y14), (7, .long y16), (9, .int x17), (13, .int x37)]) hx hb dX8_chance_246 hl (k := 9) rfl (by rw [e_x41]; rfl) (by decide) rfl (fun ls hl => ?_)
                                refine lv_goto (tgt := 169) hx hb dX8_chance_249 (by decide) ?_
                                exact ih169 (y28 * y38) x41 M40 _ _ _ hq hw (lv_sub hl [2, 3, 4, 5, 6, 7, 8, 9, 1, 0] rfl)
                            refine lv_if_ne (tgt := 214) hx hb dX8_chance_207 (by decide) (fun hc => ?_) (fun hc => ?_)
                            · have hq := hq.1 hc
                              refine lv_iload hx hb dX8_chance_214 (lv_at hl 0 rfl) ?_
                              refine lv_if_eq (tgt := 224) hx hb dX8_chance_216 (by decide) (fun hc => ?_) (fun hc => ?_)
                              · have hq := hq.1 hc
                                refine lv_bipush (v := (10 : Int32)) hx hb dX8_chance_224 (by decide) ?_
                                refine lv_iload_n hx hb dX8_chance_226 rfl (lv_at hl 3 rfl) ?_
                                refine lv_isub hx hb dX8_chance_227 ?_
                                refine lv_i2l hx hb dX8_chance_228 rfl ?_
                                exact jn229 ((10 : Int32) - x2).toInt64 _ _ _ hq hw (lv_sub hl [1, 2, 3, 4, 5, 6, 7, 8, 10, 0] rfl)
                              · have hq := hq.2 hc
                                refine lv_iload_n hx hb dX8_chance_219 rfl (lv_at hl 3 rfl) ?_
                                refine lv_i2l hx hb dX8_chance_220 rfl ?_
                                refine lv_goto (tgt := 229) hx hb dX8_chance_221 (by decide) ?_
                                exact jn229 x2.toInt64 _ _ _ hq hw (lv_sub hl [1, 2, 3, 4, 5, 6, 7, 8, 10, 0] rfl)
                            · have hq := hq.2 hc
                              refine lv_lconst (v := (1 : Int64)) hx hb dX8_chance_210 (by decide) ?_
                              refine lv_goto (tgt := 229) hx hb dX8_chance_211 (by decide) ?_
                              exact jn229 (1 : Int64) _ _ _ hq hw (lv_sub hl [1, 2, 3, 4, 5, 6, 7, 8, 10, 0] rfl)
                          refine lv_icmp_ne (tgt := 195) hx hb dX8_chance_188 (by decide) (fun hc => ?_) (fun hc => ?_)
                          · have hq := hq.1 hc
                            refine lv_iconst (v := (0 : Int32)) hx hb dX8_chance_195 (by decide) ?_
                            exact jn196 (0 : Int32) _ _ _ hq hw (lv_sub hl [0, 1, 2, 3, 4, 5, 6, 7, 8, 9] rfl)
                          · have hq := hq.2 hc
                            refine lv_iconst (v := (1 : Int32)) hx hb dX8_chance_191 (by decide) ?_
                            refine lv_goto (tgt := 196) hx hb dX8_chance_192 (by decide) ?_
                            exact jn196 (1 : Int32) _ _ _ hq hw (lv_sub hl [0, 1, 2, 3, 4, 5, 6, 7, 8, 9] rfl)
                    exact lp169 fu169 (1 : Int64) (0 : Int32) M27 _ _ _ hq hw (lv_sub hl [2, 3, 4, 5, 6, 7, 8, 9, 1, 0] rfl)
            exact lp133 fu133 (0 : Int64) (0 : Int32) M _ _ _ hq hw (lv_sub hl [2, 3, 4, 5, 6, 7, 1, 0] rfl)
          obtain ⟨fu53, hq⟩ := hq
          have lp53 : ∀ (fu53 : Nat) (x10 : Int32) (y11 : Int64) (x12 : Int32) (H : Heap) (locs : List Loc) (ls : Array Slot), lpX8_chance_53 M o0 (fun x13 y14 x15 => ∃ fu133 : Nat, lpX8_chance_133 o0 x1 x2 x13 (fun y19 x20 M21 => ∃ fu288 : Nat, lpX8_chance_288 (fun y24 y25 => ((¬ x3 = 0) → ( ¬ y24 = 0 ∧ Q (y14 / y24) M21)) ∧ ((x3 = 0) → ( ¬ y24 = 0 ∧ Q (y19 / y24) M21))) fu288 y19 y14) fu133 (0 : Int64) (0 : Int32) M) fu53 x10 y11 x12 → zH D Y ad kd RL M J A s.heap H locs s → lv_has ls 15 [(0, .ref (ad o0)), (1, .int x1), (2, .int x2), (3, .int x3), (4, .int x10), (5, .long y11), (7, .int x12)] → W p l e rmX8_chance s m ar below meth c H locs 0 0 QE (F0 m 53 ls []) := by
            intro fu53
            induction fu53 with
            | zero => intro x10 y11 x12 H locs ls hq; exact hq.elim
            | succ fu53 ih53 =>
              intro x10 y11 x12 H locs ls hq hw hl
              unfold lpX8_chance_53 at hq
              refine lv_iload hx hb dX8_chance_53 (lv_at hl 6 rfl) ?_
              refine lv_aload_n hx hb dX8_chance_55 rfl (lv_at hl 0 rfl) ?_
              refine zg8_now hx hb g8 hown hw h_o0 q3 dX8_chance_56 ?_
              refine lv_iconst (v := (0 : Int32)) hx hb dX8_chance_59 (by decide) ?_
              have hi : vp_in (0 : Int32) 50 := by unfold vp_in; decide
              refine z_iald (n := 50) hx hb hw (zk_8_6 hC h_o0) hi dX8_chance_60 ?_
              refine lv_icmp_ge (tgt := 127) hx hb dX8_chance_61 (by decide) (fun hc => ?_) (fun hc => ?_)
              · have hq := hq.1 hc
                exact ex53_127 x10 y11 x12 _ _ _ hq hw (lv_sub hl [0, 1, 2, 3, 4, 5] rfl)
              · have hq := hq.2 hc
                refine lv_aload_n hx hb dX8_chance_64 rfl (lv_at hl 0 rfl) ?_
                refine zg8_now hx hb g8 hown hw h_o0 q3 dX8_chance_65 ?_
                refine lv_iconst (v := (2 : Int32)) hx hb dX8_chance_68 (by decide) ?_
                refine lv_iconst (v := (4 : Int32)) hx hb dX8_chance_69 (by decide) ?_
                refine lv_iload hx hb dX8_chance_70 (lv_at hl 6 rfl) ?_
                refine lv_imul hx hb dX8_chance_72 ?_
                refine lv_iadd hx hb dX8_chance_73 ?_
                obtain ⟨hi, hq⟩ := hq
                refine z_iald (n := 50) hx hb hw (zk_8_6 hC h_o0) hi dX8_chance_74 ?_
                refine lv_topi (fun x42 e_x42 => ?_)
                have hq := hq x42 e_x42
                refine lv_iconst (v := (2 : Int32)) hx hb dX8_chance_75 (by decide) ?_
                have jn84 : ∀ (x43 : Int32) (H : Heap) (locs : List Loc) (ls : Array Slot), jnX8_chance_84 x10 y11 x12 (lpX8_chance_53 M o0 (fun x13 y14 x15 => ∃ fu133 : Nat, lpX8_chance_133 o0 x1 x2 x13 (fun y19 x20 M21 => ∃ fu288 : Nat, lpX8_chance_288 (fun y24 y25 => ((¬ x3 = 0) → ( ¬ y24 = 0 ∧ Q (y14 / y24) M21)) ∧ ((x3 = 0) → ( ¬ y24 = 0 ∧ Q (y19 / y24) M21))) fu288 y19 y14) fu133 (0 : Int64) (0 : Int32) M) fu53) x43 → zH D Y ad kd RL M J A s.heap H locs s → lv_has ls 15 [(0, .ref (ad o0)), (1, .int x1), (2, .int x2), (3, .int x3), (4, .int x10), (5, .long y11), (7, .int x12)] → W p l e rmX8_chance s m ar below meth c H locs 0 0 QE (F0 m 84 ls [.int x43]) := by
                  intro x43 H locs ls hq hw hl
                  unfold jnX8_chance_84 at hq
                  refine lv_istore (lv' := [(8, .int x43), (0, .ref (ad o0)), (1, .int x1), (2, .int x2), (3, .int x3), (4, .int x10), (5, .long y11), (7, .int x12)]) hx hb dX8_chance_84 hl (by decide) rfl (fun ls hl => ?_)
                  refine lv_iload hx hb dX8_chance_86 (lv_at hl 5 rfl) ?_
                  refine lv_iload hx hb dX8_chance_88 (lv_at hl 0 rfl) ?_
                  have jn101 : ∀ (x44 : Int32) (H : Heap) (locs : List Loc) (ls : Array Slot), jnX8_chance_101 x10 y11 x12 x43 (lpX8_chance_53 M o0 (fun x13 y14 x15 => ∃ fu133 : Nat, lpX8_chance_133 o0 x1 x2 x13 (fun y19 x20 M21 => ∃ fu288 : Nat, lpX8_chance_288 (fun y24 y25 => ((¬ x3 = 0) → ( ¬ y24 = 0 ∧ Q (y14 / y24) M21)) ∧ ((x3 = 0) → ( ¬ y24 = 0 ∧ Q (y19 / y24) M21))) fu288 y19 y14) fu133 (0 : Int64) (0 : Int32) M) fu53) x44 → zH D Y ad kd RL M J A s.heap H locs s → lv_has ls 15 [(0, .ref (ad o0)), (1, .int x1), (2, .int x2), (3, .int x3), (5, .long y11), (7, .int x12), (8, .int x43)] → W p l e rmX8_chance s m ar below meth c H locs 0 0 QE (F0 m 101 ls [.int x44, .int x10]) := by
                    intro x44 H locs ls hq hw hl
                    unfold jnX8_chance_101 at hq
                    refine lv_ior hx hb dX8_chance_101 ?_
                    refine lv_istore (lv' := [(4, .int (x10 ||| x44)), (0, .ref (ad o0)), (1, .int x1), (2, .int x2), (3, .int x3), (5, .long y11), (7, .int x12), (8, .int x43)]) hx hb dX8_chance_102 hl (by decide) rfl (fun ls hl => ?_)
                    refine lv_lload hx hb dX8_chance_104 (lv_at hl 5 rfl) ?_
                    refine lv_iload hx hb dX8_chance_106 (lv_at hl 7 rfl) ?_
                    refine lv_if_eq (tgt := 117) hx hb dX8_chance_108 (by decide) (fun hc => ?_) (fun hc => ?_)
                    · have hq := hq.1 hc
                      refine lv_lconst (v := (1 : Int64)) hx hb dX8_chance_117 (by decide) ?_
                      refine lv_lmul hx hb dX8_chance_118 ?_
                      refine lv_lstore (lv' := [(5, .long (y11 * (1 : Int64))), (4, .int (x10 ||| x44)), (0, .ref (ad o0)), (1, .int x1), (2, .int x2), (3, .int x3), (7, .int x12), (8, .int x43)]) hx hb dX8_chance_119 hl (by decide) rfl (fun ls hl => ?_)
                      obtain ⟨x45, e_x45⟩ : ∃ y : Int32, y = x12 + (1 : Int32) := ⟨_, rfl⟩
                      have hq := hq x45 e_x45
                      refine lv_iinc (v := x45) (lv' := [(7, .int x45), (5, .long (y11 * (1 : Int64))), (4, .int (x10 ||| x44)), (0, .ref (ad o0)), (1, .int x1), (2, .int x2), (3, .int x3), (8, .int x43)]) hx hb dX8_chance_121 hl (k := 6) rfl (by rw [e_x45]; rfl) (by decide) rfl (fun ls hl => ?_)
                      refine lv_goto (tgt := 53) hx hb dX8_chance_124 (by decide) ?_
                      exact ih53 (x10 ||| x44) (y11 * (1 : Int64)) x45 _ _ _ hq hw (lv_sub hl [3, 4, 5, 6, 2, 1, 0] rfl)
                    · have hq := hq.2 hc
                      refine lv_ldc2 (v := (10 : Int64)) hx hb hown q4 dX8_chance_111 ?_
                      refine lv_goto (tgt := 118) hx hb dX8_chance_114 (by decide) ?_
                      refine lv_lmul hx hb dX8_chance_118 ?_
                      refine lv_lstore (lv' := [(5, .long (y11 * (10 : Int64))), (4, .int (x10 ||| x44)), (0, .ref (ad o0)), (1, .int x1), (2, .int x2), (3, .int x3), (7, .int x12), (8, .int x43)]) hx hb dX8_chance_119 hl (by decide) rfl (fun ls hl => ?_)
                      obtain ⟨x46, e_x46⟩ : ∃ y : Int32, y = x12 + (1 : Int32) := ⟨_, rfl⟩
                      have hq := hq x46 e_x46
                      refine lv_iinc (v := x46) (lv' := [(7, .int x46), (5, .long (y11 * (10 : Int64))), (4, .int (x10 ||| x44)), (0, .ref (ad o0)), (1, .int x1), (2, .int x2), (3, .int x3), (8, .int x43)]) hx hb dX8_chance_121 hl (k := 6) rfl (by rw [e_x46]; rfl) (by decide) rfl (fun ls hl => ?_)
                      refine lv_goto (tgt := 53) hx hb dX8_chance_124 (by decide) ?_
                      exact ih53 (x10 ||| x44) (y11 * (10 : Int64)) x46 _ _ _ hq hw (lv_sub hl [3, 4, 5, 6, 2, 1, 0] rfl)
                  refine lv_if_eq (tgt := 100) hx hb dX8_chance_90 (by decide) (fun hc => ?_) (fun hc => ?_)
                  · have hq := hq.1 hc
                    refine lv_iconst (v := (0 : Int32)) hx hb dX8_chance_100 (by decide) ?_
                    exact jn101 (0 : Int32) _ _ _ hq hw (lv_sub hl [1, 2, 3, 4, 6, 7, 0] rfl)
                  · have hq := hq.2 hc
                    refine lv_iconst (v := (1 : Int32)) hx hb dX8_chance_93 (by decide) ?_
                    refine lv_iload hx hb dX8_chance_94 (lv_at hl 7 rfl) ?_
                    refine lv_ishl hx hb dX8_chance_96 ?_
                    refine lv_goto (tgt := 101) hx hb dX8_chance_97 (by decide) ?_
                    exact jn101 ((1 : Int32) <<< (x12 &&& 31)) _ _ _ hq hw (lv_sub hl [1, 2, 3, 4, 6, 7, 0] rfl)
                refine lv_icmp_ne (tgt := 83) hx hb dX8_chance_76 (by decide) (fun hc => ?_) (fun hc => ?_)
                · have hq := hq.1 hc
                  refine lv_iconst (v := (0 : Int32)) hx hb dX8_chance_83 (by decide) ?_
                  exact jn84 (0 : Int32) _ _ _ hq hw (lv_sub hl [0, 1, 2, 3, 4, 5, 6] rfl)
                · have hq := hq.2 hc
                  refine lv_iconst (v := (1 : Int32)) hx hb dX8_chance_79 (by decide) ?_
                  refine lv_goto (tgt := 84) hx hb dX8_chance_80 (by decide) ?_
                  exact jn84 (1 : Int32) _ _ _ hq hw (lv_sub hl [0, 1, 2, 3, 4, 5, 6] rfl)
          exact lp53 fu53 (0 : Int32) (1 : Int64) (0 : Int32) _ _ _ hq hw (lv_sub hl [3, 4, 5, 6, 2, 1, 0] rfl)
        · have hq := hq.2 hc
          refine lv_ldc2 (v := (-1000001 : Int64)) hx hb hown q2 dX8_chance_40 ?_
          exact z_lret hQE hx hb hr hlk hw dX8_chance_43 ⟨hq, rfl⟩
  · have hq := hq.2 hc
    refine lv_ldc2 (v := (-1000002 : Int64)) hx hb hown q1 dX8_chance_7 ?_
    exact z_lret hQE hx hb hr hlk hw dX8_chance_10 ⟨hq, rfl⟩
set_option maxRecDepth 20000 in
theorem ggX8_drawn_X8_isRail : GoodIn wsX8_drawn wsX8_isRail := goodIn_r _ [13, 4, 47, 48, 49, 50, 51, 52, 53, 54, 55, 56, 57, 58, 59, 60, 61, 62, 63, 64, 65, 66, 67, 68, 69, 70, 71, 72] (by decide +kernel) (by decide +kernel)
set_option maxRecDepth 20000 in
theorem gX8_drawn_X8_isRail : GoodIn wsX8_drawn (wsV RX8 173 RX8 yX8_isRail wsX8_isRail) := goodIn_app (goodIn_of _ (by decide +kernel)) ggX8_drawn_X8_isRail
set_option maxRecDepth 20000 in
theorem ggX8_drawn_X8_in : GoodIn wsX8_drawn wsX8_in := goodIn_r _ [16] (by decide +kernel) (by decide +kernel)
set_option maxRecDepth 20000 in
theorem gX8_drawn_X8_in : GoodIn wsX8_drawn (va_wsS RX8 59 yX8_in wsX8_in) := goodIn_app (goodIn_of _ (by decide +kernel)) ggX8_drawn_X8_in
set_option maxRecDepth 20000 in
theorem ggX8_drawn_X8_copies : GoodIn wsX8_drawn wsX8_copies := goodIn_r _ [19] (by decide +kernel) (by decide +kernel)
set_option maxRecDepth 20000 in
theorem gX8_drawn_X8_copies : GoodIn wsX8_drawn (va_wsS RX8 135 yX8_copies wsX8_copies) := goodIn_app (goodIn_of _ (by decide +kernel)) ggX8_drawn_X8_copies
set_option maxRecDepth 20000 in
theorem ggX8_drawn_X8_size : GoodIn wsX8_drawn wsX8_size := goodIn_r _ [22] (by decide +kernel) (by decide +kernel)
set_option maxRecDepth 20000 in
theorem gX8_drawn_X8_size : GoodIn wsX8_drawn (va_wsS RX8 153 yX8_size wsX8_size) := goodIn_app (goodIn_of _ (by decide +kernel)) ggX8_drawn_X8_size
set_option maxRecDepth 20000 in
theorem ggX8_drawn_X8_reach : GoodIn wsX8_drawn wsX8_reach := goodIn_r _ [25] (by decide +kernel) (by decide +kernel)
set_option maxRecDepth 20000 in
theorem gX8_drawn_X8_reach : GoodIn wsX8_drawn (va_wsS RX8 166 yX8_reach wsX8_reach) := goodIn_app (goodIn_of _ (by decide +kernel)) ggX8_drawn_X8_reach
set_option maxRecDepth 20000 in
theorem ggX8_drawn_X8_works : GoodIn wsX8_drawn wsX8_works := goodIn_r _ [28, 29, 30, 12, 31, 32, 33, 34, 14, 15, 16] (by decide +kernel) (by decide +kernel)
set_option maxRecDepth 20000 in
theorem gX8_drawn_X8_works : GoodIn wsX8_drawn (va_wsS RX8 180 yX8_works wsX8_works) := goodIn_app (goodIn_of _ (by decide +kernel)) ggX8_drawn_X8_works
set_option maxRecDepth 20000 in
theorem ggX8_drawn_X8_worst : GoodIn wsX8_drawn wsX8_worst := goodIn_r _ [37, 38, 39, 12, 40, 41, 42, 43, 44, 45, 46, 32, 33, 34, 14, 15, 16, 20, 21, 22] (by decide +kernel) (by decide +kernel)
set_option maxRecDepth 20000 in
theorem gX8_drawn_X8_worst : GoodIn wsX8_drawn (va_wsS RX8 188 yX8_worst wsX8_worst) := goodIn_app (goodIn_of _ (by decide +kernel)) ggX8_drawn_X8_worst
theorem dX8_drawn_0 : decode cX8_drawn 0 = .ok (.aload_n 0, 1) := by decide +kernel
theorem dX8_drawn_1 : decode cX8_drawn 1 = .ok (.invokevirtual 173, 3) := by decide +kernel
theorem dX8_drawn_4 : decode cX8_drawn 4 = .ok (.ifCond .ne 6, 3) := by decide +kernel
theorem dX8_drawn_7 : decode cX8_drawn 7 = .ok (.ldc 169, 2) := by decide +kernel
theorem dX8_drawn_9 : decode cX8_drawn 9 = .ok (.ireturn, 1) := by decide +kernel
theorem dX8_drawn_10 : decode cX8_drawn 10 = .ok (.iload_n 1, 1) := by decide +kernel
theorem dX8_drawn_11 : decode cX8_drawn 11 = .ok (.iconst 0, 1) := by decide +kernel
theorem dX8_drawn_12 : decode cX8_drawn 12 = .ok (.bipush 60, 2) := by decide +kernel
theorem dX8_drawn_14 : decode cX8_drawn 14 = .ok (.invokestatic 59, 3) := by decide +kernel
theorem dX8_drawn_17 : decode cX8_drawn 17 = .ok (.ifCond .eq 22, 3) := by decide +kernel
theorem dX8_drawn_20 : decode cX8_drawn 20 = .ok (.iload_n 2, 1) := by decide +kernel
theorem dX8_drawn_21 : decode cX8_drawn 21 = .ok (.iconst 1, 1) := by decide +kernel
theorem dX8_drawn_22 : decode cX8_drawn 22 = .ok (.ldc 248, 2) := by decide +kernel
theorem dX8_drawn_24 : decode cX8_drawn 24 = .ok (.invokestatic 59, 3) := by decide +kernel
theorem dX8_drawn_27 : decode cX8_drawn 27 = .ok (.ifCond .eq 12, 3) := by decide +kernel
theorem dX8_drawn_30 : decode cX8_drawn 30 = .ok (.iload_n 3, 1) := by decide +kernel
theorem dX8_drawn_31 : decode cX8_drawn 31 = .ok (.iconst 0, 1) := by decide +kernel
theorem dX8_drawn_32 : decode cX8_drawn 32 = .ok (.iconst 1, 1) := by decide +kernel
theorem dX8_drawn_33 : decode cX8_drawn 33 = .ok (.invokestatic 59, 3) := by decide +kernel
theorem dX8_drawn_36 : decode cX8_drawn 36 = .ok (.ifCond .ne 6, 3) := by decide +kernel
theorem dX8_drawn_39 : decode cX8_drawn 39 = .ok (.ldc 67, 2) := by decide +kernel
theorem dX8_drawn_41 : decode cX8_drawn 41 = .ok (.ireturn, 1) := by decide +kernel
theorem dX8_drawn_42 : decode cX8_drawn 42 = .ok (.aload_n 0, 1) := by decide +kernel
theorem dX8_drawn_43 : decode cX8_drawn 43 = .ok (.getfield 25, 3) := by decide +kernel
theorem dX8_drawn_46 : decode cX8_drawn 46 = .ok (.iconst 0, 1) := by decide +kernel
theorem dX8_drawn_47 : decode cX8_drawn 47 = .ok (.aload_n 0, 1) := by decide +kernel
theorem dX8_drawn_48 : decode cX8_drawn 48 = .ok (.getfield 31, 3) := by decide +kernel
theorem dX8_drawn_51 : decode cX8_drawn 51 = .ok (.iconst 0, 1) := by decide +kernel
theorem dX8_drawn_52 : decode cX8_drawn 52 = .ok (.invokestatic 135, 3) := by decide +kernel
theorem dX8_drawn_55 : decode cX8_drawn 55 = .ok (.iload_n 2, 1) := by decide +kernel
theorem dX8_drawn_56 : decode cX8_drawn 56 = .ok (.i2l, 1) := by decide +kernel
theorem dX8_drawn_57 : decode cX8_drawn 57 = .ok (.lstore 4, 2) := by decide +kernel
theorem dX8_drawn_59 : decode cX8_drawn 59 = .ok (.iconst 0, 1) := by decide +kernel
theorem dX8_drawn_60 : decode cX8_drawn 60 = .ok (.istore 6, 2) := by decide +kernel
theorem dX8_drawn_62 : decode cX8_drawn 62 = .ok (.iconst 1, 1) := by decide +kernel
theorem dX8_drawn_63 : decode cX8_drawn 63 = .ok (.istore 7, 2) := by decide +kernel
theorem dX8_drawn_65 : decode cX8_drawn 65 = .ok (.iload 7, 2) := by decide +kernel
theorem dX8_drawn_67 : decode cX8_drawn 67 = .ok (.iload_n 1, 1) := by decide +kernel
theorem dX8_drawn_68 : decode cX8_drawn 68 = .ok (.if_icmp .gt 94, 3) := by decide +kernel
theorem dX8_drawn_71 : decode cX8_drawn 71 = .ok (.lload 4, 2) := by decide +kernel
theorem dX8_drawn_73 : decode cX8_drawn 73 = .ok (.ldc2_w 249, 3) := by decide +kernel
theorem dX8_drawn_76 : decode cX8_drawn 76 = .ok (.lmul, 1) := by decide +kernel
theorem dX8_drawn_77 : decode cX8_drawn 77 = .ok (.ldc2_w 232, 3) := by decide +kernel
theorem dX8_drawn_80 : decode cX8_drawn 80 = .ok (.lrem, 1) := by decide +kernel
theorem dX8_drawn_81 : decode cX8_drawn 81 = .ok (.lstore 4, 2) := by decide +kernel
theorem dX8_drawn_83 : decode cX8_drawn 83 = .ok (.lload 4, 2) := by decide +kernel
theorem dX8_drawn_85 : decode cX8_drawn 85 = .ok (.aload_n 0, 1) := by decide +kernel
theorem dX8_drawn_86 : decode cX8_drawn 86 = .ok (.getfield 25, 3) := by decide +kernel
theorem dX8_drawn_89 : decode cX8_drawn 89 = .ok (.iconst 0, 1) := by decide +kernel
theorem dX8_drawn_90 : decode cX8_drawn 90 = .ok (.iaload, 1) := by decide +kernel
theorem dX8_drawn_91 : decode cX8_drawn 91 = .ok (.i2l, 1) := by decide +kernel
theorem dX8_drawn_92 : decode cX8_drawn 92 = .ok (.lrem, 1) := by decide +kernel
theorem dX8_drawn_93 : decode cX8_drawn 93 = .ok (.l2i, 1) := by decide +kernel
theorem dX8_drawn_94 : decode cX8_drawn 94 = .ok (.istore 8, 2) := by decide +kernel
theorem dX8_drawn_96 : decode cX8_drawn 96 = .ok (.lload 4, 2) := by decide +kernel
theorem dX8_drawn_98 : decode cX8_drawn 98 = .ok (.ldc2_w 251, 3) := by decide +kernel
theorem dX8_drawn_101 : decode cX8_drawn 101 = .ok (.lrem, 1) := by decide +kernel
theorem dX8_drawn_102 : decode cX8_drawn 102 = .ok (.l2i, 1) := by decide +kernel
theorem dX8_drawn_103 : decode cX8_drawn 103 = .ok (.iconst 3, 1) := by decide +kernel
theorem dX8_drawn_104 : decode cX8_drawn 104 = .ok (.isub, 1) := by decide +kernel
theorem dX8_drawn_105 : decode cX8_drawn 105 = .ok (.istore 9, 2) := by decide +kernel
theorem dX8_drawn_107 : decode cX8_drawn 107 = .ok (.iload 9, 2) := by decide +kernel
theorem dX8_drawn_109 : decode cX8_drawn 109 = .ok (.invokestatic 153, 3) := by decide +kernel
theorem dX8_drawn_112 : decode cX8_drawn 112 = .ok (.aload_n 0, 1) := by decide +kernel
theorem dX8_drawn_113 : decode cX8_drawn 113 = .ok (.getfield 31, 3) := by decide +kernel
theorem dX8_drawn_116 : decode cX8_drawn 116 = .ok (.iload 8, 2) := by decide +kernel
theorem dX8_drawn_118 : decode cX8_drawn 118 = .ok (.invokestatic 166, 3) := by decide +kernel
theorem dX8_drawn_121 : decode cX8_drawn 121 = .ok (.if_icmp .gt 21, 3) := by decide +kernel
theorem dX8_drawn_124 : decode cX8_drawn 124 = .ok (.aload_n 0, 1) := by decide +kernel
theorem dX8_drawn_125 : decode cX8_drawn 125 = .ok (.getfield 31, 3) := by decide +kernel
theorem dX8_drawn_128 : decode cX8_drawn 128 = .ok (.iconst 2, 1) := by decide +kernel
theorem dX8_drawn_129 : decode cX8_drawn 129 = .ok (.iconst 4, 1) := by decide +kernel
theorem dX8_drawn_130 : decode cX8_drawn 130 = .ok (.iload 8, 2) := by decide +kernel
theorem dX8_drawn_132 : decode cX8_drawn 132 = .ok (.imul, 1) := by decide +kernel
theorem dX8_drawn_133 : decode cX8_drawn 133 = .ok (.iadd, 1) := by decide +kernel
theorem dX8_drawn_134 : decode cX8_drawn 134 = .ok (.iconst 3, 1) := by decide +kernel
theorem dX8_drawn_135 : decode cX8_drawn 135 = .ok (.iadd, 1) := by decide +kernel
theorem dX8_drawn_136 : decode cX8_drawn 136 = .ok (.iload 9, 2) := by decide +kernel
theorem dX8_drawn_138 : decode cX8_drawn 138 = .ok (.iastore, 1) := by decide +kernel
theorem dX8_drawn_139 : decode cX8_drawn 139 = .ok (.iinc 6 1, 3) := by decide +kernel
theorem dX8_drawn_142 : decode cX8_drawn 142 = .ok (.iload 7, 2) := by decide +kernel
theorem dX8_drawn_144 : decode cX8_drawn 144 = .ok (.iconst 5, 1) := by decide +kernel
theorem dX8_drawn_145 : decode cX8_drawn 145 = .ok (.irem, 1) := by decide +kernel
theorem dX8_drawn_146 : decode cX8_drawn 146 = .ok (.ifCond .ne 10, 3) := by decide +kernel
theorem dX8_drawn_149 : decode cX8_drawn 149 = .ok (.aload_n 0, 1) := by decide +kernel
theorem dX8_drawn_150 : decode cX8_drawn 150 = .ok (.getfield 31, 3) := by decide +kernel
theorem dX8_drawn_153 : decode cX8_drawn 153 = .ok (.invokestatic 180, 3) := by decide +kernel
theorem dX8_drawn_156 : decode cX8_drawn 156 = .ok (.iinc 7 1, 3) := by decide +kernel
theorem dX8_drawn_159 : decode cX8_drawn 159 = .ok (.goto (-94), 3) := by decide +kernel
theorem dX8_drawn_162 : decode cX8_drawn 162 = .ok (.iload_n 3, 1) := by decide +kernel
theorem dX8_drawn_163 : decode cX8_drawn 163 = .ok (.ifCond .ne 13, 3) := by decide +kernel
theorem dX8_drawn_166 : decode cX8_drawn 166 = .ok (.aload_n 0, 1) := by decide +kernel
theorem dX8_drawn_167 : decode cX8_drawn 167 = .ok (.getfield 31, 3) := by decide +kernel
theorem dX8_drawn_170 : decode cX8_drawn 170 = .ok (.invokestatic 188, 3) := by decide +kernel
theorem dX8_drawn_173 : decode cX8_drawn 173 = .ok (.goto 5, 3) := by decide +kernel
theorem dX8_drawn_176 : decode cX8_drawn 176 = .ok (.iload 6, 2) := by decide +kernel
theorem dX8_drawn_178 : decode cX8_drawn 178 = .ok (.ireturn, 1) := by decide +kernel
def rmX8_drawn : Room := { frames := 5, cells := 0, slots := 0, locals := 108 }
def jnX8_drawn_142 (o0 : Nat) (x13 : Int32) (y20 : Int64) (B65 : Int64 → Int32 → Int32 → zM → Prop) (x28 : Int32) (M29 : zM) : Prop :=
    ((¬ (x13 - x13 / (5 : Int32) * (5 : Int32)) = 0) → (
    ∀ x30 : Int32, x30 = x13 + (1 : Int32) →
    B65 y20 x28 x30 M29)) ∧
    (((x13 - x13 / (5 : Int32) * (5 : Int32)) = 0) → (
    wX8_works M29 (o0 + 8) 50 (fun M31 =>
    ∀ x32 : Int32, x32 = x13 + (1 : Int32) →
    B65 y20 x28 x32 M31)))
def lpX8_drawn_65 (o0 : Nat) (x1 : Int32) (K65_162 : Int64 → Int32 → Int32 → zM → Prop) : Nat → Int64 → Int32 → Int32 → zM → Prop
  | 0, _, _, _, _ => False
  | fu65 + 1, y11, x12, x13, M14 =>
    ((x1 < x13) → (
    K65_162 y11 x12 x13 M14)) ∧
    ((¬ x1 < x13) → (
    ∀ y20 : Int64, y20 = ((y11 * (16807 : Int64)) - (y11 * (16807 : Int64)) / (2147483647 : Int64) * (2147483647 : Int64)) →
    ∀ y21 : Int64, y21 = (M14 (o0 + 6) (0 : Int32).toNatClampNeg).toInt64 →
    ¬ y21 = 0 ∧
    ∀ x22 : Int32, x22 = (y20 - y20 / (7 : Int64) * (7 : Int64)).toInt32 →
    wX8_size M14 (x22 - (3 : Int32)) (fun r23 =>
    wX8_reach M14 (o0 + 8) 50 (y20 - y20 / y21 * y21).toInt32 (fun r24 =>
    ((r24 < r23) → (
    jnX8_drawn_142 o0 x13 y20 (lpX8_drawn_65 o0 x1 K65_162 fu65) x12 M14)) ∧
    ((¬ r24 < r23) → (
    ∀ x33 : Int32, x33 = ((4 : Int32) * (y20 - y20 / y21 * y21).toInt32) →
    vp_in (((2 : Int32) + x33) + (3 : Int32)) 50 ∧
    ∀ M34 : zM, M34 = va_up M14 (o0 + 8) (upd (M14 (o0 + 8)) (((2 : Int32) + x33) + (3 : Int32)).toNatClampNeg (x22 - (3 : Int32))) →
    ∀ x35 : Int32, x35 = x12 + (1 : Int32) →
    jnX8_drawn_142 o0 x13 y20 (lpX8_drawn_65 o0 x1 K65_162 fu65) x35 M34))))))
def wX8_drawn (M : zM) (o0 : Nat) (x1 : Int32) (x2 : Int32) (x3 : Int32) (Q : Int32 → zM → Prop) : Prop :=
    wX8_isRail M o0 (fun r6 =>
    ((¬ r6 = 0) → (
    wX8_in M x1 (0 : Int32) (60 : Int32) (fun r7 =>
    ((r7 = 0) → (
    Q (-1000001 : Int32) M)) ∧
    ((¬ r7 = 0) → (
    wX8_in M x2 (1 : Int32) (999999 : Int32) (fun r8 =>
    ((r8 = 0) → (
    Q (-1000001 : Int32) M)) ∧
    ((¬ r8 = 0) → (
    wX8_in M x3 (0 : Int32) (1 : Int32) (fun r9 =>
    ((¬ r9 = 0) → (
    wX8_copies M (o0 + 6) 50 (0 : Int32) (o0 + 8) 50 (0 : Int32) (fun M10 =>
    ∃ fu65 : Nat, lpX8_drawn_65 o0 x1 (fun y15 x16 x17 M18 =>
    ((¬ x3 = 0) → (
    Q x16 M18)) ∧
    ((x3 = 0) → (
    wX8_worst M18 (o0 + 8) 50 (fun r19 =>
    Q r19 M18)))) fu65 x2.toInt64 (0 : Int32) (1 : Int32) M10))) ∧
    ((r9 = 0) → (
    Q (-1000001 : Int32) M))))))))))) ∧
    ((r6 = 0) → (
    Q (-1000002 : Int32) M)))
set_option maxHeartbeats 4000000 in
set_option maxRecDepth 100000 in
theorem kX8_drawn {l : Launch} {D : va_G} {Y : zY} {ad kd : Nat → Nat} {RL : List Nat} {M : zM} {J : zL} {o0 : Nat} {x1 : Int32} {x2 : Int32} {x3 : Int32} (h_o0 : kd o0 = 8) {Q : Int32 → zM → Prop} (hq : wX8_drawn M o0 x1 x2 x3 Q) : zCi l yX8_drawn wsX8_drawn rmX8_drawn [.ref (ad o0), .int x1, .int x2, .int x3] D Y ad kd RL M J (fun r M' J' => Q r M' ∧ J = J') := by
  refine z_meti (cc := cX8_drawn) (maxL := 10) (ret := (some .int)) (by decide) rfl (Nat.le_of_ble_eq_true rfl) ?_
  intro p e s m below meth c ls A ar QE hQE hx hb hr hml hown hts hlk hw hl
  have hown : s.vm.findClass RX8 = some m.cls := hown
  have hl : lv_has ls 10 [(0, .ref (ad o0)), (1, .int x1), (2, .int x2), (3, .int x3)] := hl
  have hC := hw.2.2.2.2.2.1
  have g8 : ∀ w ∈ wsX80, w.before ar s = true := (fun w h => hts w (List.mem_cons_of_mem _ (List.mem_append_right _ h)))
  have q1 := hts _ (List.mem_of_getElem? (i := 1) rfl)
  have q2 := hts _ (List.mem_of_getElem? (i := 2) rfl)
  have q3 := hts _ (List.mem_of_getElem? (i := 3) rfl)
  have q4 := hts _ (List.mem_of_getElem? (i := 4) rfl)
  have q5 := hts _ (List.mem_of_getElem? (i := 5) rfl)
  have q6 := hts _ (List.mem_of_getElem? (i := 6) rfl)
  have q7 := hts _ (List.mem_of_getElem? (i := 7) rfl)
  have q8 := hts _ (List.mem_of_getElem? (i := 8) rfl)
  unfold wX8_drawn at hq
  refine lv_aload_n hx hb dX8_drawn_0 rfl (lv_at hl 0 rfl) ?_
  refine z_cvi ⟨hx, hb, hml, hown, hts⟩ hw h_o0 (kX8_isRail h_o0 hq) (by decide) rfl (cwV 0 hts gX8_drawn_X8_isRail rfl rfl rfl (by decide +kernel) ⟨Nat.le_of_ble_eq_true rfl, Nat.le_of_ble_eq_true rfl⟩) rfl hl.1 rfl (Nat.le_of_ble_eq_true rfl) dX8_drawn_1 ⟨Nat.zero_le _, Nat.zero_le _⟩ (fun r6 M0 J0 H locs hq hw => ?_)
  obtain ⟨hq, rfl, rfl⟩ := hq
  refine lv_if_ne (tgt := 10) hx hb dX8_drawn_4 (by decide) (fun hc => ?_) (fun hc => ?_)
  · have hq := hq.1 hc
    refine lv_iload_n hx hb dX8_drawn_10 rfl (lv_at hl 1 rfl) ?_
    refine lv_iconst (v := (0 : Int32)) hx hb dX8_drawn_11 (by decide) ?_
    refine lv_bipush (v := (60 : Int32)) hx hb dX8_drawn_12 (by decide) ?_
    refine z_csi ⟨hx, hb, hml, hown, hts⟩ hw (kX8_in  hq) (va_cwS 3 hts gX8_drawn_X8_in rfl rfl rfl (by decide +kernel) ⟨Nat.le_of_ble_eq_true rfl, Nat.le_of_ble_eq_true rfl⟩) rfl hl.1 rfl (Nat.le_of_ble_eq_true rfl) dX8_drawn_14 ⟨Nat.zero_le _, Nat.zero_le _⟩ (fun r7 M0 J0 H locs hq hw => ?_)
    obtain ⟨hq, rfl, rfl⟩ := hq
    refine lv_if_eq (tgt := 39) hx hb dX8_drawn_17 (by decide) (fun hc => ?_) (fun hc => ?_)
    · have hq := hq.1 hc
      refine lv_ldc (v := (-1000001 : Int32)) hx hb hown q3 dX8_drawn_39 ?_
      exact z_iret hQE hx hb hr hlk hw dX8_drawn_41 ⟨hq, rfl⟩
    · have hq := hq.2 hc
      refine lv_iload_n hx hb dX8_drawn_20 rfl (lv_at hl 2 rfl) ?_
      refine lv_iconst (v := (1 : Int32)) hx hb dX8_drawn_21 (by decide) ?_
      refine lv_ldc (v := (999999 : Int32)) hx hb hown q2 dX8_drawn_22 ?_
      refine z_csi ⟨hx, hb, hml, hown, hts⟩ hw (kX8_in  hq) (va_cwS 3 hts gX8_drawn_X8_in rfl rfl rfl (by decide +kernel) ⟨Nat.le_of_ble_eq_true rfl, Nat.le_of_ble_eq_true rfl⟩) rfl hl.1 rfl (Nat.le_of_ble_eq_true rfl) dX8_drawn_24 ⟨Nat.zero_le _, Nat.zero_le _⟩ (fun r8 M0 J0 H locs hq hw => ?_)
      obtain ⟨hq, rfl, rfl⟩ := hq
      refine lv_if_eq (tgt := 39) hx hb dX8_drawn_27 (by decide) (fun hc => ?_) (fun hc => ?_)
      · have hq := hq.1 hc
        refine lv_ldc (v := (-1000001 : Int32)) hx hb hown q3 dX8_drawn_39 ?_
        exact z_iret hQE hx hb hr hlk hw dX8_drawn_41 ⟨hq, rfl⟩
      · have hq := hq.2 hc
        refine lv_iload_n hx hb dX8_drawn_30 rfl (lv_at hl 3 rfl) ?_
        refine lv_iconst (v := (0 : Int32)) hx hb dX8_drawn_31 (by decide) ?_
        refine lv_iconst (v := (1 : Int32)) hx hb dX8_drawn_32 (by decide) ?_
        refine z_csi ⟨hx, hb, hml, hown, hts⟩ hw (kX8_in  hq) (va_cwS 3 hts gX8_drawn_X8_in rfl rfl rfl (by decide +kernel) ⟨Nat.le_of_ble_eq_true rfl, Nat.le_of_ble_eq_true rfl⟩) rfl hl.1 rfl (Nat.le_of_ble_eq_true rfl) dX8_drawn_33 ⟨Nat.zero_le _, Nat.zero_le _⟩ (fun r9 M0 J0 H locs hq hw => ?_)
        obtain ⟨hq, rfl, rfl⟩ := hq
        refine lv_if_ne (tgt := 42) hx hb dX8_drawn_36 (by decide) (fun hc => ?_) (fun hc => ?_)
        · have hq := hq.1 hc
          refine lv_aload_n hx hb dX8_drawn_42 rfl (lv_at hl 0 rfl) ?_
          refine zg8_now hx hb g8 hown hw h_o0 q4 dX8_drawn_43 ?_
          refine lv_iconst (v := (0 : Int32)) hx hb dX8_drawn_46 (by decide) ?_
          refine lv_aload_n hx hb dX8_drawn_47 rfl (lv_at hl 0 rfl) ?_
          refine zg8_tried hx hb g8 hown hw h_o0 q5 dX8_drawn_48 ?_
          refine lv_iconst (v := (0 : Int32)) hx hb dX8_drawn_51 (by decide) ?_
          refine z_csv ⟨hx, hb, hml, hown, hts⟩ hw (kX8_copies (zk_8_6 hC h_o0) (zk_8_8 hC h_o0) hq) (va_cwS 4 hts gX8_drawn_X8_copies rfl rfl rfl (by decide +kernel) ⟨Nat.le_of_ble_eq_true rfl, Nat.le_of_ble_eq_true rfl⟩) rfl hl.1 rfl (Nat.le_of_ble_eq_true rfl) dX8_drawn_52 ⟨Nat.zero_le _, Nat.zero_le _⟩ (fun M10 J0 H locs hq hw => ?_)
          obtain ⟨hq, rfl⟩ := hq
          refine lv_iload_n hx hb dX8_drawn_55 rfl (lv_at hl 2 rfl) ?_
          refine lv_i2l hx hb dX8_drawn_56 rfl ?_
          refine lv_lstore (lv' := [(4, .long x2.toInt64), (0, .ref (ad o0)), (1, .int x1), (2, .int x2), (3, .int x3)]) hx hb dX8_drawn_57 hl (by decide) rfl (fun ls hl => ?_)
          refine lv_iconst (v := (0 : Int32)) hx hb dX8_drawn_59 (by decide) ?_
          refine lv_istore (lv' := [(6, .int (0 : Int32)), (4, .long x2.toInt64), (0, .ref (ad o0)), (1, .int x1), (2, .int x2), (3, .int x3)]) hx hb dX8_drawn_60 hl (by decide) rfl (fun ls hl => ?_)
          refine lv_iconst (v := (1 : Int32)) hx hb dX8_drawn_62 (by decide) ?_
          refine lv_istore (lv' := [(7, .int (1 : Int32)), (6, .int (0 : Int32)), (4, .long x2.toInt64), (0, .ref (ad o0)), (1, .int x1), (2, .int x2), (3, .int x3)]) hx hb dX8_drawn_63 hl (by decide) rfl (fun ls hl => ?_)
          have ex65_162 : ∀ (y15 : Int64) (x16 : Int32) (x17 : Int32) (M18 : zM) (H : Heap) (locs : List Loc) (ls : Array Slot), (((¬ x3 = 0) → ( Q x16 M18)) ∧ ((x3 = 0) → ( wX8_worst M18 (o0 + 8) 50 (fun r19 => Q r19 M18)))) → zH D Y ad kd RL M18 J A s.heap H locs s → lv_has ls 10 [(0, .ref (ad o0)), (3, .int x3), (6, .int x16)] → W p l e rmX8_drawn s m ar below meth c H locs 0 0 QE (F0 m 162 ls []) := by
            intro y15 x16 x17 M18 H locs ls hq hw hl
            refine lv_iload_n hx hb dX8_drawn_162 rfl (lv_at hl 1 rfl) ?_
            refine lv_if_ne (tgt := 176) hx hb dX8_drawn_163 (by decide) (fun hc => ?_) (fun hc => ?_)
            · have hq := hq.1 hc
              refine lv_iload hx hb dX8_drawn_176 (lv_at hl 2 rfl) ?_
              exact z_iret hQE hx hb hr hlk hw dX8_drawn_178 ⟨hq, rfl⟩
            · have hq := hq.2 hc
              refine lv_aload_n hx hb dX8_drawn_166 rfl (lv_at hl 0 rfl) ?_
              refine zg8_tried hx hb g8 hown hw h_o0 q5 dX8_drawn_167 ?_
              refine z_csi ⟨hx, hb, hml, hown, hts⟩ hw (kX8_worst (zk_8_8 hC h_o0) hq) (va_cwS 1 hts gX8_drawn_X8_worst rfl rfl rfl (by decide +kernel) ⟨Nat.le_of_ble_eq_true rfl, Nat.le_of_ble_eq_true rfl⟩) rfl hl.1 rfl (Nat.le_of_ble_eq_true rfl) dX8_drawn_170 ⟨Nat.zero_le _, Nat.zero_le _⟩ (fun r19 M0 J0 H locs hq hw => ?_)
              obtain ⟨hq, rfl, rfl⟩ := hq
              refine lv_goto (tgt := 178) hx hb dX8_drawn_173 (by decide) ?_
              exact z_iret hQE hx hb hr hlk hw dX8_drawn_178 ⟨hq, rfl⟩
          obtain ⟨fu65, hq⟩ := hq
          have lp65 : ∀ (fu65 : Nat) (y11 : Int64) (x12 : Int32) (x13 : Int32) (M14 : zM) (H : Heap) (locs : List Loc) (ls : Array Slot), lpX8_drawn_65 o0 x1 (fun y15 x16 x17 M18 => ((¬ x3 = 0) → ( Q x16 M18)) ∧ ((x3 = 0) → ( wX8_worst M18 (o0 + 8) 50 (fun r19 => Q r19 M18)))) fu65 y11 x12 x13 M14 → zH D Y ad kd RL M14 J A s.heap H locs s → lv_has ls 10 [(0, .ref (ad o0)), (1, .int x1), (3, .int x3), (4, .long y11), (6, .int x12), (7, .int x13)] → W p l e rmX8_drawn s m ar below meth c H locs 0 0 QE (F0 m 65 ls []) := by
            intro fu65
            induction fu65 with
            | zero => intro y11 x12 x13 M14 H locs ls hq; exact hq.elim
            | succ fu65 ih65 =>
              intro y11 x12 x13 M14 H locs ls hq hw hl
              unfold lpX8_drawn_65 at hq
              refine lv_iload hx hb dX8_drawn_65 (lv_at hl 5 rfl) ?_
              refine lv_iload_n hx hb dX8_drawn_67 rfl (lv_at hl 1 rfl) ?_
              refine lv_icmp_gt (tgt := 162) hx hb dX8_drawn_68 (by decide) (fun hc => ?_) (fun hc => ?_)
              · have hq := hq.1 hc
                exact ex65_162 y11 x12 x13 M14 _ _ _ hq hw (lv_sub hl [0, 2, 4] rfl)
              · have hq := hq.2 hc
                refine lv_lload hx hb dX8_drawn_71 (lv_at hl 3 rfl) ?_
                refine lv_ldc2 (v := (16807 : Int64)) hx hb hown q6 dX8_drawn_73 ?_
                refine lv_lmul hx hb dX8_drawn_76 ?_
                refine lv_ldc2 (v := (2147483647 : Int64)) hx hb hown q7 dX8_drawn_77 ?_
                refine lv_lrem hx hb dX8_drawn_80 (by decide) ?_
                refine lv_topl (fun y20 e_y20 => ?_)
                have hq := hq y20 e_y20
                refine lv_lstore (lv' := [(4, .long y20), (0, .ref (ad o0)), (1, .int x1), (3, .int x3), (6, .int x12), (7, .int x13)]) hx hb dX8_drawn_81 hl (by decide) rfl (fun ls hl => ?_)
                refine lv_lload hx hb dX8_drawn_83 (lv_at hl 0 rfl) ?_
                refine lv_aload_n hx hb dX8_drawn_85 rfl (lv_at hl 1 rfl) ?_
                refine zg8_now hx hb g8 hown hw h_o0 q4 dX8_drawn_86 ?_
                refine lv_iconst (v := (0 : Int32)) hx hb dX8_drawn_89 (by decide) ?_
                have hi : vp_in (0 : Int32) 50 := by unfold vp_in; decide
                refine z_iald (n := 50) hx hb hw (zk_8_6 hC h_o0) hi dX8_drawn_90 ?_
                refine lv_i2l hx hb dX8_drawn_91 rfl ?_
                refine lv_topl (fun y21 e_y21 => ?_)
                have hq := hq y21 e_y21
                obtain ⟨hz, hq⟩ := hq
                refine lv_lrem hx hb dX8_drawn_92 hz ?_
                refine lv_l2i hx hb dX8_drawn_93 rfl ?_
                refine lv_istore (lv' := [(8, .int (y20 - y20 / y21 * y21).toInt32), (4, .long y20), (0, .ref (ad o0)), (1, .int x1), (3, .int x3), (6, .int x12), (7, .int x13)]) hx hb dX8_drawn_94 hl (by decide) rfl (fun ls hl => ?_)
                refine lv_lload hx hb dX8_drawn_96 (lv_at hl 1 rfl) ?_
                refine lv_ldc2 (v := (7 : Int64)) hx hb hown q8 dX8_drawn_98 ?_
                refine lv_lrem hx hb dX8_drawn_101 (by decide) ?_
                refine lv_l2i hx hb dX8_drawn_102 rfl ?_
                refine lv_topi (fun x22 e_x22 => ?_)
                have hq := hq x22 e_x22
                refine lv_iconst (v := (3 : Int32)) hx hb dX8_drawn_103 (by decide) ?_
                refine lv_isub hx hb dX8_drawn_104 ?_
                refine lv_istore (lv' := [(9, .int (x22 - (3 : Int32))), (8, .int (y20 - y20 / y21 * y21).toInt32), (4, .long y20), (0, .ref (ad o0)), (1, .int x1), (3, .int x3), (6, .int x12), (7, .int x13)]) hx hb dX8_drawn_105 hl (by decide) rfl (fun ls hl => ?_)
                refine lv_iload hx hb dX8_drawn_107 (lv_at hl 0 rfl) ?_
                refine z_csi ⟨hx, hb, hml, hown, hts⟩ hw (kX8_size  hq) (va_cwS 1 hts gX8_drawn_X8_size rfl rfl rfl (by decide +kernel) ⟨Nat.le_of_ble_eq_true rfl, Nat.le_of_ble_eq_true rfl⟩) rfl hl.1 rfl (Nat.le_of_ble_eq_true rfl) dX8_drawn_109 ⟨Nat.zero_le _, Nat.zero_le _⟩ (fun r23 M0 J0 H locs hq hw => ?_)
                obtain ⟨hq, rfl, rfl⟩ := hq
                refine lv_aload_n hx hb dX8_drawn_112 rfl (lv_at hl 3 rfl) ?_
                refine zg8_tried hx hb g8 hown hw h_o0 q5 dX8_drawn_113 ?_
                refine lv_iload hx hb dX8_drawn_116 (lv_at hl 1 rfl) ?_
                refine z_csi ⟨hx, hb, hml, hown, hts⟩ hw (kX8_reach (zk_8_8 hC h_o0) hq) (va_cwS 2 hts gX8_drawn_X8_reach rfl rfl rfl (by decide +kernel) ⟨Nat.le_of_ble_eq_true rfl, Nat.le_of_ble_eq_true rfl⟩) rfl hl.1 rfl (Nat.le_of_ble_eq_true rfl) dX8_drawn_118 ⟨Nat.zero_le _, Nat.zero_le _⟩ (fun r24 M0 J0 H locs hq hw => ?_)
                obtain ⟨hq, rfl, rfl⟩ := hq
                have jn142 : ∀ (x28 : Int32) (M29 : zM) (H : Heap) (locs : List Loc) (ls : Array Slot), jnX8_drawn_142 o0 x13 y20 (lpX8_drawn_65 o0 x1 (fun y15 x16 x17 M18 => ((¬ x3 = 0) → ( Q x16 M18)) ∧ ((x3 = 0) → ( wX8_worst M18 (o0 + 8) 50 (fun r19 => Q r19 M18)))) fu65) x28 M29 → zH D Y ad kd RL M29 J A s.heap H locs s → lv_has ls 10 [(0, .ref (ad o0)), (1, .int x1), (3, .int x3), (4, .long y20), (6, .int x28), (7, .int x13)] → W p l e rmX8_drawn s m ar below meth c H locs 0 0 QE (F0 m 142 ls []) := by
                  intro x28 M29 H locs ls hq hw hl
                  unfold jnX8_drawn_142 at hq
                  refine lv_iload hx hb dX8_drawn_142 (lv_at hl 5 rfl) ?_
                  refine lv_iconst (v := (5 : Int32)) hx hb dX8_drawn_144 (by decide) ?_
                  refine lv_irem hx hb dX8_drawn_145 (by decide) ?_
                  refine lv_if_ne (tgt := 156) hx hb dX8_drawn_146 (by decide) (fun hc => ?_) (fun hc => ?_)
                  · have hq := hq.1 hc
                    obtain ⟨x30, e_x30⟩ : ∃ y : Int32, y = x13 + (1 : Int32) := ⟨_, rfl⟩
                    have hq := hq x30 e_x30
                    refine lv_iinc (v := x30) (lv' := [(7, .int x30), (0, .ref (ad o0)), (1, .int x1), (3, .int x3), (4, .long y20), (6, .int x28)]) hx hb dX8_drawn_156 hl (k := 5) rfl (by rw [e_x30]; rfl) (by decide) rfl (fun ls hl => ?_)
                    refine lv_goto (tgt := 65) hx hb dX8_drawn_159 (by decide) ?_
                    exact ih65 y20 x28 x30 M29 _ _ _ hq hw (lv_sub hl [1, 2, 3, 4, 5, 0] rfl)
                  · have hq := hq.2 hc
                    refine lv_aload_n hx hb dX8_drawn_149 rfl (lv_at hl 0 rfl) ?_
                    refine zg8_tried hx hb g8 hown hw h_o0 q5 dX8_drawn_150 ?_
                    refine z_csv ⟨hx, hb, hml, hown, hts⟩ hw (kX8_works (zk_8_8 hC h_o0) hq) (va_cwS 1 hts gX8_drawn_X8_works rfl rfl rfl (by decide +kernel) ⟨Nat.le_of_ble_eq_true rfl, Nat.le_of_ble_eq_true rfl⟩) rfl hl.1 rfl (Nat.le_of_ble_eq_true rfl) dX8_drawn_153 ⟨Nat.zero_le _, Nat.zero_le _⟩ (fun M31 J0 H locs hq hw => ?_)
                    obtain ⟨hq, rfl⟩ := hq
                    obtain ⟨x32, e_x32⟩ : ∃ y : Int32, y = x13 + (1 : Int32) := ⟨_, rfl⟩
                    have hq := hq x32 e_x32
                    refine lv_iinc (v := x32) (lv' := [(7, .int x32), (0, .ref (ad o0)), (1, .int x1), (3, .int x3), (4, .long y20), (6, .int x28)]) hx hb dX8_drawn_156 hl (k := 5) rfl (by rw [e_x32]; rfl) (by decide) rfl (fun ls hl => ?_)
                    refine lv_goto (tgt := 65) hx hb dX8_drawn_159 (by decide) ?_
                    exact ih65 y20 x28 x32 M31 _ _ _ hq hw (lv_sub hl [1, 2, 3, 4, 5, 0] rfl)
                refine lv_icmp_gt (tgt := 142) hx hb dX8_drawn_121 (by decide) (fun hc => ?_) (fun hc => ?_)
                · have hq := hq.1 hc
                  exact jn142 x12 M14 _ _ _ hq hw (lv_sub hl [3, 4, 5, 2, 6, 7] rfl)
                · have hq := hq.2 hc
                  refine lv_aload_n hx hb dX8_drawn_124 rfl (lv_at hl 3 rfl) ?_
                  refine zg8_tried hx hb g8 hown hw h_o0 q5 dX8_drawn_125 ?_
                  refine lv_iconst (v := (2 : Int32)) hx hb dX8_drawn_128 (by decide) ?_
                  refine lv_iconst (v := (4 : Int32)) hx hb dX8_drawn_129 (by decide) ?_
                  refine lv_iload hx hb dX8_drawn_130 (lv_at hl 1 rfl) ?_
                  refine lv_imul hx hb dX8_drawn_132 ?_
                  refine lv_topi (fun x33 e_x33 => ?_)
                  have hq := hq x33 e_x33
                  refine lv_iadd hx hb dX8_drawn_133 ?_
                  refine lv_iconst (v := (3 : Int32)) hx hb dX8_drawn_134 (by decide) ?_
                  refine lv_iadd hx hb dX8_drawn_135 ?_
                  refine lv_iload hx hb dX8_drawn_136 (lv_at hl 0 rfl) ?_
                  obtain ⟨hi, hq⟩ := hq
                  refine z_iast (n := 50) hx hb hw (zk_8_8 hC h_o0) hi dX8_drawn_138 (fun H locs hw => ?_)
                  obtain ⟨M34, e_M34⟩ : ∃ y : zM, y = va_up M14 (o0 + 8) (upd (M14 (o0 + 8)) (((2 : Int32) + x33) + (3 : Int32)).toNatClampNeg (x22 - (3 : Int32))) := ⟨_, rfl⟩
                  rw [← e_M34] at hw
                  have hq := hq M34 e_M34
                  obtain ⟨x35, e_x35⟩ : ∃ y : Int32, y = x12 + (1 : Int32) := ⟨_, rfl⟩
                  have hq := hq x35 e_x35
                  refine lv_iinc (v := x35) (lv' := [(6, .int x35), (9, .int (x22 - (3 : Int32))), (8, .int (y20 - y20 / y21 * y21).toInt32), (4, .long y20), (0, .ref (ad o0)), (1, .int x1), (3, .int x3), (7, .int x13)]) hx hb dX8_drawn_139 hl (k := 6) rfl (by rw [e_x35]; rfl) (by decide) rfl (fun ls hl => ?_)
                  exact jn142 x35 M34 _ _ _ hq hw (lv_sub hl [4, 5, 6, 3, 0, 7] rfl)
          exact lp65 fu65 x2.toInt64 (0 : Int32) (1 : Int32) M10 _ _ _ hq hw (lv_sub hl [3, 4, 6, 2, 1, 0] rfl)
        · have hq := hq.2 hc
          refine lv_ldc (v := (-1000001 : Int32)) hx hb hown q3 dX8_drawn_39 ?_
          exact z_iret hQE hx hb hr hlk hw dX8_drawn_41 ⟨hq, rfl⟩
  · have hq := hq.2 hc
    refine lv_ldc (v := (-1000002 : Int32)) hx hb hown q1 dX8_drawn_7 ?_
    exact z_iret hQE hx hb hr hlk hw dX8_drawn_9 ⟨hq, rfl⟩
set_option maxRecDepth 20000 in
theorem ggX8_image_X8_in : GoodIn wsX8_image wsX8_in := goodIn_r _ [9] (by decide +kernel) (by decide +kernel)
set_option maxRecDepth 20000 in
theorem gX8_image_X8_in : GoodIn wsX8_image (va_wsS RX8 59 yX8_in wsX8_in) := goodIn_app (goodIn_of _ (by decide +kernel)) ggX8_image_X8_in
set_option maxRecDepth 20000 in
theorem ggX8_image_X8_isRail : GoodIn wsX8_image wsX8_isRail := goodIn_r _ [13, 3, 17, 18, 19, 20, 21, 22, 23, 24, 25, 26, 27, 28, 29, 30, 31, 32, 33, 34, 35, 36, 37, 38, 39, 40, 41, 42] (by decide +kernel) (by decide +kernel)
set_option maxRecDepth 20000 in
theorem gX8_image_X8_isRail : GoodIn wsX8_image (wsV RX8 173 RX8 yX8_isRail wsX8_isRail) := goodIn_app (goodIn_of _ (by decide +kernel)) ggX8_image_X8_isRail
set_option maxRecDepth 20000 in
theorem ggX8_image_X8_copies : GoodIn wsX8_image wsX8_copies := goodIn_r _ [16] (by decide +kernel) (by decide +kernel)
set_option maxRecDepth 20000 in
theorem gX8_image_X8_copies : GoodIn wsX8_image (va_wsS RX8 135 yX8_copies wsX8_copies) := goodIn_app (goodIn_of _ (by decide +kernel)) ggX8_image_X8_copies
theorem dX8_image_0 : decode cX8_image 0 = .ok (.iload_n 1, 1) := by decide +kernel
theorem dX8_image_1 : decode cX8_image 1 = .ok (.iconst 0, 1) := by decide +kernel
theorem dX8_image_2 : decode cX8_image 2 = .ok (.iconst 1, 1) := by decide +kernel
theorem dX8_image_3 : decode cX8_image 3 = .ok (.invokestatic 59, 3) := by decide +kernel
theorem dX8_image_6 : decode cX8_image 6 = .ok (.ifCond .ne 6, 3) := by decide +kernel
theorem dX8_image_9 : decode cX8_image 9 = .ok (.ldc 67, 2) := by decide +kernel
theorem dX8_image_11 : decode cX8_image 11 = .ok (.ireturn, 1) := by decide +kernel
theorem dX8_image_12 : decode cX8_image 12 = .ok (.aload_n 0, 1) := by decide +kernel
theorem dX8_image_13 : decode cX8_image 13 = .ok (.invokevirtual 173, 3) := by decide +kernel
theorem dX8_image_16 : decode cX8_image 16 = .ok (.ifCond .ne 6, 3) := by decide +kernel
theorem dX8_image_19 : decode cX8_image 19 = .ok (.ldc 169, 2) := by decide +kernel
theorem dX8_image_21 : decode cX8_image 21 = .ok (.ireturn, 1) := by decide +kernel
theorem dX8_image_22 : decode cX8_image 22 = .ok (.aload_n 0, 1) := by decide +kernel
theorem dX8_image_23 : decode cX8_image 23 = .ok (.getfield 25, 3) := by decide +kernel
theorem dX8_image_26 : decode cX8_image 26 = .ok (.iconst 0, 1) := by decide +kernel
theorem dX8_image_27 : decode cX8_image 27 = .ok (.aload_n 0, 1) := by decide +kernel
theorem dX8_image_28 : decode cX8_image 28 = .ok (.getfield 37, 3) := by decide +kernel
theorem dX8_image_31 : decode cX8_image 31 = .ok (.bipush 50, 2) := by decide +kernel
theorem dX8_image_33 : decode cX8_image 33 = .ok (.iload_n 1, 1) := by decide +kernel
theorem dX8_image_34 : decode cX8_image 34 = .ok (.imul, 1) := by decide +kernel
theorem dX8_image_35 : decode cX8_image 35 = .ok (.invokestatic 135, 3) := by decide +kernel
theorem dX8_image_38 : decode cX8_image 38 = .ok (.aload_n 0, 1) := by decide +kernel
theorem dX8_image_39 : decode cX8_image 39 = .ok (.getfield 40, 3) := by decide +kernel
theorem dX8_image_42 : decode cX8_image 42 = .ok (.iload_n 1, 1) := by decide +kernel
theorem dX8_image_43 : decode cX8_image 43 = .ok (.iconst 1, 1) := by decide +kernel
theorem dX8_image_44 : decode cX8_image 44 = .ok (.bastore, 1) := by decide +kernel
theorem dX8_image_45 : decode cX8_image 45 = .ok (.iconst 1, 1) := by decide +kernel
theorem dX8_image_46 : decode cX8_image 46 = .ok (.ireturn, 1) := by decide +kernel
def rmX8_image : Room := { frames := 1, cells := 0, slots := 0, locals := 24 }
def wX8_image (M : zM) (o0 : Nat) (x1 : Int32) (Q : Int32 → zM → Prop) : Prop :=
    wX8_in M x1 (0 : Int32) (1 : Int32) (fun r4 =>
    ((¬ r4 = 0) → (
    wX8_isRail M o0 (fun r5 =>
    ((¬ r5 = 0) → (
    wX8_copies M (o0 + 6) 50 (0 : Int32) (o0 + 10) 100 ((50 : Int32) * x1) (fun M6 =>
    vp_in x1 2 ∧
    ∀ M7 : zM, M7 = va_up M6 (o0 + 11) (upd (M6 (o0 + 11)) x1.toNatClampNeg (vp_nar .boolean (1 : Int32))) →
    Q (1 : Int32) M7))) ∧
    ((r5 = 0) → (
    Q (-1000002 : Int32) M))))) ∧
    ((r4 = 0) → (
    Q (-1000001 : Int32) M)))
set_option maxHeartbeats 4000000 in
set_option maxRecDepth 100000 in
theorem kX8_image {l : Launch} {D : va_G} {Y : zY} {ad kd : Nat → Nat} {RL : List Nat} {M : zM} {J : zL} {o0 : Nat} {x1 : Int32} (h_o0 : kd o0 = 8) {Q : Int32 → zM → Prop} (hq : wX8_image M o0 x1 Q) : zCi l yX8_image wsX8_image rmX8_image [.ref (ad o0), .int x1] D Y ad kd RL M J (fun r M' J' => Q r M' ∧ J = J') := by
  refine z_meti (cc := cX8_image) (maxL := 2) (ret := (some .int)) (by decide) rfl (Nat.le_of_ble_eq_true rfl) ?_
  intro p e s m below meth c ls A ar QE hQE hx hb hr hml hown hts hlk hw hl
  have hown : s.vm.findClass RX8 = some m.cls := hown
  have hl : lv_has ls 2 [(0, .ref (ad o0)), (1, .int x1)] := hl
  have hC := hw.2.2.2.2.2.1
  have g8 : ∀ w ∈ wsX80, w.before ar s = true := (fun w h => hts w (List.mem_cons_of_mem _ (List.mem_append_right _ h)))
  have q1 := hts _ (List.mem_of_getElem? (i := 1) rfl)
  have q2 := hts _ (List.mem_of_getElem? (i := 2) rfl)
  have q3 := hts _ (List.mem_of_getElem? (i := 3) rfl)
  have q4 := hts _ (List.mem_of_getElem? (i := 4) rfl)
  have q5 := hts _ (List.mem_of_getElem? (i := 5) rfl)
  unfold wX8_image at hq
  refine lv_iload_n hx hb dX8_image_0 rfl (lv_at hl 1 rfl) ?_
  refine lv_iconst (v := (0 : Int32)) hx hb dX8_image_1 (by decide) ?_
  refine lv_iconst (v := (1 : Int32)) hx hb dX8_image_2 (by decide) ?_
  refine z_csi ⟨hx, hb, hml, hown, hts⟩ hw (kX8_in  hq) (va_cwS 3 hts gX8_image_X8_in rfl rfl rfl (by decide +kernel) ⟨Nat.le_of_ble_eq_true rfl, Nat.le_of_ble_eq_true rfl⟩) rfl hl.1 rfl (Nat.le_of_ble_eq_true rfl) dX8_image_3 ⟨Nat.zero_le _, Nat.zero_le _⟩ (fun r4 M0 J0 H locs hq hw => ?_)
  obtain ⟨hq, rfl, rfl⟩ := hq
  refine lv_if_ne (tgt := 12) hx hb dX8_image_6 (by decide) (fun hc => ?_) (fun hc => ?_)
  · have hq := hq.1 hc
    refine lv_aload_n hx hb dX8_image_12 rfl (lv_at hl 0 rfl) ?_
    refine z_cvi ⟨hx, hb, hml, hown, hts⟩ hw h_o0 (kX8_isRail h_o0 hq) (by decide) rfl (cwV 0 hts gX8_image_X8_isRail rfl rfl rfl (by decide +kernel) ⟨Nat.le_of_ble_eq_true rfl, Nat.le_of_ble_eq_true rfl⟩) rfl hl.1 rfl (Nat.le_of_ble_eq_true rfl) dX8_image_13 ⟨Nat.zero_le _, Nat.zero_le _⟩ (fun r5 M0 J0 H locs hq hw => ?_)
    obtain ⟨hq, rfl, rfl⟩ := hq
    refine lv_if_ne (tgt := 22) hx hb dX8_image_16 (by decide) (fun hc => ?_) (fun hc => ?_)
    · have hq := hq.1 hc
      refine lv_aload_n hx hb dX8_image_22 rfl (lv_at hl 0 rfl) ?_
      refine zg8_now hx hb g8 hown hw h_o0 q3 dX8_image_23 ?_
      refine lv_iconst (v := (0 : Int32)) hx hb dX8_image_26 (by decide) ?_
      refine lv_aload_n hx hb dX8_image_27 rfl (lv_at hl 0 rfl) ?_
      refine zg8_images hx hb g8 hown hw h_o0 q4 dX8_image_28 ?_
      refine lv_bipush (v := (50 : Int32)) hx hb dX8_image_31 (by decide) ?_
      refine lv_iload_n hx hb dX8_image_33 rfl (lv_at hl 1 rfl) ?_
      refine lv_imul hx hb dX8_image_34 ?_
      refine z_csv ⟨hx, hb, hml, hown, hts⟩ hw (kX8_copies (zk_8_6 hC h_o0) (zk_8_10 hC h_o0) hq) (va_cwS 4 hts gX8_image_X8_copies rfl rfl rfl (by decide +kernel) ⟨Nat.le_of_ble_eq_true rfl, Nat.le_of_ble_eq_true rfl⟩) rfl hl.1 rfl (Nat.le_of_ble_eq_true rfl) dX8_image_35 ⟨Nat.zero_le _, Nat.zero_le _⟩ (fun M6 J0 H locs hq hw => ?_)
      obtain ⟨hq, rfl⟩ := hq
      refine lv_aload_n hx hb dX8_image_38 rfl (lv_at hl 0 rfl) ?_
      refine zg8_kept hx hb g8 hown hw h_o0 q5 dX8_image_39 ?_
      refine lv_iload_n hx hb dX8_image_42 rfl (lv_at hl 1 rfl) ?_
      refine lv_iconst (v := (1 : Int32)) hx hb dX8_image_43 (by decide) ?_
      obtain ⟨hi, hq⟩ := hq
      refine z_zast hx hb hw (zk_8_11 hC h_o0) hi dX8_image_44 (fun H locs hw => ?_)
      obtain ⟨M7, e_M7⟩ : ∃ y : zM, y = va_up M6 (o0 + 11) (upd (M6 (o0 + 11)) x1.toNatClampNeg (vp_nar .boolean (1 : Int32))) := ⟨_, rfl⟩
      rw [← e_M7] at hw
      have hq := hq M7 e_M7
      refine lv_iconst (v := (1 : Int32)) hx hb dX8_image_45 (by decide) ?_
      exact z_iret hQE hx hb hr hlk hw dX8_image_46 ⟨hq, rfl⟩
    · have hq := hq.2 hc
      refine lv_ldc (v := (-1000002 : Int32)) hx hb hown q2 dX8_image_19 ?_
      exact z_iret hQE hx hb hr hlk hw dX8_image_21 ⟨hq, rfl⟩
  · have hq := hq.2 hc
    refine lv_ldc (v := (-1000001 : Int32)) hx hb hown q1 dX8_image_9 ?_
    exact z_iret hQE hx hb hr hlk hw dX8_image_11 ⟨hq, rfl⟩
set_option maxRecDepth 20000 in
theorem ggX8_restore_X8_in : GoodIn wsX8_restore wsX8_in := goodIn_r _ [10] (by decide +kernel) (by decide +kernel)
set_option maxRecDepth 20000 in
theorem gX8_restore_X8_in : GoodIn wsX8_restore (va_wsS RX8 59 yX8_in wsX8_in) := goodIn_app (goodIn_of _ (by decide +kernel)) ggX8_restore_X8_in
set_option maxRecDepth 20000 in
theorem ggX8_restore_X8_copies : GoodIn wsX8_restore wsX8_copies := goodIn_r _ [13] (by decide +kernel) (by decide +kernel)
set_option maxRecDepth 20000 in
theorem gX8_restore_X8_copies : GoodIn wsX8_restore (va_wsS RX8 135 yX8_copies wsX8_copies) := goodIn_app (goodIn_of _ (by decide +kernel)) ggX8_restore_X8_copies
theorem dX8_restore_0 : decode cX8_restore 0 = .ok (.iload_n 1, 1) := by decide +kernel
theorem dX8_restore_1 : decode cX8_restore 1 = .ok (.iconst 0, 1) := by decide +kernel
theorem dX8_restore_2 : decode cX8_restore 2 = .ok (.iconst 1, 1) := by decide +kernel
theorem dX8_restore_3 : decode cX8_restore 3 = .ok (.invokestatic 59, 3) := by decide +kernel
theorem dX8_restore_6 : decode cX8_restore 6 = .ok (.ifCond .ne 6, 3) := by decide +kernel
theorem dX8_restore_9 : decode cX8_restore 9 = .ok (.ldc 67, 2) := by decide +kernel
theorem dX8_restore_11 : decode cX8_restore 11 = .ok (.ireturn, 1) := by decide +kernel
theorem dX8_restore_12 : decode cX8_restore 12 = .ok (.aload_n 0, 1) := by decide +kernel
theorem dX8_restore_13 : decode cX8_restore 13 = .ok (.getfield 40, 3) := by decide +kernel
theorem dX8_restore_16 : decode cX8_restore 16 = .ok (.iload_n 1, 1) := by decide +kernel
theorem dX8_restore_17 : decode cX8_restore 17 = .ok (.baload, 1) := by decide +kernel
theorem dX8_restore_18 : decode cX8_restore 18 = .ok (.ifCond .ne 6, 3) := by decide +kernel
theorem dX8_restore_21 : decode cX8_restore 21 = .ok (.ldc 169, 2) := by decide +kernel
theorem dX8_restore_23 : decode cX8_restore 23 = .ok (.ireturn, 1) := by decide +kernel
theorem dX8_restore_24 : decode cX8_restore 24 = .ok (.aload_n 0, 1) := by decide +kernel
theorem dX8_restore_25 : decode cX8_restore 25 = .ok (.getfield 37, 3) := by decide +kernel
theorem dX8_restore_28 : decode cX8_restore 28 = .ok (.bipush 50, 2) := by decide +kernel
theorem dX8_restore_30 : decode cX8_restore 30 = .ok (.iload_n 1, 1) := by decide +kernel
theorem dX8_restore_31 : decode cX8_restore 31 = .ok (.imul, 1) := by decide +kernel
theorem dX8_restore_32 : decode cX8_restore 32 = .ok (.aload_n 0, 1) := by decide +kernel
theorem dX8_restore_33 : decode cX8_restore 33 = .ok (.getfield 25, 3) := by decide +kernel
theorem dX8_restore_36 : decode cX8_restore 36 = .ok (.iconst 0, 1) := by decide +kernel
theorem dX8_restore_37 : decode cX8_restore 37 = .ok (.invokestatic 135, 3) := by decide +kernel
theorem dX8_restore_40 : decode cX8_restore 40 = .ok (.aload_n 0, 1) := by decide +kernel
theorem dX8_restore_41 : decode cX8_restore 41 = .ok (.iconst 0, 1) := by decide +kernel
theorem dX8_restore_42 : decode cX8_restore 42 = .ok (.putfield 139, 3) := by decide +kernel
theorem dX8_restore_45 : decode cX8_restore 45 = .ok (.iconst 1, 1) := by decide +kernel
theorem dX8_restore_46 : decode cX8_restore 46 = .ok (.ireturn, 1) := by decide +kernel
def rmX8_restore : Room := { frames := 1, cells := 0, slots := 0, locals := 24 }
def wX8_restore (M : zM) (o0 : Nat) (x1 : Int32) (Q : Int32 → zM → Prop) : Prop :=
    wX8_in M x1 (0 : Int32) (1 : Int32) (fun r4 =>
    ((¬ r4 = 0) → (
    vp_in x1 2 ∧
    ((¬ (M (o0 + 11) x1.toNatClampNeg) = 0) → (
    wX8_copies M (o0 + 10) 100 ((50 : Int32) * x1) (o0 + 6) 50 (0 : Int32) (fun M5 =>
    ∀ M6 : zM, M6 = va_up M5 o0 (upd (M5 o0) 8 (0 : Int32)) →
    Q (1 : Int32) M6))) ∧
    (((M (o0 + 11) x1.toNatClampNeg) = 0) → (
    Q (-1000002 : Int32) M)))) ∧
    ((r4 = 0) → (
    Q (-1000001 : Int32) M)))
set_option maxHeartbeats 4000000 in
set_option maxRecDepth 100000 in
theorem kX8_restore {l : Launch} {D : va_G} {Y : zY} {ad kd : Nat → Nat} {RL : List Nat} {M : zM} {J : zL} {o0 : Nat} {x1 : Int32} (h_o0 : kd o0 = 8) {Q : Int32 → zM → Prop} (hq : wX8_restore M o0 x1 Q) : zCi l yX8_restore wsX8_restore rmX8_restore [.ref (ad o0), .int x1] D Y ad kd RL M J (fun r M' J' => Q r M' ∧ J = J') := by
  refine z_meti (cc := cX8_restore) (maxL := 2) (ret := (some .int)) (by decide) rfl (Nat.le_of_ble_eq_true rfl) ?_
  intro p e s m below meth c ls A ar QE hQE hx hb hr hml hown hts hlk hw hl
  have hown : s.vm.findClass RX8 = some m.cls := hown
  have hl : lv_has ls 2 [(0, .ref (ad o0)), (1, .int x1)] := hl
  have hC := hw.2.2.2.2.2.1
  have g8 : ∀ w ∈ wsX80, w.before ar s = true := (fun w h => hts w (List.mem_cons_of_mem _ (List.mem_append_right _ h)))
  have q1 := hts _ (List.mem_of_getElem? (i := 1) rfl)
  have q2 := hts _ (List.mem_of_getElem? (i := 2) rfl)
  have q3 := hts _ (List.mem_of_getElem? (i := 3) rfl)
  have q4 := hts _ (List.mem_of_getElem? (i := 4) rfl)
  have q5 := hts _ (List.mem_of_getElem? (i := 5) rfl)
  have q6 := hts _ (List.mem_of_getElem? (i := 6) rfl)
  unfold wX8_restore at hq
  refine lv_iload_n hx hb dX8_restore_0 rfl (lv_at hl 1 rfl) ?_
  refine lv_iconst (v := (0 : Int32)) hx hb dX8_restore_1 (by decide) ?_
  refine lv_iconst (v := (1 : Int32)) hx hb dX8_restore_2 (by decide) ?_
  refine z_csi ⟨hx, hb, hml, hown, hts⟩ hw (kX8_in  hq) (va_cwS 3 hts gX8_restore_X8_in rfl rfl rfl (by decide +kernel) ⟨Nat.le_of_ble_eq_true rfl, Nat.le_of_ble_eq_true rfl⟩) rfl hl.1 rfl (Nat.le_of_ble_eq_true rfl) dX8_restore_3 ⟨Nat.zero_le _, Nat.zero_le _⟩ (fun r4 M0 J0 H locs hq hw => ?_)
  obtain ⟨hq, rfl, rfl⟩ := hq
  refine lv_if_ne (tgt := 12) hx hb dX8_restore_6 (by decide) (fun hc => ?_) (fun hc => ?_)
  · have hq := hq.1 hc
    refine lv_aload_n hx hb dX8_restore_12 rfl (lv_at hl 0 rfl) ?_
    refine zg8_kept hx hb g8 hown hw h_o0 q2 dX8_restore_13 ?_
    refine lv_iload_n hx hb dX8_restore_16 rfl (lv_at hl 1 rfl) ?_
    obtain ⟨hi, hq⟩ := hq
    refine z_zald hx hb hw (zk_8_11 hC h_o0) hi dX8_restore_17 ?_
    refine lv_if_ne (tgt := 24) hx hb dX8_restore_18 (by decide) (fun hc => ?_) (fun hc => ?_)
    · have hq := hq.1 hc
      refine lv_aload_n hx hb dX8_restore_24 rfl (lv_at hl 0 rfl) ?_
      refine zg8_images hx hb g8 hown hw h_o0 q4 dX8_restore_25 ?_
      refine lv_bipush (v := (50 : Int32)) hx hb dX8_restore_28 (by decide) ?_
      refine lv_iload_n hx hb dX8_restore_30 rfl (lv_at hl 1 rfl) ?_
      refine lv_imul hx hb dX8_restore_31 ?_
      refine lv_aload_n hx hb dX8_restore_32 rfl (lv_at hl 0 rfl) ?_
      refine zg8_now hx hb g8 hown hw h_o0 q5 dX8_restore_33 ?_
      refine lv_iconst (v := (0 : Int32)) hx hb dX8_restore_36 (by decide) ?_
      refine z_csv ⟨hx, hb, hml, hown, hts⟩ hw (kX8_copies (zk_8_10 hC h_o0) (zk_8_6 hC h_o0) hq) (va_cwS 4 hts gX8_restore_X8_copies rfl rfl rfl (by decide +kernel) ⟨Nat.le_of_ble_eq_true rfl, Nat.le_of_ble_eq_true rfl⟩) rfl hl.1 rfl (Nat.le_of_ble_eq_true rfl) dX8_restore_37 ⟨Nat.zero_le _, Nat.zero_le _⟩ (fun M5 J0 H locs hq hw => ?_)
      obtain ⟨hq, rfl⟩ := hq
      refine lv_aload_n hx hb dX8_restore_40 rfl (lv_at hl 0 rfl) ?_
      refine lv_iconst (v := (0 : Int32)) hx hb dX8_restore_41 (by decide) ?_
      refine zp8_acts hx hb g8 hown hw h_o0 q6 dX8_restore_42 (fun H locs hw => ?_)
      obtain ⟨M6, e_M6⟩ : ∃ y : zM, y = va_up M5 o0 (upd (M5 o0) 8 (0 : Int32)) := ⟨_, rfl⟩
      rw [← e_M6] at hw
      have hq := hq M6 e_M6
      refine lv_iconst (v := (1 : Int32)) hx hb dX8_restore_45 (by decide) ?_
      exact z_iret hQE hx hb hr hlk hw dX8_restore_46 ⟨hq, rfl⟩
    · have hq := hq.2 hc
      refine lv_ldc (v := (-1000002 : Int32)) hx hb hown q3 dX8_restore_21 ?_
      exact z_iret hQE hx hb hr hlk hw dX8_restore_23 ⟨hq, rfl⟩
  · have hq := hq.2 hc
    refine lv_ldc (v := (-1000001 : Int32)) hx hb hown q1 dX8_restore_9 ?_
    exact z_iret hQE hx hb hr hlk hw dX8_restore_11 ⟨hq, rfl⟩
theorem dX8_kindIn_0 : decode cX8_kindIn 0 = .ok (.aload_n 0, 1) := by decide +kernel
theorem dX8_kindIn_1 : decode cX8_kindIn 1 = .ok (.getfield 25, 3) := by decide +kernel
theorem dX8_kindIn_4 : decode cX8_kindIn 4 = .ok (.iconst 2, 1) := by decide +kernel
theorem dX8_kindIn_5 : decode cX8_kindIn 5 = .ok (.iconst 4, 1) := by decide +kernel
theorem dX8_kindIn_6 : decode cX8_kindIn 6 = .ok (.iload_n 1, 1) := by decide +kernel
theorem dX8_kindIn_7 : decode cX8_kindIn 7 = .ok (.imul, 1) := by decide +kernel
theorem dX8_kindIn_8 : decode cX8_kindIn 8 = .ok (.iadd, 1) := by decide +kernel
theorem dX8_kindIn_9 : decode cX8_kindIn 9 = .ok (.iaload, 1) := by decide +kernel
theorem dX8_kindIn_10 : decode cX8_kindIn 10 = .ok (.ireturn, 1) := by decide +kernel
def rmX8_kindIn : Room := { frames := 0, cells := 0, slots := 0, locals := 0 }
def wX8_kindIn (M : zM) (o0 : Nat) (x1 : Int32) (Q : Int32 → Prop) : Prop :=
    vp_in ((2 : Int32) + ((4 : Int32) * x1)) 50 ∧
    ∀ x4 : Int32, x4 = (M (o0 + 6) ((2 : Int32) + ((4 : Int32) * x1)).toNatClampNeg) →
    Q x4
set_option maxHeartbeats 4000000 in
set_option maxRecDepth 100000 in
theorem kX8_kindIn {l : Launch} {D : va_G} {Y : zY} {ad kd : Nat → Nat} {RL : List Nat} {M : zM} {J : zL} {o0 : Nat} {x1 : Int32} (h_o0 : kd o0 = 8) {Q : Int32 → Prop} (hq : wX8_kindIn M o0 x1 Q) : zCi l yX8_kindIn wsX8_kindIn rmX8_kindIn [.ref (ad o0), .int x1] D Y ad kd RL M J (fun r M' J' => Q r ∧ M = M' ∧ J = J') := by
  refine z_meti (cc := cX8_kindIn) (maxL := 2) (ret := (some .int)) (by decide) rfl (Nat.le_of_ble_eq_true rfl) ?_
  intro p e s m below meth c ls A ar QE hQE hx hb hr hml hown hts hlk hw hl
  have hown : s.vm.findClass RX8 = some m.cls := hown
  have hl : lv_has ls 2 [(0, .ref (ad o0)), (1, .int x1)] := hl
  have hC := hw.2.2.2.2.2.1
  have g8 : ∀ w ∈ wsX80, w.before ar s = true := (fun w h => hts w (List.mem_cons_of_mem _ (List.mem_append_right _ h)))
  have q1 := hts _ (List.mem_of_getElem? (i := 1) rfl)
  unfold wX8_kindIn at hq
  refine lv_aload_n hx hb dX8_kindIn_0 rfl (lv_at hl 0 rfl) ?_
  refine zg8_now hx hb g8 hown hw h_o0 q1 dX8_kindIn_1 ?_
  refine lv_iconst (v := (2 : Int32)) hx hb dX8_kindIn_4 (by decide) ?_
  refine lv_iconst (v := (4 : Int32)) hx hb dX8_kindIn_5 (by decide) ?_
  refine lv_iload_n hx hb dX8_kindIn_6 rfl (lv_at hl 1 rfl) ?_
  refine lv_imul hx hb dX8_kindIn_7 ?_
  refine lv_iadd hx hb dX8_kindIn_8 ?_
  obtain ⟨hi, hq⟩ := hq
  refine z_iald (n := 50) hx hb hw (zk_8_6 hC h_o0) hi dX8_kindIn_9 ?_
  refine lv_topi (fun x4 e_x4 => ?_)
  have hq := hq x4 e_x4
  exact z_iret hQE hx hb hr hlk hw dX8_kindIn_10 ⟨hq, rfl, rfl⟩
set_option maxRecDepth 20000 in
theorem ggX8_kind_X8_isPeg : GoodIn wsX8_kind wsX8_isPeg := goodIn_r _ [6, 7, 8, 9, 5, 10, 15, 16, 17, 18, 19, 20, 21, 22, 23, 24, 25, 26, 27, 28, 29, 30, 31, 32, 33, 34, 35, 36, 37, 38, 39, 40] (by decide +kernel) (by decide +kernel)
set_option maxRecDepth 20000 in
theorem gX8_kind_X8_isPeg : GoodIn wsX8_kind (wsV RX8 163 RX8 yX8_isPeg wsX8_isPeg) := goodIn_app (goodIn_of _ (by decide +kernel)) ggX8_kind_X8_isPeg
set_option maxRecDepth 20000 in
theorem ggX8_kind_X8_kindIn : GoodIn wsX8_kind wsX8_kindIn := goodIn_r _ [14, 7, 15, 16, 17, 18, 19, 20, 21, 22, 23, 24, 25, 26, 27, 28, 29, 30, 31, 32, 33, 34, 35, 36, 37, 38, 39, 40] (by decide +kernel) (by decide +kernel)
set_option maxRecDepth 20000 in
theorem gX8_kind_X8_kindIn : GoodIn wsX8_kind (wsV RX8 253 RX8 yX8_kindIn wsX8_kindIn) := goodIn_app (goodIn_of _ (by decide +kernel)) ggX8_kind_X8_kindIn
theorem dX8_kind_0 : decode cX8_kind 0 = .ok (.aload_n 0, 1) := by decide +kernel
theorem dX8_kind_1 : decode cX8_kind 1 = .ok (.iload_n 1, 1) := by decide +kernel
theorem dX8_kind_2 : decode cX8_kind 2 = .ok (.invokevirtual 163, 3) := by decide +kernel
theorem dX8_kind_5 : decode cX8_kind 5 = .ok (.ifCond .eq 11, 3) := by decide +kernel
theorem dX8_kind_8 : decode cX8_kind 8 = .ok (.aload_n 0, 1) := by decide +kernel
theorem dX8_kind_9 : decode cX8_kind 9 = .ok (.iload_n 1, 1) := by decide +kernel
theorem dX8_kind_10 : decode cX8_kind 10 = .ok (.invokevirtual 253, 3) := by decide +kernel
theorem dX8_kind_13 : decode cX8_kind 13 = .ok (.goto 5, 3) := by decide +kernel
theorem dX8_kind_16 : decode cX8_kind 16 = .ok (.ldc 67, 2) := by decide +kernel
theorem dX8_kind_18 : decode cX8_kind 18 = .ok (.ireturn, 1) := by decide +kernel
def rmX8_kind : Room := { frames := 2, cells := 0, slots := 0, locals := 43 }
def wX8_kind (M : zM) (o0 : Nat) (x1 : Int32) (Q : Int32 → Prop) : Prop :=
    wX8_isPeg M o0 x1 (fun r4 =>
    ((r4 = 0) → (
    Q (-1000001 : Int32))) ∧
    ((¬ r4 = 0) → (
    wX8_kindIn M o0 x1 (fun r5 =>
    Q r5))))
set_option maxHeartbeats 4000000 in
set_option maxRecDepth 100000 in
theorem kX8_kind {l : Launch} {D : va_G} {Y : zY} {ad kd : Nat → Nat} {RL : List Nat} {M : zM} {J : zL} {o0 : Nat} {x1 : Int32} (h_o0 : kd o0 = 8) {Q : Int32 → Prop} (hq : wX8_kind M o0 x1 Q) : zCi l yX8_kind wsX8_kind rmX8_kind [.ref (ad o0), .int x1] D Y ad kd RL M J (fun r M' J' => Q r ∧ M = M' ∧ J = J') := by
  refine z_meti (cc := cX8_kind) (maxL := 2) (ret := (some .int)) (by decide) rfl (Nat.le_of_ble_eq_true rfl) ?_
  intro p e s m below meth c ls A ar QE hQE hx hb hr hml hown hts hlk hw hl
  have hown : s.vm.findClass RX8 = some m.cls := hown
  have hl : lv_has ls 2 [(0, .ref (ad o0)), (1, .int x1)] := hl
  have hC := hw.2.2.2.2.2.1
  have q1 := hts _ (List.mem_of_getElem? (i := 1) rfl)
  unfold wX8_kind at hq
  refine lv_aload_n hx hb dX8_kind_0 rfl (lv_at hl 0 rfl) ?_
  refine lv_iload_n hx hb dX8_kind_1 rfl (lv_at hl 1 rfl) ?_
  refine z_cvi ⟨hx, hb, hml, hown, hts⟩ hw h_o0 (kX8_isPeg h_o0 hq) (by decide) rfl (cwV 1 hts gX8_kind_X8_isPeg rfl rfl rfl (by decide +kernel) ⟨Nat.le_of_ble_eq_true rfl, Nat.le_of_ble_eq_true rfl⟩) rfl hl.1 rfl (Nat.le_of_ble_eq_true rfl) dX8_kind_2 ⟨Nat.zero_le _, Nat.zero_le _⟩ (fun r4 M0 J0 H locs hq hw => ?_)
  obtain ⟨hq, rfl, rfl⟩ := hq
  refine lv_if_eq (tgt := 16) hx hb dX8_kind_5 (by decide) (fun hc => ?_) (fun hc => ?_)
  · have hq := hq.1 hc
    refine lv_ldc (v := (-1000001 : Int32)) hx hb hown q1 dX8_kind_16 ?_
    exact z_iret hQE hx hb hr hlk hw dX8_kind_18 ⟨hq, rfl, rfl⟩
  · have hq := hq.2 hc
    refine lv_aload_n hx hb dX8_kind_8 rfl (lv_at hl 0 rfl) ?_
    refine lv_iload_n hx hb dX8_kind_9 rfl (lv_at hl 1 rfl) ?_
    refine z_cvi ⟨hx, hb, hml, hown, hts⟩ hw h_o0 (kX8_kindIn h_o0 hq) (by decide) rfl (cwV 1 hts gX8_kind_X8_kindIn rfl rfl rfl (by decide +kernel) ⟨Nat.le_of_ble_eq_true rfl, Nat.le_of_ble_eq_true rfl⟩) rfl hl.1 rfl (Nat.le_of_ble_eq_true rfl) dX8_kind_10 ⟨Nat.zero_le _, Nat.zero_le _⟩ (fun r5 M0 J0 H locs hq hw => ?_)
    obtain ⟨hq, rfl, rfl⟩ := hq
    refine lv_goto (tgt := 18) hx hb dX8_kind_13 (by decide) ?_
    exact z_iret hQE hx hb hr hlk hw dX8_kind_18 ⟨hq, rfl, rfl⟩
set_option maxRecDepth 20000 in
theorem ggX8_as_X8_isPeg : GoodIn wsX8_as wsX8_isPeg := goodIn_r _ [6, 7, 8, 9, 5, 10, 25, 26, 27, 28, 29, 30, 31, 32, 33, 34, 35, 36, 37, 38, 39, 40, 41, 42, 43, 44, 45, 46, 47, 48, 49, 50] (by decide +kernel) (by decide +kernel)
set_option maxRecDepth 20000 in
theorem gX8_as_X8_isPeg : GoodIn wsX8_as (wsV RX8 163 RX8 yX8_isPeg wsX8_isPeg) := goodIn_app (goodIn_of _ (by decide +kernel)) ggX8_as_X8_isPeg
set_option maxRecDepth 20000 in
theorem ggX8_as_X8_in : GoodIn wsX8_as wsX8_in := goodIn_r _ [10] (by decide +kernel) (by decide +kernel)
set_option maxRecDepth 20000 in
theorem gX8_as_X8_in : GoodIn wsX8_as (va_wsS RX8 59 yX8_in wsX8_in) := goodIn_app (goodIn_of _ (by decide +kernel)) ggX8_as_X8_in
set_option maxRecDepth 20000 in
theorem ggX8_as_X8_kindIn : GoodIn wsX8_as wsX8_kindIn := goodIn_r _ [14, 7, 25, 26, 27, 28, 29, 30, 31, 32, 33, 34, 35, 36, 37, 38, 39, 40, 41, 42, 43, 44, 45, 46, 47, 48, 49, 50] (by decide +kernel) (by decide +kernel)
set_option maxRecDepth 20000 in
theorem gX8_as_X8_kindIn : GoodIn wsX8_as (wsV RX8 253 RX8 yX8_kindIn wsX8_kindIn) := goodIn_app (goodIn_of _ (by decide +kernel)) ggX8_as_X8_kindIn
set_option maxRecDepth 20000 in
theorem ggX8_as_X8_well : GoodIn wsX8_as wsX8_well := goodIn_r _ [18, 19, 25, 26, 27, 28, 29, 30, 31, 32, 33, 34, 35, 36, 37, 38, 39, 40, 41, 42, 43, 44, 45, 46, 47, 48, 49, 50] (by decide +kernel) (by decide +kernel)
set_option maxRecDepth 20000 in
theorem gX8_as_X8_well : GoodIn wsX8_as (wsV RX8 72 RX8 yX8_well wsX8_well) := goodIn_app (goodIn_of _ (by decide +kernel)) ggX8_as_X8_well
set_option maxRecDepth 20000 in
theorem ggX8_as_X8_found : GoodIn wsX8_as wsX8_found := goodIn_r _ [23, 19, 24, 25, 26, 27, 28, 29, 30, 31, 32, 33, 34, 35, 36, 37, 38, 39, 40, 41, 42, 43, 44, 45, 46, 47, 48, 49, 50] (by decide +kernel) (by decide +kernel)
set_option maxRecDepth 20000 in
theorem gX8_as_X8_found : GoodIn wsX8_as (wsV RX8 68 RX8 yX8_found wsX8_found) := goodIn_app (goodIn_of _ (by decide +kernel)) ggX8_as_X8_found
theorem dX8_as_0 : decode cX8_as 0 = .ok (.aload_n 0, 1) := by decide +kernel
theorem dX8_as_1 : decode cX8_as 1 = .ok (.iload_n 1, 1) := by decide +kernel
theorem dX8_as_2 : decode cX8_as 2 = .ok (.invokevirtual 163, 3) := by decide +kernel
theorem dX8_as_5 : decode cX8_as 5 = .ok (.ifCond .eq 12, 3) := by decide +kernel
theorem dX8_as_8 : decode cX8_as 8 = .ok (.iload_n 2, 1) := by decide +kernel
theorem dX8_as_9 : decode cX8_as 9 = .ok (.iconst 0, 1) := by decide +kernel
theorem dX8_as_10 : decode cX8_as 10 = .ok (.iconst 5, 1) := by decide +kernel
theorem dX8_as_11 : decode cX8_as 11 = .ok (.invokestatic 59, 3) := by decide +kernel
theorem dX8_as_14 : decode cX8_as 14 = .ok (.ifCond .ne 6, 3) := by decide +kernel
theorem dX8_as_17 : decode cX8_as 17 = .ok (.ldc 67, 2) := by decide +kernel
theorem dX8_as_19 : decode cX8_as 19 = .ok (.ireturn, 1) := by decide +kernel
theorem dX8_as_20 : decode cX8_as 20 = .ok (.aload_n 0, 1) := by decide +kernel
theorem dX8_as_21 : decode cX8_as 21 = .ok (.iload_n 1, 1) := by decide +kernel
theorem dX8_as_22 : decode cX8_as 22 = .ok (.invokevirtual 253, 3) := by decide +kernel
theorem dX8_as_25 : decode cX8_as 25 = .ok (.istore_n 3, 1) := by decide +kernel
theorem dX8_as_26 : decode cX8_as 26 = .ok (.iload_n 2, 1) := by decide +kernel
theorem dX8_as_27 : decode cX8_as 27 = .ok (.ifCond .eq 28, 3) := by decide +kernel
theorem dX8_as_30 : decode cX8_as 30 = .ok (.iload_n 2, 1) := by decide +kernel
theorem dX8_as_31 : decode cX8_as 31 = .ok (.iload_n 3, 1) := by decide +kernel
theorem dX8_as_32 : decode cX8_as 32 = .ok (.if_icmp .eq 23, 3) := by decide +kernel
theorem dX8_as_35 : decode cX8_as 35 = .ok (.iload_n 2, 1) := by decide +kernel
theorem dX8_as_36 : decode cX8_as 36 = .ok (.iconst 1, 1) := by decide +kernel
theorem dX8_as_37 : decode cX8_as 37 = .ok (.if_icmp .ne 8, 3) := by decide +kernel
theorem dX8_as_40 : decode cX8_as 40 = .ok (.iload_n 3, 1) := by decide +kernel
theorem dX8_as_41 : decode cX8_as 41 = .ok (.iconst 4, 1) := by decide +kernel
theorem dX8_as_42 : decode cX8_as 42 = .ok (.if_icmp .lt 13, 3) := by decide +kernel
theorem dX8_as_45 : decode cX8_as 45 = .ok (.iload_n 2, 1) := by decide +kernel
theorem dX8_as_46 : decode cX8_as 46 = .ok (.iconst 4, 1) := by decide +kernel
theorem dX8_as_47 : decode cX8_as 47 = .ok (.if_icmp .ne 12, 3) := by decide +kernel
theorem dX8_as_50 : decode cX8_as 50 = .ok (.iload_n 3, 1) := by decide +kernel
theorem dX8_as_51 : decode cX8_as 51 = .ok (.iconst 5, 1) := by decide +kernel
theorem dX8_as_52 : decode cX8_as 52 = .ok (.if_icmp .ne 7, 3) := by decide +kernel
theorem dX8_as_55 : decode cX8_as 55 = .ok (.iconst 1, 1) := by decide +kernel
theorem dX8_as_56 : decode cX8_as 56 = .ok (.goto 4, 3) := by decide +kernel
theorem dX8_as_59 : decode cX8_as 59 = .ok (.iconst 0, 1) := by decide +kernel
theorem dX8_as_60 : decode cX8_as 60 = .ok (.istore 4, 2) := by decide +kernel
theorem dX8_as_62 : decode cX8_as 62 = .ok (.iload 4, 2) := by decide +kernel
theorem dX8_as_64 : decode cX8_as 64 = .ok (.ifCond .eq 11, 3) := by decide +kernel
theorem dX8_as_67 : decode cX8_as 67 = .ok (.aload_n 0, 1) := by decide +kernel
theorem dX8_as_68 : decode cX8_as 68 = .ok (.iload_n 1, 1) := by decide +kernel
theorem dX8_as_69 : decode cX8_as 69 = .ok (.invokevirtual 72, 3) := by decide +kernel
theorem dX8_as_72 : decode cX8_as 72 = .ok (.goto 8, 3) := by decide +kernel
theorem dX8_as_75 : decode cX8_as 75 = .ok (.aload_n 0, 1) := by decide +kernel
theorem dX8_as_76 : decode cX8_as 76 = .ok (.iconst 3, 1) := by decide +kernel
theorem dX8_as_77 : decode cX8_as 77 = .ok (.invokevirtual 68, 3) := by decide +kernel
theorem dX8_as_80 : decode cX8_as 80 = .ok (.ireturn, 1) := by decide +kernel
def rmX8_as : Room := { frames := 2, cells := 0, slots := 0, locals := 43 }
def jnX8_as_60 (M : zM) (o0 : Nat) (x1 : Int32) (Q : Int32 → zM → Prop) (x8 : Int32) : Prop :=
    ((x8 = 0) → (
    wX8_found M o0 (3 : Int32) (fun r9 M10 =>
    Q r9 M10))) ∧
    ((¬ x8 = 0) → (
    wX8_well M o0 x1 (fun r11 M12 =>
    Q r11 M12)))
def jnX8_as_55 (M : zM) (o0 : Nat) (x1 : Int32) (Q : Int32 → zM → Prop)  : Prop :=
    jnX8_as_60 M o0 x1 Q (1 : Int32)
def jnX8_as_45 (M : zM) (o0 : Nat) (x1 : Int32) (x2 : Int32) (r7 : Int32) (Q : Int32 → zM → Prop)  : Prop :=
    ((¬ x2 = (4 : Int32)) → (
    jnX8_as_60 M o0 x1 Q (0 : Int32))) ∧
    ((x2 = (4 : Int32)) → (
    ((¬ r7 = (5 : Int32)) → (
    jnX8_as_60 M o0 x1 Q (0 : Int32))) ∧
    ((r7 = (5 : Int32)) → (
    jnX8_as_55 M o0 x1 Q ))))
def wX8_as (M : zM) (o0 : Nat) (x1 : Int32) (x2 : Int32) (Q : Int32 → zM → Prop) : Prop :=
    wX8_isPeg M o0 x1 (fun r5 =>
    ((r5 = 0) → (
    Q (-1000001 : Int32) M)) ∧
    ((¬ r5 = 0) → (
    wX8_in M x2 (0 : Int32) (5 : Int32) (fun r6 =>
    ((¬ r6 = 0) → (
    wX8_kindIn M o0 x1 (fun r7 =>
    ((x2 = 0) → (
    jnX8_as_55 M o0 x1 Q )) ∧
    ((¬ x2 = 0) → (
    ((x2 = r7) → (
    jnX8_as_55 M o0 x1 Q )) ∧
    ((¬ x2 = r7) → (
    ((¬ x2 = (1 : Int32)) → (
    jnX8_as_45 M o0 x1 x2 r7 Q )) ∧
    ((x2 = (1 : Int32)) → (
    ((r7 < (4 : Int32)) → (
    jnX8_as_55 M o0 x1 Q )) ∧
    ((¬ r7 < (4 : Int32)) → (
    jnX8_as_45 M o0 x1 x2 r7 Q ))))))))))) ∧
    ((r6 = 0) → (
    Q (-1000001 : Int32) M))))))
set_option maxHeartbeats 4000000 in
set_option maxRecDepth 100000 in
theorem kX8_as {l : Launch} {D : va_G} {Y : zY} {ad kd : Nat → Nat} {RL : List Nat} {M : zM} {J : zL} {o0 : Nat} {x1 : Int32} {x2 : Int32} (h_o0 : kd o0 = 8) {Q : Int32 → zM → Prop} (hq : wX8_as M o0 x1 x2 Q) : zCi l yX8_as wsX8_as rmX8_as [.ref (ad o0), .int x1, .int x2] D Y ad kd RL M J (fun r M' J' => Q r M' ∧ J = J') := by
  refine z_meti (cc := cX8_as) (maxL := 5) (ret := (some .int)) (by decide) rfl (Nat.le_of_ble_eq_true rfl) ?_
  intro p e s m below meth c ls A ar QE hQE hx hb hr hml hown hts hlk hw hl
  have hown : s.vm.findClass RX8 = some m.cls := hown
  have hl : lv_has ls 5 [(0, .ref (ad o0)), (1, .int x1), (2, .int x2)] := hl
  have hC := hw.2.2.2.2.2.1
  have q1 := hts _ (List.mem_of_getElem? (i := 1) rfl)
  unfold wX8_as at hq
  refine lv_aload_n hx hb dX8_as_0 rfl (lv_at hl 0 rfl) ?_
  refine lv_iload_n hx hb dX8_as_1 rfl (lv_at hl 1 rfl) ?_
  refine z_cvi ⟨hx, hb, hml, hown, hts⟩ hw h_o0 (kX8_isPeg h_o0 hq) (by decide) rfl (cwV 1 hts gX8_as_X8_isPeg rfl rfl rfl (by decide +kernel) ⟨Nat.le_of_ble_eq_true rfl, Nat.le_of_ble_eq_true rfl⟩) rfl hl.1 rfl (Nat.le_of_ble_eq_true rfl) dX8_as_2 ⟨Nat.zero_le _, Nat.zero_le _⟩ (fun r5 M0 J0 H locs hq hw => ?_)
  obtain ⟨hq, rfl, rfl⟩ := hq
  refine lv_if_eq (tgt := 17) hx hb dX8_as_5 (by decide) (fun hc => ?_) (fun hc => ?_)
  · have hq := hq.1 hc
    refine lv_ldc (v := (-1000001 : Int32)) hx hb hown q1 dX8_as_17 ?_
    exact z_iret hQE hx hb hr hlk hw dX8_as_19 ⟨hq, rfl⟩
  · have hq := hq.2 hc
    refine lv_iload_n hx hb dX8_as_8 rfl (lv_at hl 2 rfl) ?_
    refine lv_iconst (v := (0 : Int32)) hx hb dX8_as_9 (by decide) ?_
    refine lv_iconst (v := (5 : Int32)) hx hb dX8_as_10 (by decide) ?_
    refine z_csi ⟨hx, hb, hml, hown, hts⟩ hw (kX8_in  hq) (va_cwS 3 hts gX8_as_X8_in rfl rfl rfl (by decide +kernel) ⟨Nat.le_of_ble_eq_true rfl, Nat.le_of_ble_eq_true rfl⟩) rfl hl.1 rfl (Nat.le_of_ble_eq_true rfl) dX8_as_11 ⟨Nat.zero_le _, Nat.zero_le _⟩ (fun r6 M0 J0 H locs hq hw => ?_)
    obtain ⟨hq, rfl, rfl⟩ := hq
    refine lv_if_ne (tgt := 20) hx hb dX8_as_14 (by decide) (fun hc => ?_) (fun hc => ?_)
    · have hq := hq.1 hc
      refine lv_aload_n hx hb dX8_as_20 rfl (lv_at hl 0 rfl) ?_
      refine lv_iload_n hx hb dX8_as_21 rfl (lv_at hl 1 rfl) ?_
      refine z_cvi ⟨hx, hb, hml, hown, hts⟩ hw h_o0 (kX8_kindIn h_o0 hq) (by decide) rfl (cwV 1 hts gX8_as_X8_kindIn rfl rfl rfl (by decide +kernel) ⟨Nat.le_of_ble_eq_true rfl, Nat.le_of_ble_eq_true rfl⟩) rfl hl.1 rfl (Nat.le_of_ble_eq_true rfl) dX8_as_22 ⟨Nat.zero_le _, Nat.zero_le _⟩ (fun r7 M0 J0 H locs hq hw => ?_)
      obtain ⟨hq, rfl, rfl⟩ := hq
      refine lv_istore_n (lv' := [(3, .int r7), (0, .ref (ad o0)), (1, .int x1), (2, .int x2)]) hx hb dX8_as_25 rfl hl (by decide) rfl (fun ls hl => ?_)
      refine lv_iload_n hx hb dX8_as_26 rfl (lv_at hl 3 rfl) ?_
      have jn60 : ∀ (x8 : Int32) (H : Heap) (locs : List Loc) (ls : Array Slot), jnX8_as_60 M o0 x1 Q x8 → zH D Y ad kd RL M J A s.heap H locs s → lv_has ls 5 [(0, .ref (ad o0)), (1, .int x1)] → W p l e rmX8_as s m ar below meth c H locs 0 0 QE (F0 m 60 ls [.int x8]) := by
        intro x8 H locs ls hq hw hl
        unfold jnX8_as_60 at hq
        refine lv_istore (lv' := [(4, .int x8), (0, .ref (ad o0)), (1, .int x1)]) hx hb dX8_as_60 hl (by decide) rfl (fun ls hl => ?_)
        refine lv_iload hx hb dX8_as_62 (lv_at hl 0 rfl) ?_
        refine lv_if_eq (tgt := 75) hx hb dX8_as_64 (by decide) (fun hc => ?_) (fun hc => ?_)
        · have hq := hq.1 hc
          refine lv_aload_n hx hb dX8_as_75 rfl (lv_at hl 1 rfl) ?_
          refine lv_iconst (v := (3 : Int32)) hx hb dX8_as_76 (by decide) ?_
          refine z_cvi ⟨hx, hb, hml, hown, hts⟩ hw h_o0 (kX8_found h_o0 hq) (by decide) rfl (cwV 1 hts gX8_as_X8_found rfl rfl rfl (by decide +kernel) ⟨Nat.le_of_ble_eq_true rfl, Nat.le_of_ble_eq_true rfl⟩) rfl hl.1 rfl (Nat.le_of_ble_eq_true rfl) dX8_as_77 ⟨Nat.zero_le _, Nat.zero_le _⟩ (fun r9 M10 J0 H locs hq hw => ?_)
          obtain ⟨hq, rfl⟩ := hq
          exact z_iret hQE hx hb hr hlk hw dX8_as_80 ⟨hq, rfl⟩
        · have hq := hq.2 hc
          refine lv_aload_n hx hb dX8_as_67 rfl (lv_at hl 1 rfl) ?_
          refine lv_iload_n hx hb dX8_as_68 rfl (lv_at hl 2 rfl) ?_
          refine z_cvi ⟨hx, hb, hml, hown, hts⟩ hw h_o0 (kX8_well h_o0 hq) (by decide) rfl (cwV 1 hts gX8_as_X8_well rfl rfl rfl (by decide +kernel) ⟨Nat.le_of_ble_eq_true rfl, Nat.le_of_ble_eq_true rfl⟩) rfl hl.1 rfl (Nat.le_of_ble_eq_true rfl) dX8_as_69 ⟨Nat.zero_le _, Nat.zero_le _⟩ (fun r11 M12 J0 H locs hq hw => ?_)
          obtain ⟨hq, rfl⟩ := hq
          refine lv_goto (tgt := 80) hx hb dX8_as_72 (by decide) ?_
          exact z_iret hQE hx hb hr hlk hw dX8_as_80 ⟨hq, rfl⟩
      have jn55 : ∀ (H : Heap) (locs : List Loc) (ls : Array Slot), jnX8_as_55 M o0 x1 Q  → zH D Y ad kd RL M J A s.heap H locs s → lv_has ls 5 [(0, .ref (ad o0)), (1, .int x1)] → W p l e rmX8_as s m ar below meth c H locs 0 0 QE (F0 m 55 ls []) := by
        intro  H locs ls hq hw hl
        unfold jnX8_as_55 at hq
        refine lv_iconst (v := (1 : Int32)) hx hb dX8_as_55 (by decide) ?_
        refine lv_goto (tgt := 60) hx hb dX8_as_56 (by decide) ?_
        exact jn60 (1 : Int32) _ _ _ hq hw (lv_sub hl [0, 1] rfl)
      refine lv_if_eq (tgt := 55) hx hb dX8_as_27 (by decide) (fun hc => ?_) (fun hc => ?_)
      · have hq := hq.1 hc
        exact jn55  _ _ _ hq hw (lv_sub hl [1, 2] rfl)
      · have hq := hq.2 hc
        refine lv_iload_n hx hb dX8_as_30 rfl (lv_at hl 3 rfl) ?_
        refine lv_iload_n hx hb dX8_as_31 rfl (lv_at hl 0 rfl) ?_
        refine lv_icmp_eq (tgt := 55) hx hb dX8_as_32 (by decide) (fun hc => ?_) (fun hc => ?_)
        · have hq := hq.1 hc
          exact jn55  _ _ _ hq hw (lv_sub hl [1, 2] rfl)
        · have hq := hq.2 hc
          refine lv_iload_n hx hb dX8_as_35 rfl (lv_at hl 3 rfl) ?_
          refine lv_iconst (v := (1 : Int32)) hx hb dX8_as_36 (by decide) ?_
          have jn45 : ∀ (H : Heap) (locs : List Loc) (ls : Array Slot), jnX8_as_45 M o0 x1 x2 r7 Q  → zH D Y ad kd RL M J A s.heap H locs s → lv_has ls 5 [(0, .ref (ad o0)), (1, .int x1), (2, .int x2), (3, .int r7)] → W p l e rmX8_as s m ar below meth c H locs 0 0 QE (F0 m 45 ls []) := by
            intro  H locs ls hq hw hl
            unfold jnX8_as_45 at hq
            refine lv_iload_n hx hb dX8_as_45 rfl (lv_at hl 2 rfl) ?_
            refine lv_iconst (v := (4 : Int32)) hx hb dX8_as_46 (by decide) ?_
            refine lv_icmp_ne (tgt := 59) hx hb dX8_as_47 (by decide) (fun hc => ?_) (fun hc => ?_)
            · have hq := hq.1 hc
              refine lv_iconst (v := (0 : Int32)) hx hb dX8_as_59 (by decide) ?_
              exact jn60 (0 : Int32) _ _ _ hq hw (lv_sub hl [0, 1] rfl)
            · have hq := hq.2 hc
              refine lv_iload_n hx hb dX8_as_50 rfl (lv_at hl 3 rfl) ?_
              refine lv_iconst (v := (5 : Int32)) hx hb dX8_as_51 (by decide) ?_
              refine lv_icmp_ne (tgt := 59) hx hb dX8_as_52 (by decide) (fun hc => ?_) (fun hc => ?_)
              · have hq := hq.1 hc
                refine lv_iconst (v := (0 : Int32)) hx hb dX8_as_59 (by decide) ?_
                exact jn60 (0 : Int32) _ _ _ hq hw (lv_sub hl [0, 1] rfl)
              · have hq := hq.2 hc
                exact jn55  _ _ _ hq hw (lv_sub hl [0, 1] rfl)
          refine lv_icmp_ne (tgt := 45) hx hb dX8_as_37 (by decide) (fun hc => ?_) (fun hc => ?_)
          · have hq := hq.1 hc
            exact jn45  _ _ _ hq hw (lv_sub hl [1, 2, 3, 0] rfl)
          · have hq := hq.2 hc
            refine lv_iload_n hx hb dX8_as_40 rfl (lv_at hl 0 rfl) ?_
            refine lv_iconst (v := (4 : Int32)) hx hb dX8_as_41 (by decide) ?_
            refine lv_icmp_lt (tgt := 55) hx hb dX8_as_42 (by decide) (fun hc => ?_) (fun hc => ?_)
            · have hq := hq.1 hc
              exact jn55  _ _ _ hq hw (lv_sub hl [1, 2] rfl)
            · have hq := hq.2 hc
              exact jn45  _ _ _ hq hw (lv_sub hl [1, 2, 3, 0] rfl)
    · have hq := hq.2 hc
      refine lv_ldc (v := (-1000001 : Int32)) hx hb hown q1 dX8_as_17 ?_
      exact z_iret hQE hx hb hr hlk hw dX8_as_19 ⟨hq, rfl⟩
theorem dX8_begins_0 : decode cX8_begins 0 = .ok (.aload_n 0, 1) := by decide +kernel
theorem dX8_begins_1 : decode cX8_begins 1 = .ok (.getfield 256, 3) := by decide +kernel
theorem dX8_begins_4 : decode cX8_begins 4 = .ok (.bipush 16, 2) := by decide +kernel
theorem dX8_begins_6 : decode cX8_begins 6 = .ok (.if_icmp .ge 23, 3) := by decide +kernel
theorem dX8_begins_9 : decode cX8_begins 9 = .ok (.aload_n 0, 1) := by decide +kernel
theorem dX8_begins_10 : decode cX8_begins 10 = .ok (.getfield 50, 3) := by decide +kernel
theorem dX8_begins_13 : decode cX8_begins 13 = .ok (.aload_n 0, 1) := by decide +kernel
theorem dX8_begins_14 : decode cX8_begins 14 = .ok (.getfield 256, 3) := by decide +kernel
theorem dX8_begins_17 : decode cX8_begins 17 = .ok (.iload_n 1, 1) := by decide +kernel
theorem dX8_begins_18 : decode cX8_begins 18 = .ok (.iastore, 1) := by decide +kernel
theorem dX8_begins_19 : decode cX8_begins 19 = .ok (.aload_n 0, 1) := by decide +kernel
theorem dX8_begins_20 : decode cX8_begins 20 = .ok (.dup, 1) := by decide +kernel
theorem dX8_begins_21 : decode cX8_begins 21 = .ok (.getfield 256, 3) := by decide +kernel
theorem dX8_begins_24 : decode cX8_begins 24 = .ok (.iconst 1, 1) := by decide +kernel
theorem dX8_begins_25 : decode cX8_begins 25 = .ok (.iadd, 1) := by decide +kernel
theorem dX8_begins_26 : decode cX8_begins 26 = .ok (.putfield 256, 3) := by decide +kernel
theorem dX8_begins_29 : decode cX8_begins 29 = .ok (.return_, 1) := by decide +kernel
def rmX8_begins : Room := { frames := 0, cells := 0, slots := 0, locals := 0 }
def wX8_begins (M : zM) (o0 : Nat) (x1 : Int32) (Q : zM → Prop) : Prop :=
    (((16 : Int32) ≤ (M o0 11)) → (
    Q M)) ∧
    ((¬ (16 : Int32) ≤ (M o0 11)) → (
    vp_in (M o0 11) 16 ∧
    ∀ M4 : zM, M4 = va_up M (o0 + 14) (upd (M (o0 + 14)) (M o0 11).toNatClampNeg x1) →
    ∀ M5 : zM, M5 = va_up M4 o0 (upd (M4 o0) 11 ((M4 o0 11) + (1 : Int32))) →
    Q M5))
set_option maxHeartbeats 4000000 in
set_option maxRecDepth 100000 in
theorem kX8_begins {l : Launch} {D : va_G} {Y : zY} {ad kd : Nat → Nat} {RL : List Nat} {M : zM} {J : zL} {o0 : Nat} {x1 : Int32} (h_o0 : kd o0 = 8) {Q : zM → Prop} (hq : wX8_begins M o0 x1 Q) : zCv l yX8_begins wsX8_begins rmX8_begins [.ref (ad o0), .int x1] D Y ad kd RL M J (fun M' J' => Q M' ∧ J = J') := by
  refine z_metv (cc := cX8_begins) (maxL := 2) (ret := none) (by decide) rfl (Nat.le_of_ble_eq_true rfl) ?_
  intro p e s m below meth c ls A ar QE hQE hx hb hr hml hown hts hlk hw hl
  have hown : s.vm.findClass RX8 = some m.cls := hown
  have hl : lv_has ls 2 [(0, .ref (ad o0)), (1, .int x1)] := hl
  have hC := hw.2.2.2.2.2.1
  have g8 : ∀ w ∈ wsX80, w.before ar s = true := (fun w h => hts w (List.mem_cons_of_mem _ (List.mem_append_right _ h)))
  have q1 := hts _ (List.mem_of_getElem? (i := 1) rfl)
  have q2 := hts _ (List.mem_of_getElem? (i := 2) rfl)
  unfold wX8_begins at hq
  refine lv_aload_n hx hb dX8_begins_0 rfl (lv_at hl 0 rfl) ?_
  refine zg8_traced hx hb g8 hown hw h_o0 q1 dX8_begins_1 ?_
  refine lv_bipush (v := (16 : Int32)) hx hb dX8_begins_4 (by decide) ?_
  refine lv_icmp_ge (tgt := 29) hx hb dX8_begins_6 (by decide) (fun hc => ?_) (fun hc => ?_)
  · have hq := hq.1 hc
    exact z_vret hQE hx hb hr hlk hw dX8_begins_29 ⟨hq, rfl⟩
  · have hq := hq.2 hc
    refine lv_aload_n hx hb dX8_begins_9 rfl (lv_at hl 0 rfl) ?_
    refine zg8_trace hx hb g8 hown hw h_o0 q2 dX8_begins_10 ?_
    refine lv_aload_n hx hb dX8_begins_13 rfl (lv_at hl 0 rfl) ?_
    refine zg8_traced hx hb g8 hown hw h_o0 q1 dX8_begins_14 ?_
    refine lv_iload_n hx hb dX8_begins_17 rfl (lv_at hl 1 rfl) ?_
    obtain ⟨hi, hq⟩ := hq
    refine z_iast (n := 16) hx hb hw (zk_8_14 hC h_o0) hi dX8_begins_18 (fun H locs hw => ?_)
    obtain ⟨M4, e_M4⟩ : ∃ y : zM, y = va_up M (o0 + 14) (upd (M (o0 + 14)) (M o0 11).toNatClampNeg x1) := ⟨_, rfl⟩
    rw [← e_M4] at hw
    have hq := hq M4 e_M4
    refine lv_aload_n hx hb dX8_begins_19 rfl (lv_at hl 0 rfl) ?_
    refine lv_dup hx hb dX8_begins_20 rfl ?_
    refine zg8_traced hx hb g8 hown hw h_o0 q1 dX8_begins_21 ?_
    refine lv_iconst (v := (1 : Int32)) hx hb dX8_begins_24 (by decide) ?_
    refine lv_iadd hx hb dX8_begins_25 ?_
    refine zp8_traced hx hb g8 hown hw h_o0 q1 dX8_begins_26 (fun H locs hw => ?_)
    obtain ⟨M5, e_M5⟩ : ∃ y : zM, y = va_up M4 o0 (upd (M4 o0) 11 ((M4 o0 11) + (1 : Int32))) := ⟨_, rfl⟩
    rw [← e_M5] at hw
    have hq := hq M5 e_M5
    exact z_vret hQE hx hb hr hlk hw dX8_begins_29 ⟨hq, rfl⟩
set_option maxRecDepth 20000 in
theorem ggX8_plainMark_X8_kindIn : GoodIn wsX8_plainMark wsX8_kindIn := goodIn_r _ [6, 1, 13, 14, 15, 16, 17, 18, 19, 20, 21, 22, 23, 24, 25, 26, 27, 28, 29, 30, 31, 32, 33, 34, 35, 36, 37, 38] (by decide +kernel) (by decide +kernel)
set_option maxRecDepth 20000 in
theorem gX8_plainMark_X8_kindIn : GoodIn wsX8_plainMark (wsV RX8 253 RX8 yX8_kindIn wsX8_kindIn) := goodIn_app (goodIn_of _ (by decide +kernel)) ggX8_plainMark_X8_kindIn
set_option maxRecDepth 20000 in
theorem ggX8_plainMark_X8_begins : GoodIn wsX8_plainMark wsX8_begins := goodIn_r _ [10, 11, 12, 13, 14, 15, 16, 17, 18, 19, 20, 21, 22, 23, 24, 25, 26, 27, 28, 29, 30, 31, 32, 33, 34, 35, 36, 37, 38] (by decide +kernel) (by decide +kernel)
set_option maxRecDepth 20000 in
theorem gX8_plainMark_X8_begins : GoodIn wsX8_plainMark (wsV RX8 259 RX8 yX8_begins wsX8_begins) := goodIn_app (goodIn_of _ (by decide +kernel)) ggX8_plainMark_X8_begins
theorem dX8_plainMark_0 : decode cX8_plainMark 0 = .ok (.aload_n 0, 1) := by decide +kernel
theorem dX8_plainMark_1 : decode cX8_plainMark 1 = .ok (.iload_n 1, 1) := by decide +kernel
theorem dX8_plainMark_2 : decode cX8_plainMark 2 = .ok (.invokevirtual 253, 3) := by decide +kernel
theorem dX8_plainMark_5 : decode cX8_plainMark 5 = .ok (.istore_n 2, 1) := by decide +kernel
theorem dX8_plainMark_6 : decode cX8_plainMark 6 = .ok (.iload_n 2, 1) := by decide +kernel
theorem dX8_plainMark_7 : decode cX8_plainMark 7 = .ok (.iconst 1, 1) := by decide +kernel
theorem dX8_plainMark_8 : decode cX8_plainMark 8 = .ok (.if_icmp .eq 19, 3) := by decide +kernel
theorem dX8_plainMark_11 : decode cX8_plainMark 11 = .ok (.aload_n 0, 1) := by decide +kernel
theorem dX8_plainMark_12 : decode cX8_plainMark 12 = .ok (.iload_n 2, 1) := by decide +kernel
theorem dX8_plainMark_13 : decode cX8_plainMark 13 = .ok (.iconst 2, 1) := by decide +kernel
theorem dX8_plainMark_14 : decode cX8_plainMark 14 = .ok (.if_icmp .ne 8, 3) := by decide +kernel
theorem dX8_plainMark_17 : decode cX8_plainMark 17 = .ok (.bipush 24, 2) := by decide +kernel
theorem dX8_plainMark_19 : decode cX8_plainMark 19 = .ok (.goto 5, 3) := by decide +kernel
theorem dX8_plainMark_22 : decode cX8_plainMark 22 = .ok (.bipush 22, 2) := by decide +kernel
theorem dX8_plainMark_24 : decode cX8_plainMark 24 = .ok (.invokevirtual 259, 3) := by decide +kernel
theorem dX8_plainMark_27 : decode cX8_plainMark 27 = .ok (.aload_n 0, 1) := by decide +kernel
theorem dX8_plainMark_28 : decode cX8_plainMark 28 = .ok (.bipush 21, 2) := by decide +kernel
theorem dX8_plainMark_30 : decode cX8_plainMark 30 = .ok (.invokevirtual 259, 3) := by decide +kernel
theorem dX8_plainMark_33 : decode cX8_plainMark 33 = .ok (.aload_n 0, 1) := by decide +kernel
theorem dX8_plainMark_34 : decode cX8_plainMark 34 = .ok (.bipush 20, 2) := by decide +kernel
theorem dX8_plainMark_36 : decode cX8_plainMark 36 = .ok (.invokevirtual 259, 3) := by decide +kernel
theorem dX8_plainMark_39 : decode cX8_plainMark 39 = .ok (.iload_n 1, 1) := by decide +kernel
theorem dX8_plainMark_40 : decode cX8_plainMark 40 = .ok (.aload_n 0, 1) := by decide +kernel
theorem dX8_plainMark_41 : decode cX8_plainMark 41 = .ok (.getfield 25, 3) := by decide +kernel
theorem dX8_plainMark_44 : decode cX8_plainMark 44 = .ok (.iconst 2, 1) := by decide +kernel
theorem dX8_plainMark_45 : decode cX8_plainMark 45 = .ok (.iconst 4, 1) := by decide +kernel
theorem dX8_plainMark_46 : decode cX8_plainMark 46 = .ok (.iload_n 1, 1) := by decide +kernel
theorem dX8_plainMark_47 : decode cX8_plainMark 47 = .ok (.imul, 1) := by decide +kernel
theorem dX8_plainMark_48 : decode cX8_plainMark 48 = .ok (.iadd, 1) := by decide +kernel
theorem dX8_plainMark_49 : decode cX8_plainMark 49 = .ok (.iconst 3, 1) := by decide +kernel
theorem dX8_plainMark_50 : decode cX8_plainMark 50 = .ok (.iadd, 1) := by decide +kernel
theorem dX8_plainMark_51 : decode cX8_plainMark 51 = .ok (.iaload, 1) := by decide +kernel
theorem dX8_plainMark_52 : decode cX8_plainMark 52 = .ok (.iadd, 1) := by decide +kernel
theorem dX8_plainMark_53 : decode cX8_plainMark 53 = .ok (.istore_n 3, 1) := by decide +kernel
theorem dX8_plainMark_54 : decode cX8_plainMark 54 = .ok (.iload_n 2, 1) := by decide +kernel
theorem dX8_plainMark_55 : decode cX8_plainMark 55 = .ok (.iconst 2, 1) := by decide +kernel
theorem dX8_plainMark_56 : decode cX8_plainMark 56 = .ok (.if_icmp .ne 9, 3) := by decide +kernel
theorem dX8_plainMark_59 : decode cX8_plainMark 59 = .ok (.iconst 2, 1) := by decide +kernel
theorem dX8_plainMark_60 : decode cX8_plainMark 60 = .ok (.iload_n 3, 1) := by decide +kernel
theorem dX8_plainMark_61 : decode cX8_plainMark 61 = .ok (.imul, 1) := by decide +kernel
theorem dX8_plainMark_62 : decode cX8_plainMark 62 = .ok (.goto 17, 3) := by decide +kernel
theorem dX8_plainMark_65 : decode cX8_plainMark 65 = .ok (.iload_n 2, 1) := by decide +kernel
theorem dX8_plainMark_66 : decode cX8_plainMark 66 = .ok (.iconst 3, 1) := by decide +kernel
theorem dX8_plainMark_67 : decode cX8_plainMark 67 = .ok (.if_icmp .ne 11, 3) := by decide +kernel
theorem dX8_plainMark_70 : decode cX8_plainMark 70 = .ok (.iload_n 3, 1) := by decide +kernel
theorem dX8_plainMark_71 : decode cX8_plainMark 71 = .ok (.sipush 1000, 3) := by decide +kernel
theorem dX8_plainMark_74 : decode cX8_plainMark 74 = .ok (.isub, 1) := by decide +kernel
theorem dX8_plainMark_75 : decode cX8_plainMark 75 = .ok (.goto 4, 3) := by decide +kernel
theorem dX8_plainMark_78 : decode cX8_plainMark 78 = .ok (.iload_n 3, 1) := by decide +kernel
theorem dX8_plainMark_79 : decode cX8_plainMark 79 = .ok (.ireturn, 1) := by decide +kernel
def rmX8_plainMark : Room := { frames := 1, cells := 0, slots := 0, locals := 21 }
def jnX8_plainMark_27 (o0 : Nat) (x1 : Int32) (r4 : Int32) (Q : Int32 → zM → Prop) (M7 : zM) : Prop :=
    wX8_begins M7 o0 (21 : Int32) (fun M8 =>
    wX8_begins M8 o0 (20 : Int32) (fun M9 =>
    ∀ x10 : Int32, x10 = (((2 : Int32) + ((4 : Int32) * x1)) + (3 : Int32)) →
    vp_in x10 50 ∧
    ((¬ r4 = (2 : Int32)) → (
    ((¬ r4 = (3 : Int32)) → (
    Q (x1 + (M9 (o0 + 6) x10.toNatClampNeg)) M9)) ∧
    ((r4 = (3 : Int32)) → (
    ∀ x11 : Int32, x11 = ((x1 + (M9 (o0 + 6) x10.toNatClampNeg)) - (1000 : Int32)) →
    Q x11 M9)))) ∧
    ((r4 = (2 : Int32)) → (
    ∀ x12 : Int32, x12 = ((2 : Int32) * (x1 + (M9 (o0 + 6) x10.toNatClampNeg))) →
    Q x12 M9))))
def wX8_plainMark (M : zM) (o0 : Nat) (x1 : Int32) (Q : Int32 → zM → Prop) : Prop :=
    wX8_kindIn M o0 x1 (fun r4 =>
    ((r4 = (1 : Int32)) → (
    jnX8_plainMark_27 o0 x1 r4 Q M)) ∧
    ((¬ r4 = (1 : Int32)) → (
    ((¬ r4 = (2 : Int32)) → (
    wX8_begins M o0 (22 : Int32) (fun M13 =>
    jnX8_plainMark_27 o0 x1 r4 Q M13))) ∧
    ((r4 = (2 : Int32)) → (
    wX8_begins M o0 (24 : Int32) (fun M14 =>
    jnX8_plainMark_27 o0 x1 r4 Q M14))))))
set_option maxHeartbeats 4000000 in
set_option maxRecDepth 100000 in
theorem kX8_plainMark {l : Launch} {D : va_G} {Y : zY} {ad kd : Nat → Nat} {RL : List Nat} {M : zM} {J : zL} {o0 : Nat} {x1 : Int32} (h_o0 : kd o0 = 8) {Q : Int32 → zM → Prop} (hq : wX8_plainMark M o0 x1 Q) : zCi l yX8_plainMark wsX8_plainMark rmX8_plainMark [.ref (ad o0), .int x1] D Y ad kd RL M J (fun r M' J' => Q r M' ∧ J = J') := by
  refine z_meti (cc := cX8_plainMark) (maxL := 4) (ret := (some .int)) (by decide) rfl (Nat.le_of_ble_eq_true rfl) ?_
  intro p e s m below meth c ls A ar QE hQE hx hb hr hml hown hts hlk hw hl
  have hown : s.vm.findClass RX8 = some m.cls := hown
  have hl : lv_has ls 4 [(0, .ref (ad o0)), (1, .int x1)] := hl
  have hC := hw.2.2.2.2.2.1
  have g8 : ∀ w ∈ wsX80, w.before ar s = true := (fun w h => hts w (List.mem_cons_of_mem _ (List.mem_append_right _ h)))
  have q1 := hts _ (List.mem_of_getElem? (i := 1) rfl)
  unfold wX8_plainMark at hq
  refine lv_aload_n hx hb dX8_plainMark_0 rfl (lv_at hl 0 rfl) ?_
  refine lv_iload_n hx hb dX8_plainMark_1 rfl (lv_at hl 1 rfl) ?_
  refine z_cvi ⟨hx, hb, hml, hown, hts⟩ hw h_o0 (kX8_kindIn h_o0 hq) (by decide) rfl (cwV 1 hts gX8_plainMark_X8_kindIn rfl rfl rfl (by decide +kernel) ⟨Nat.le_of_ble_eq_true rfl, Nat.le_of_ble_eq_true rfl⟩) rfl hl.1 rfl (Nat.le_of_ble_eq_true rfl) dX8_plainMark_2 ⟨Nat.zero_le _, Nat.zero_le _⟩ (fun r4 M0 J0 H locs hq hw => ?_)
  obtain ⟨hq, rfl, rfl⟩ := hq
  refine lv_istore_n (lv' := [(2, .int r4), (0, .ref (ad o0)), (1, .int x1)]) hx hb dX8_plainMark_5 rfl hl (by decide) rfl (fun ls hl => ?_)
  refine lv_iload_n hx hb dX8_plainMark_6 rfl (lv_at hl 0 rfl) ?_
  refine lv_iconst (v := (1 : Int32)) hx hb dX8_plainMark_7 (by decide) ?_
  have jn27 : ∀ (M7 : zM) (H : Heap) (locs : List Loc) (ls : Array Slot), jnX8_plainMark_27 o0 x1 r4 Q M7 → zH D Y ad kd RL M7 J A s.heap H locs s → lv_has ls 4 [(0, .ref (ad o0)), (1, .int x1), (2, .int r4)] → W p l e rmX8_plainMark s m ar below meth c H locs 0 0 QE (F0 m 27 ls []) := by
    intro M7 H locs ls hq hw hl
    unfold jnX8_plainMark_27 at hq
    refine lv_aload_n hx hb dX8_plainMark_27 rfl (lv_at hl 0 rfl) ?_
    refine lv_bipush (v := (21 : Int32)) hx hb dX8_plainMark_28 (by decide) ?_
    refine z_cvv ⟨hx, hb, hml, hown, hts⟩ hw h_o0 (kX8_begins h_o0 hq) (by decide) rfl (cwV 1 hts gX8_plainMark_X8_begins rfl rfl rfl (by decide +kernel) ⟨Nat.le_of_ble_eq_true rfl, Nat.le_of_ble_eq_true rfl⟩) rfl hl.1 rfl (Nat.le_of_ble_eq_true rfl) dX8_plainMark_30 ⟨Nat.zero_le _, Nat.zero_le _⟩ (fun M8 J0 H locs hq hw => ?_)
    obtain ⟨hq, rfl⟩ := hq
    refine lv_aload_n hx hb dX8_plainMark_33 rfl (lv_at hl 0 rfl) ?_
    refine lv_bipush (v := (20 : Int32)) hx hb dX8_plainMark_34 (by decide) ?_
    refine z_cvv ⟨hx, hb, hml, hown, hts⟩ hw h_o0 (kX8_begins h_o0 hq) (by decide) rfl (cwV 1 hts gX8_plainMark_X8_begins rfl rfl rfl (by decide +kernel) ⟨Nat.le_of_ble_eq_true rfl, Nat.le_of_ble_eq_true rfl⟩) rfl hl.1 rfl (Nat.le_of_ble_eq_true rfl) dX8_plainMark_36 ⟨Nat.zero_le _, Nat.zero_le _⟩ (fun M9 J0 H locs hq hw => ?_)
    obtain ⟨hq, rfl⟩ := hq
    refine lv_iload_n hx hb dX8_plainMark_39 rfl (lv_at hl 1 rfl) ?_
    refine lv_aload_n hx hb dX8_plainMark_40 rfl (lv_at hl 0 rfl) ?_
    refine zg8_now hx hb g8 hown hw h_o0 q1 dX8_plainMark_41 ?_
    refine lv_iconst (v := (2 : Int32)) hx hb dX8_plainMark_44 (by decide) ?_
    refine lv_iconst (v := (4 : Int32)) hx hb dX8_plainMark_45 (by decide) ?_
    refine lv_iload_n hx hb dX8_plainMark_46 rfl (lv_at hl 1 rfl) ?_
    refine lv_imul hx hb dX8_plainMark_47 ?_
    refine lv_iadd hx hb dX8_plainMark_48 ?_
    refine lv_iconst (v := (3 : Int32)) hx hb dX8_plainMark_49 (by decide) ?_
    refine lv_iadd hx hb dX8_plainMark_50 ?_
    refine lv_topi (fun x10 e_x10 => ?_)
    have hq := hq x10 e_x10
    obtain ⟨hi, hq⟩ := hq
    refine z_iald (n := 50) hx hb hw (zk_8_6 hC h_o0) hi dX8_plainMark_51 ?_
    refine lv_iadd hx hb dX8_plainMark_52 ?_
    refine lv_istore_n (lv' := [(3, .int (x1 + (M9 (o0 + 6) x10.toNatClampNeg))), (0, .ref (ad o0)), (1, .int x1), (2, .int r4)]) hx hb dX8_plainMark_53 rfl hl (by decide) rfl (fun ls hl => ?_)
    refine lv_iload_n hx hb dX8_plainMark_54 rfl (lv_at hl 3 rfl) ?_
    refine lv_iconst (v := (2 : Int32)) hx hb dX8_plainMark_55 (by decide) ?_
    refine lv_icmp_ne (tgt := 65) hx hb dX8_plainMark_56 (by decide) (fun hc => ?_) (fun hc => ?_)
    · have hq := hq.1 hc
      refine lv_iload_n hx hb dX8_plainMark_65 rfl (lv_at hl 3 rfl) ?_
      refine lv_iconst (v := (3 : Int32)) hx hb dX8_plainMark_66 (by decide) ?_
      refine lv_icmp_ne (tgt := 78) hx hb dX8_plainMark_67 (by decide) (fun hc => ?_) (fun hc => ?_)
      · have hq := hq.1 hc
        refine lv_iload_n hx hb dX8_plainMark_78 rfl (lv_at hl 0 rfl) ?_
        exact z_iret hQE hx hb hr hlk hw dX8_plainMark_79 ⟨hq, rfl⟩
      · have hq := hq.2 hc
        refine lv_iload_n hx hb dX8_plainMark_70 rfl (lv_at hl 0 rfl) ?_
        refine lv_sipush (v := (1000 : Int32)) hx hb dX8_plainMark_71 (by decide) ?_
        refine lv_isub hx hb dX8_plainMark_74 ?_
        refine lv_topi (fun x11 e_x11 => ?_)
        have hq := hq x11 e_x11
        refine lv_goto (tgt := 79) hx hb dX8_plainMark_75 (by decide) ?_
        exact z_iret hQE hx hb hr hlk hw dX8_plainMark_79 ⟨hq, rfl⟩
    · have hq := hq.2 hc
      refine lv_iconst (v := (2 : Int32)) hx hb dX8_plainMark_59 (by decide) ?_
      refine lv_iload_n hx hb dX8_plainMark_60 rfl (lv_at hl 0 rfl) ?_
      refine lv_imul hx hb dX8_plainMark_61 ?_
      refine lv_topi (fun x12 e_x12 => ?_)
      have hq := hq x12 e_x12
      refine lv_goto (tgt := 79) hx hb dX8_plainMark_62 (by decide) ?_
      exact z_iret hQE hx hb hr hlk hw dX8_plainMark_79 ⟨hq, rfl⟩
  refine lv_icmp_eq (tgt := 27) hx hb dX8_plainMark_8 (by decide) (fun hc => ?_) (fun hc => ?_)
  · have hq := hq.1 hc
    exact jn27 M _ _ _ hq hw (lv_sub hl [1, 2, 0] rfl)
  · have hq := hq.2 hc
    refine lv_aload_n hx hb dX8_plainMark_11 rfl (lv_at hl 1 rfl) ?_
    refine lv_iload_n hx hb dX8_plainMark_12 rfl (lv_at hl 0 rfl) ?_
    refine lv_iconst (v := (2 : Int32)) hx hb dX8_plainMark_13 (by decide) ?_
    refine lv_icmp_ne (tgt := 22) hx hb dX8_plainMark_14 (by decide) (fun hc => ?_) (fun hc => ?_)
    · have hq := hq.1 hc
      refine lv_bipush (v := (22 : Int32)) hx hb dX8_plainMark_22 (by decide) ?_
      refine z_cvv ⟨hx, hb, hml, hown, hts⟩ hw h_o0 (kX8_begins h_o0 hq) (by decide) rfl (cwV 1 hts gX8_plainMark_X8_begins rfl rfl rfl (by decide +kernel) ⟨Nat.le_of_ble_eq_true rfl, Nat.le_of_ble_eq_true rfl⟩) rfl hl.1 rfl (Nat.le_of_ble_eq_true rfl) dX8_plainMark_24 ⟨Nat.zero_le _, Nat.zero_le _⟩ (fun M13 J0 H locs hq hw => ?_)
      obtain ⟨hq, rfl⟩ := hq
      exact jn27 M13 _ _ _ hq hw (lv_sub hl [1, 2, 0] rfl)
    · have hq := hq.2 hc
      refine lv_bipush (v := (24 : Int32)) hx hb dX8_plainMark_17 (by decide) ?_
      refine lv_goto (tgt := 24) hx hb dX8_plainMark_19 (by decide) ?_
      refine z_cvv ⟨hx, hb, hml, hown, hts⟩ hw h_o0 (kX8_begins h_o0 hq) (by decide) rfl (cwV 1 hts gX8_plainMark_X8_begins rfl rfl rfl (by decide +kernel) ⟨Nat.le_of_ble_eq_true rfl, Nat.le_of_ble_eq_true rfl⟩) rfl hl.1 rfl (Nat.le_of_ble_eq_true rfl) dX8_plainMark_24 ⟨Nat.zero_le _, Nat.zero_le _⟩ (fun M14 J0 H locs hq hw => ?_)
      obtain ⟨hq, rfl⟩ := hq
      exact jn27 M14 _ _ _ hq hw (lv_sub hl [1, 2, 0] rfl)
set_option maxRecDepth 20000 in
theorem ggX8_bridgeSize_X8_kindIn : GoodIn wsX8_bridgeSize wsX8_kindIn := goodIn_r _ [6, 1, 22, 23, 24, 25, 26, 27, 28, 29, 30, 31, 32, 33, 34, 35, 36, 37, 38, 39, 40, 41, 42, 43, 44, 45, 46, 47] (by decide +kernel) (by decide +kernel)
set_option maxRecDepth 20000 in
theorem gX8_bridgeSize_X8_kindIn : GoodIn wsX8_bridgeSize (wsV RX8 253 RX8 yX8_kindIn wsX8_kindIn) := goodIn_app (goodIn_of _ (by decide +kernel)) ggX8_bridgeSize_X8_kindIn
set_option maxRecDepth 20000 in
theorem ggX8_bridgeSize_X8_begins : GoodIn wsX8_bridgeSize wsX8_begins := goodIn_r _ [10, 11, 12, 22, 23, 24, 25, 26, 27, 28, 29, 30, 31, 32, 33, 34, 35, 36, 37, 38, 39, 40, 41, 42, 43, 44, 45, 46, 47] (by decide +kernel) (by decide +kernel)
set_option maxRecDepth 20000 in
theorem gX8_bridgeSize_X8_begins : GoodIn wsX8_bridgeSize (wsV RX8 259 RX8 yX8_begins wsX8_begins) := goodIn_app (goodIn_of _ (by decide +kernel)) ggX8_bridgeSize_X8_begins
set_option maxRecDepth 20000 in
theorem ggX8_bridgeSize_X8_nowOf : GoodIn wsX8_bridgeSize wsX8_nowOf := goodIn_r _ [15, 16, 17, 5, 18, 19, 20, 21] (by decide +kernel) (by decide +kernel)
set_option maxRecDepth 20000 in
theorem gX8_bridgeSize_X8_nowOf : GoodIn wsX8_bridgeSize (va_wsS RX8 150 yX8_nowOf wsX8_nowOf) := goodIn_app (goodIn_of _ (by decide +kernel)) ggX8_bridgeSize_X8_nowOf
theorem dX8_bridgeSize_0 : decode cX8_bridgeSize 0 = .ok (.aload_n 0, 1) := by decide +kernel
theorem dX8_bridgeSize_1 : decode cX8_bridgeSize 1 = .ok (.iload_n 1, 1) := by decide +kernel
theorem dX8_bridgeSize_2 : decode cX8_bridgeSize 2 = .ok (.invokevirtual 253, 3) := by decide +kernel
theorem dX8_bridgeSize_5 : decode cX8_bridgeSize 5 = .ok (.iconst 5, 1) := by decide +kernel
theorem dX8_bridgeSize_6 : decode cX8_bridgeSize 6 = .ok (.if_icmp .ne 7, 3) := by decide +kernel
theorem dX8_bridgeSize_9 : decode cX8_bridgeSize 9 = .ok (.iconst 1, 1) := by decide +kernel
theorem dX8_bridgeSize_10 : decode cX8_bridgeSize 10 = .ok (.goto 4, 3) := by decide +kernel
theorem dX8_bridgeSize_13 : decode cX8_bridgeSize 13 = .ok (.iconst 0, 1) := by decide +kernel
theorem dX8_bridgeSize_14 : decode cX8_bridgeSize 14 = .ok (.istore_n 2, 1) := by decide +kernel
theorem dX8_bridgeSize_15 : decode cX8_bridgeSize 15 = .ok (.iload_n 2, 1) := by decide +kernel
theorem dX8_bridgeSize_16 : decode cX8_bridgeSize 16 = .ok (.ifCond .eq 9, 3) := by decide +kernel
theorem dX8_bridgeSize_19 : decode cX8_bridgeSize 19 = .ok (.aload_n 0, 1) := by decide +kernel
theorem dX8_bridgeSize_20 : decode cX8_bridgeSize 20 = .ok (.bipush 14, 2) := by decide +kernel
theorem dX8_bridgeSize_22 : decode cX8_bridgeSize 22 = .ok (.invokevirtual 259, 3) := by decide +kernel
theorem dX8_bridgeSize_25 : decode cX8_bridgeSize 25 = .ok (.aload_n 0, 1) := by decide +kernel
theorem dX8_bridgeSize_26 : decode cX8_bridgeSize 26 = .ok (.bipush 13, 2) := by decide +kernel
theorem dX8_bridgeSize_28 : decode cX8_bridgeSize 28 = .ok (.invokevirtual 259, 3) := by decide +kernel
theorem dX8_bridgeSize_31 : decode cX8_bridgeSize 31 = .ok (.aload_n 0, 1) := by decide +kernel
theorem dX8_bridgeSize_32 : decode cX8_bridgeSize 32 = .ok (.bipush 10, 2) := by decide +kernel
theorem dX8_bridgeSize_34 : decode cX8_bridgeSize 34 = .ok (.invokevirtual 259, 3) := by decide +kernel
theorem dX8_bridgeSize_37 : decode cX8_bridgeSize 37 = .ok (.aload_n 0, 1) := by decide +kernel
theorem dX8_bridgeSize_38 : decode cX8_bridgeSize 38 = .ok (.getfield 25, 3) := by decide +kernel
theorem dX8_bridgeSize_41 : decode cX8_bridgeSize 41 = .ok (.iload_n 1, 1) := by decide +kernel
theorem dX8_bridgeSize_42 : decode cX8_bridgeSize 42 = .ok (.invokestatic 150, 3) := by decide +kernel
theorem dX8_bridgeSize_45 : decode cX8_bridgeSize 45 = .ok (.bipush 100, 2) := by decide +kernel
theorem dX8_bridgeSize_47 : decode cX8_bridgeSize 47 = .ok (.isub, 1) := by decide +kernel
theorem dX8_bridgeSize_48 : decode cX8_bridgeSize 48 = .ok (.istore_n 3, 1) := by decide +kernel
theorem dX8_bridgeSize_49 : decode cX8_bridgeSize 49 = .ok (.iload_n 2, 1) := by decide +kernel
theorem dX8_bridgeSize_50 : decode cX8_bridgeSize 50 = .ok (.ifCond .eq 9, 3) := by decide +kernel
theorem dX8_bridgeSize_53 : decode cX8_bridgeSize 53 = .ok (.iconst 2, 1) := by decide +kernel
theorem dX8_bridgeSize_54 : decode cX8_bridgeSize 54 = .ok (.iload_n 3, 1) := by decide +kernel
theorem dX8_bridgeSize_55 : decode cX8_bridgeSize 55 = .ok (.imul, 1) := by decide +kernel
theorem dX8_bridgeSize_56 : decode cX8_bridgeSize 56 = .ok (.goto 4, 3) := by decide +kernel
theorem dX8_bridgeSize_59 : decode cX8_bridgeSize 59 = .ok (.iload_n 3, 1) := by decide +kernel
theorem dX8_bridgeSize_60 : decode cX8_bridgeSize 60 = .ok (.ireturn, 1) := by decide +kernel
def rmX8_bridgeSize : Room := { frames := 3, cells := 0, slots := 0, locals := 64 }
def jnX8_bridgeSize_25 (o0 : Nat) (x1 : Int32) (x5 : Int32) (Q : Int32 → zM → Prop) (M7 : zM) : Prop :=
    wX8_begins M7 o0 (13 : Int32) (fun M8 =>
    wX8_begins M8 o0 (10 : Int32) (fun M9 =>
    wX8_nowOf M9 (o0 + 6) 50 x1 (fun r10 =>
    ((x5 = 0) → (
    Q (r10 - (100 : Int32)) M9)) ∧
    ((¬ x5 = 0) → (
    Q ((2 : Int32) * (r10 - (100 : Int32))) M9)))))
def jnX8_bridgeSize_14 (M : zM) (o0 : Nat) (x1 : Int32) (Q : Int32 → zM → Prop) (x5 : Int32) : Prop :=
    ((x5 = 0) → (
    jnX8_bridgeSize_25 o0 x1 x5 Q M)) ∧
    ((¬ x5 = 0) → (
    wX8_begins M o0 (14 : Int32) (fun M11 =>
    jnX8_bridgeSize_25 o0 x1 x5 Q M11)))
def wX8_bridgeSize (M : zM) (o0 : Nat) (x1 : Int32) (Q : Int32 → zM → Prop) : Prop :=
    wX8_kindIn M o0 x1 (fun r4 =>
    ((¬ r4 = (5 : Int32)) → (
    jnX8_bridgeSize_14 M o0 x1 Q (0 : Int32))) ∧
    ((r4 = (5 : Int32)) → (
    jnX8_bridgeSize_14 M o0 x1 Q (1 : Int32))))
set_option maxHeartbeats 4000000 in
set_option maxRecDepth 100000 in
theorem kX8_bridgeSize {l : Launch} {D : va_G} {Y : zY} {ad kd : Nat → Nat} {RL : List Nat} {M : zM} {J : zL} {o0 : Nat} {x1 : Int32} (h_o0 : kd o0 = 8) {Q : Int32 → zM → Prop} (hq : wX8_bridgeSize M o0 x1 Q) : zCi l yX8_bridgeSize wsX8_bridgeSize rmX8_bridgeSize [.ref (ad o0), .int x1] D Y ad kd RL M J (fun r M' J' => Q r M' ∧ J = J') := by
  refine z_meti (cc := cX8_bridgeSize) (maxL := 4) (ret := (some .int)) (by decide) rfl (Nat.le_of_ble_eq_true rfl) ?_
  intro p e s m below meth c ls A ar QE hQE hx hb hr hml hown hts hlk hw hl
  have hown : s.vm.findClass RX8 = some m.cls := hown
  have hl : lv_has ls 4 [(0, .ref (ad o0)), (1, .int x1)] := hl
  have hC := hw.2.2.2.2.2.1
  have g8 : ∀ w ∈ wsX80, w.before ar s = true := (fun w h => hts w (List.mem_cons_of_mem _ (List.mem_append_right _ h)))
  have q1 := hts _ (List.mem_of_getElem? (i := 1) rfl)
  unfold wX8_bridgeSize at hq
  refine lv_aload_n hx hb dX8_bridgeSize_0 rfl (lv_at hl 0 rfl) ?_
  refine lv_iload_n hx hb dX8_bridgeSize_1 rfl (lv_at hl 1 rfl) ?_
  refine z_cvi ⟨hx, hb, hml, hown, hts⟩ hw h_o0 (kX8_kindIn h_o0 hq) (by decide) rfl (cwV 1 hts gX8_bridgeSize_X8_kindIn rfl rfl rfl (by decide +kernel) ⟨Nat.le_of_ble_eq_true rfl, Nat.le_of_ble_eq_true rfl⟩) rfl hl.1 rfl (Nat.le_of_ble_eq_true rfl) dX8_bridgeSize_2 ⟨Nat.zero_le _, Nat.zero_le _⟩ (fun r4 M0 J0 H locs hq hw => ?_)
  obtain ⟨hq, rfl, rfl⟩ := hq
  refine lv_iconst (v := (5 : Int32)) hx hb dX8_bridgeSize_5 (by decide) ?_
  have jn14 : ∀ (x5 : Int32) (H : Heap) (locs : List Loc) (ls : Array Slot), jnX8_bridgeSize_14 M o0 x1 Q x5 → zH D Y ad kd RL M J A s.heap H locs s → lv_has ls 4 [(0, .ref (ad o0)), (1, .int x1)] → W p l e rmX8_bridgeSize s m ar below meth c H locs 0 0 QE (F0 m 14 ls [.int x5]) := by
    intro x5 H locs ls hq hw hl
    unfold jnX8_bridgeSize_14 at hq
    refine lv_istore_n (lv' := [(2, .int x5), (0, .ref (ad o0)), (1, .int x1)]) hx hb dX8_bridgeSize_14 rfl hl (by decide) rfl (fun ls hl => ?_)
    refine lv_iload_n hx hb dX8_bridgeSize_15 rfl (lv_at hl 0 rfl) ?_
    have jn25 : ∀ (M7 : zM) (H : Heap) (locs : List Loc) (ls : Array Slot), jnX8_bridgeSize_25 o0 x1 x5 Q M7 → zH D Y ad kd RL M7 J A s.heap H locs s → lv_has ls 4 [(0, .ref (ad o0)), (1, .int x1), (2, .int x5)] → W p l e rmX8_bridgeSize s m ar below meth c H locs 0 0 QE (F0 m 25 ls []) := by
      intro M7 H locs ls hq hw hl
      unfold jnX8_bridgeSize_25 at hq
      refine lv_aload_n hx hb dX8_bridgeSize_25 rfl (lv_at hl 0 rfl) ?_
      refine lv_bipush (v := (13 : Int32)) hx hb dX8_bridgeSize_26 (by decide) ?_
      refine z_cvv ⟨hx, hb, hml, hown, hts⟩ hw h_o0 (kX8_begins h_o0 hq) (by decide) rfl (cwV 1 hts gX8_bridgeSize_X8_begins rfl rfl rfl (by decide +kernel) ⟨Nat.le_of_ble_eq_true rfl, Nat.le_of_ble_eq_true rfl⟩) rfl hl.1 rfl (Nat.le_of_ble_eq_true rfl) dX8_bridgeSize_28 ⟨Nat.zero_le _, Nat.zero_le _⟩ (fun M8 J0 H locs hq hw => ?_)
      obtain ⟨hq, rfl⟩ := hq
      refine lv_aload_n hx hb dX8_bridgeSize_31 rfl (lv_at hl 0 rfl) ?_
      refine lv_bipush (v := (10 : Int32)) hx hb dX8_bridgeSize_32 (by decide) ?_
      refine z_cvv ⟨hx, hb, hml, hown, hts⟩ hw h_o0 (kX8_begins h_o0 hq) (by decide) rfl (cwV 1 hts gX8_bridgeSize_X8_begins rfl rfl rfl (by decide +kernel) ⟨Nat.le_of_ble_eq_true rfl, Nat.le_of_ble_eq_true rfl⟩) rfl hl.1 rfl (Nat.le_of_ble_eq_true rfl) dX8_bridgeSize_34 ⟨Nat.zero_le _, Nat.zero_le _⟩ (fun M9 J0 H locs hq hw => ?_)
      obtain ⟨hq, rfl⟩ := hq
      refine lv_aload_n hx hb dX8_bridgeSize_37 rfl (lv_at hl 0 rfl) ?_
      refine zg8_now hx hb g8 hown hw h_o0 q1 dX8_bridgeSize_38 ?_
      refine lv_iload_n hx hb dX8_bridgeSize_41 rfl (lv_at hl 1 rfl) ?_
      refine z_csi ⟨hx, hb, hml, hown, hts⟩ hw (kX8_nowOf (zk_8_6 hC h_o0) hq) (va_cwS 2 hts gX8_bridgeSize_X8_nowOf rfl rfl rfl (by decide +kernel) ⟨Nat.le_of_ble_eq_true rfl, Nat.le_of_ble_eq_true rfl⟩) rfl hl.1 rfl (Nat.le_of_ble_eq_true rfl) dX8_bridgeSize_42 ⟨Nat.zero_le _, Nat.zero_le _⟩ (fun r10 M0 J0 H locs hq hw => ?_)
      obtain ⟨hq, rfl, rfl⟩ := hq
      refine lv_bipush (v := (100 : Int32)) hx hb dX8_bridgeSize_45 (by decide) ?_
      refine lv_isub hx hb dX8_bridgeSize_47 ?_
      refine lv_istore_n (lv' := [(3, .int (r10 - (100 : Int32))), (0, .ref (ad o0)), (1, .int x1), (2, .int x5)]) hx hb dX8_bridgeSize_48 rfl hl (by decide) rfl (fun ls hl => ?_)
      refine lv_iload_n hx hb dX8_bridgeSize_49 rfl (lv_at hl 3 rfl) ?_
      refine lv_if_eq (tgt := 59) hx hb dX8_bridgeSize_50 (by decide) (fun hc => ?_) (fun hc => ?_)
      · have hq := hq.1 hc
        refine lv_iload_n hx hb dX8_bridgeSize_59 rfl (lv_at hl 0 rfl) ?_
        exact z_iret hQE hx hb hr hlk hw dX8_bridgeSize_60 ⟨hq, rfl⟩
      · have hq := hq.2 hc
        refine lv_iconst (v := (2 : Int32)) hx hb dX8_bridgeSize_53 (by decide) ?_
        refine lv_iload_n hx hb dX8_bridgeSize_54 rfl (lv_at hl 0 rfl) ?_
        refine lv_imul hx hb dX8_bridgeSize_55 ?_
        refine lv_goto (tgt := 60) hx hb dX8_bridgeSize_56 (by decide) ?_
        exact z_iret hQE hx hb hr hlk hw dX8_bridgeSize_60 ⟨hq, rfl⟩
    refine lv_if_eq (tgt := 25) hx hb dX8_bridgeSize_16 (by decide) (fun hc => ?_) (fun hc => ?_)
    · have hq := hq.1 hc
      exact jn25 M _ _ _ hq hw (lv_sub hl [1, 2, 0] rfl)
    · have hq := hq.2 hc
      refine lv_aload_n hx hb dX8_bridgeSize_19 rfl (lv_at hl 1 rfl) ?_
      refine lv_bipush (v := (14 : Int32)) hx hb dX8_bridgeSize_20 (by decide) ?_
      refine z_cvv ⟨hx, hb, hml, hown, hts⟩ hw h_o0 (kX8_begins h_o0 hq) (by decide) rfl (cwV 1 hts gX8_bridgeSize_X8_begins rfl rfl rfl (by decide +kernel) ⟨Nat.le_of_ble_eq_true rfl, Nat.le_of_ble_eq_true rfl⟩) rfl hl.1 rfl (Nat.le_of_ble_eq_true rfl) dX8_bridgeSize_22 ⟨Nat.zero_le _, Nat.zero_le _⟩ (fun M11 J0 H locs hq hw => ?_)
      obtain ⟨hq, rfl⟩ := hq
      exact jn25 M11 _ _ _ hq hw (lv_sub hl [1, 2, 0] rfl)
  refine lv_icmp_ne (tgt := 13) hx hb dX8_bridgeSize_6 (by decide) (fun hc => ?_) (fun hc => ?_)
  · have hq := hq.1 hc
    refine lv_iconst (v := (0 : Int32)) hx hb dX8_bridgeSize_13 (by decide) ?_
    exact jn14 (0 : Int32) _ _ _ hq hw (lv_sub hl [0, 1] rfl)
  · have hq := hq.2 hc
    refine lv_iconst (v := (1 : Int32)) hx hb dX8_bridgeSize_9 (by decide) ?_
    refine lv_goto (tgt := 14) hx hb dX8_bridgeSize_10 (by decide) ?_
    exact jn14 (1 : Int32) _ _ _ hq hw (lv_sub hl [0, 1] rfl)
set_option maxRecDepth 20000 in
theorem ggX8_plainSize_X8_kindIn : GoodIn wsX8_plainSize wsX8_kindIn := goodIn_r _ [6, 1, 26, 27, 28, 29, 30, 31, 32, 33, 34, 35, 36, 37, 38, 39, 40, 41, 42, 43, 44, 45, 46, 47, 48, 49, 50, 51] (by decide +kernel) (by decide +kernel)
set_option maxRecDepth 20000 in
theorem gX8_plainSize_X8_kindIn : GoodIn wsX8_plainSize (wsV RX8 253 RX8 yX8_kindIn wsX8_kindIn) := goodIn_app (goodIn_of _ (by decide +kernel)) ggX8_plainSize_X8_kindIn
set_option maxRecDepth 20000 in
theorem ggX8_plainSize_X8_begins : GoodIn wsX8_plainSize wsX8_begins := goodIn_r _ [10, 11, 12, 26, 27, 28, 29, 30, 31, 32, 33, 34, 35, 36, 37, 38, 39, 40, 41, 42, 43, 44, 45, 46, 47, 48, 49, 50, 51] (by decide +kernel) (by decide +kernel)
set_option maxRecDepth 20000 in
theorem gX8_plainSize_X8_begins : GoodIn wsX8_plainSize (wsV RX8 259 RX8 yX8_begins wsX8_begins) := goodIn_app (goodIn_of _ (by decide +kernel)) ggX8_plainSize_X8_begins
set_option maxRecDepth 20000 in
theorem ggX8_plainSize_X8_nowOf : GoodIn wsX8_plainSize wsX8_nowOf := goodIn_r _ [15, 16, 17, 5, 18, 19, 20, 21] (by decide +kernel) (by decide +kernel)
set_option maxRecDepth 20000 in
theorem gX8_plainSize_X8_nowOf : GoodIn wsX8_plainSize (va_wsS RX8 150 yX8_nowOf wsX8_nowOf) := goodIn_app (goodIn_of _ (by decide +kernel)) ggX8_plainSize_X8_nowOf
set_option maxRecDepth 20000 in
theorem ggX8_plainSize_X8_plainMark : GoodIn wsX8_plainSize wsX8_plainMark := goodIn_r _ [25, 1, 2, 3, 4, 5, 6, 7, 8, 9, 10, 11, 12, 26, 27, 28, 29, 30, 31, 32, 33, 34, 35, 36, 37, 38, 39, 40, 41, 42, 43, 44, 45, 46, 47, 48, 49, 50, 51] (by decide +kernel) (by decide +kernel)
set_option maxRecDepth 20000 in
theorem gX8_plainSize_X8_plainMark : GoodIn wsX8_plainSize (wsV RX8 263 RX8 yX8_plainMark wsX8_plainMark) := goodIn_app (goodIn_of _ (by decide +kernel)) ggX8_plainSize_X8_plainMark
theorem dX8_plainSize_0 : decode cX8_plainSize 0 = .ok (.aload_n 0, 1) := by decide +kernel
theorem dX8_plainSize_1 : decode cX8_plainSize 1 = .ok (.iload_n 1, 1) := by decide +kernel
theorem dX8_plainSize_2 : decode cX8_plainSize 2 = .ok (.invokevirtual 253, 3) := by decide +kernel
theorem dX8_plainSize_5 : decode cX8_plainSize 5 = .ok (.iconst 2, 1) := by decide +kernel
theorem dX8_plainSize_6 : decode cX8_plainSize 6 = .ok (.if_icmp .ne 7, 3) := by decide +kernel
theorem dX8_plainSize_9 : decode cX8_plainSize 9 = .ok (.iconst 1, 1) := by decide +kernel
theorem dX8_plainSize_10 : decode cX8_plainSize 10 = .ok (.goto 4, 3) := by decide +kernel
theorem dX8_plainSize_13 : decode cX8_plainSize 13 = .ok (.iconst 0, 1) := by decide +kernel
theorem dX8_plainSize_14 : decode cX8_plainSize 14 = .ok (.istore_n 2, 1) := by decide +kernel
theorem dX8_plainSize_15 : decode cX8_plainSize 15 = .ok (.iload_n 2, 1) := by decide +kernel
theorem dX8_plainSize_16 : decode cX8_plainSize 16 = .ok (.ifCond .eq 9, 3) := by decide +kernel
theorem dX8_plainSize_19 : decode cX8_plainSize 19 = .ok (.aload_n 0, 1) := by decide +kernel
theorem dX8_plainSize_20 : decode cX8_plainSize 20 = .ok (.bipush 12, 2) := by decide +kernel
theorem dX8_plainSize_22 : decode cX8_plainSize 22 = .ok (.invokevirtual 259, 3) := by decide +kernel
theorem dX8_plainSize_25 : decode cX8_plainSize 25 = .ok (.aload_n 0, 1) := by decide +kernel
theorem dX8_plainSize_26 : decode cX8_plainSize 26 = .ok (.bipush 11, 2) := by decide +kernel
theorem dX8_plainSize_28 : decode cX8_plainSize 28 = .ok (.invokevirtual 259, 3) := by decide +kernel
theorem dX8_plainSize_31 : decode cX8_plainSize 31 = .ok (.aload_n 0, 1) := by decide +kernel
theorem dX8_plainSize_32 : decode cX8_plainSize 32 = .ok (.bipush 10, 2) := by decide +kernel
theorem dX8_plainSize_34 : decode cX8_plainSize 34 = .ok (.invokevirtual 259, 3) := by decide +kernel
theorem dX8_plainSize_37 : decode cX8_plainSize 37 = .ok (.aload_n 0, 1) := by decide +kernel
theorem dX8_plainSize_38 : decode cX8_plainSize 38 = .ok (.getfield 25, 3) := by decide +kernel
theorem dX8_plainSize_41 : decode cX8_plainSize 41 = .ok (.iload_n 1, 1) := by decide +kernel
theorem dX8_plainSize_42 : decode cX8_plainSize 42 = .ok (.invokestatic 150, 3) := by decide +kernel
theorem dX8_plainSize_45 : decode cX8_plainSize 45 = .ok (.aload_n 0, 1) := by decide +kernel
theorem dX8_plainSize_46 : decode cX8_plainSize 46 = .ok (.iload_n 1, 1) := by decide +kernel
theorem dX8_plainSize_47 : decode cX8_plainSize 47 = .ok (.invokevirtual 263, 3) := by decide +kernel
theorem dX8_plainSize_50 : decode cX8_plainSize 50 = .ok (.iadd, 1) := by decide +kernel
theorem dX8_plainSize_51 : decode cX8_plainSize 51 = .ok (.istore_n 3, 1) := by decide +kernel
theorem dX8_plainSize_52 : decode cX8_plainSize 52 = .ok (.iload_n 2, 1) := by decide +kernel
theorem dX8_plainSize_53 : decode cX8_plainSize 53 = .ok (.ifCond .eq 8, 3) := by decide +kernel
theorem dX8_plainSize_56 : decode cX8_plainSize 56 = .ok (.iload_n 3, 1) := by decide +kernel
theorem dX8_plainSize_57 : decode cX8_plainSize 57 = .ok (.ineg, 1) := by decide +kernel
theorem dX8_plainSize_58 : decode cX8_plainSize 58 = .ok (.goto 4, 3) := by decide +kernel
theorem dX8_plainSize_61 : decode cX8_plainSize 61 = .ok (.iload_n 3, 1) := by decide +kernel
theorem dX8_plainSize_62 : decode cX8_plainSize 62 = .ok (.ireturn, 1) := by decide +kernel
def rmX8_plainSize : Room := { frames := 3, cells := 0, slots := 0, locals := 64 }
def jnX8_plainSize_25 (o0 : Nat) (x1 : Int32) (x5 : Int32) (Q : Int32 → zM → Prop) (M7 : zM) : Prop :=
    wX8_begins M7 o0 (11 : Int32) (fun M8 =>
    wX8_begins M8 o0 (10 : Int32) (fun M9 =>
    wX8_nowOf M9 (o0 + 6) 50 x1 (fun r10 =>
    wX8_plainMark M9 o0 x1 (fun r11 M12 =>
    ((x5 = 0) → (
    Q (r10 + r11) M12)) ∧
    ((¬ x5 = 0) → (
    Q (-(r10 + r11)) M12))))))
def jnX8_plainSize_14 (M : zM) (o0 : Nat) (x1 : Int32) (Q : Int32 → zM → Prop) (x5 : Int32) : Prop :=
    ((x5 = 0) → (
    jnX8_plainSize_25 o0 x1 x5 Q M)) ∧
    ((¬ x5 = 0) → (
    wX8_begins M o0 (12 : Int32) (fun M13 =>
    jnX8_plainSize_25 o0 x1 x5 Q M13)))
def wX8_plainSize (M : zM) (o0 : Nat) (x1 : Int32) (Q : Int32 → zM → Prop) : Prop :=
    wX8_kindIn M o0 x1 (fun r4 =>
    ((¬ r4 = (2 : Int32)) → (
    jnX8_plainSize_14 M o0 x1 Q (0 : Int32))) ∧
    ((r4 = (2 : Int32)) → (
    jnX8_plainSize_14 M o0 x1 Q (1 : Int32))))
set_option maxHeartbeats 4000000 in
set_option maxRecDepth 100000 in
theorem kX8_plainSize {l : Launch} {D : va_G} {Y : zY} {ad kd : Nat → Nat} {RL : List Nat} {M : zM} {J : zL} {o0 : Nat} {x1 : Int32} (h_o0 : kd o0 = 8) {Q : Int32 → zM → Prop} (hq : wX8_plainSize M o0 x1 Q) : zCi l yX8_plainSize wsX8_plainSize rmX8_plainSize [.ref (ad o0), .int x1] D Y ad kd RL M J (fun r M' J' => Q r M' ∧ J = J') := by
  refine z_meti (cc := cX8_plainSize) (maxL := 4) (ret := (some .int)) (by decide) rfl (Nat.le_of_ble_eq_true rfl) ?_
  intro p e s m below meth c ls A ar QE hQE hx hb hr hml hown hts hlk hw hl
  have hown : s.vm.findClass RX8 = some m.cls := hown
  have hl : lv_has ls 4 [(0, .ref (ad o0)), (1, .int x1)] := hl
  have hC := hw.2.2.2.2.2.1
  have g8 : ∀ w ∈ wsX80, w.before ar s = true := (fun w h => hts w (List.mem_cons_of_mem _ (List.mem_append_right _ h)))
  have q1 := hts _ (List.mem_of_getElem? (i := 1) rfl)
  unfold wX8_plainSize at hq
  refine lv_aload_n hx hb dX8_plainSize_0 rfl (lv_at hl 0 rfl) ?_
  refine lv_iload_n hx hb dX8_plainSize_1 rfl (lv_at hl 1 rfl) ?_
  refine z_cvi ⟨hx, hb, hml, hown, hts⟩ hw h_o0 (kX8_kindIn h_o0 hq) (by decide) rfl (cwV 1 hts gX8_plainSize_X8_kindIn rfl rfl rfl (by decide +kernel) ⟨Nat.le_of_ble_eq_true rfl, Nat.le_of_ble_eq_true rfl⟩) rfl hl.1 rfl (Nat.le_of_ble_eq_true rfl) dX8_plainSize_2 ⟨Nat.zero_le _, Nat.zero_le _⟩ (fun r4 M0 J0 H locs hq hw => ?_)
  obtain ⟨hq, rfl, rfl⟩ := hq
  refine lv_iconst (v := (2 : Int32)) hx hb dX8_plainSize_5 (by decide) ?_
  have jn14 : ∀ (x5 : Int32) (H : Heap) (locs : List Loc) (ls : Array Slot), jnX8_plainSize_14 M o0 x1 Q x5 → zH D Y ad kd RL M J A s.heap H locs s → lv_has ls 4 [(0, .ref (ad o0)), (1, .int x1)] → W p l e rmX8_plainSize s m ar below meth c H locs 0 0 QE (F0 m 14 ls [.int x5]) := by
    intro x5 H locs ls hq hw hl
    unfold jnX8_plainSize_14 at hq
    refine lv_istore_n (lv' := [(2, .int x5), (0, .ref (ad o0)), (1, .int x1)]) hx hb dX8_plainSize_14 rfl hl (by decide) rfl (fun ls hl => ?_)
    refine lv_iload_n hx hb dX8_plainSize_15 rfl (lv_at hl 0 rfl) ?_
    have jn25 : ∀ (M7 : zM) (H : Heap) (locs : List Loc) (ls : Array Slot), jnX8_plainSize_25 o0 x1 x5 Q M7 → zH D Y ad kd RL M7 J A s.heap H locs s → lv_has ls 4 [(0, .ref (ad o0)), (1, .int x1), (2, .int x5)] → W p l e rmX8_plainSize s m ar below meth c H locs 0 0 QE (F0 m 25 ls []) := by
      intro M7 H locs ls hq hw hl
      unfold jnX8_plainSize_25 at hq
      refine lv_aload_n hx hb dX8_plainSize_25 rfl (lv_at hl 0 rfl) ?_
      refine lv_bipush (v := (11 : Int32)) hx hb dX8_plainSize_26 (by decide) ?_
      refine z_cvv ⟨hx, hb, hml, hown, hts⟩ hw h_o0 (kX8_begins h_o0 hq) (by decide) rfl (cwV 1 hts gX8_plainSize_X8_begins rfl rfl rfl (by decide +kernel) ⟨Nat.le_of_ble_eq_true rfl, Nat.le_of_ble_eq_true rfl⟩) rfl hl.1 rfl (Nat.le_of_ble_eq_true rfl) dX8_plainSize_28 ⟨Nat.zero_le _, Nat.zero_le _⟩ (fun M8 J0 H locs hq hw => ?_)
      obtain ⟨hq, rfl⟩ := hq
      refine lv_aload_n hx hb dX8_plainSize_31 rfl (lv_at hl 0 rfl) ?_
      refine lv_bipush (v := (10 : Int32)) hx hb dX8_plainSize_32 (by decide) ?_
      refine z_cvv ⟨hx, hb, hml, hown, hts⟩ hw h_o0 (kX8_begins h_o0 hq) (by decide) rfl (cwV 1 hts gX8_plainSize_X8_begins rfl rfl rfl (by decide +kernel) ⟨Nat.le_of_ble_eq_true rfl, Nat.le_of_ble_eq_true rfl⟩) rfl hl.1 rfl (Nat.le_of_ble_eq_true rfl) dX8_plainSize_34 ⟨Nat.zero_le _, Nat.zero_le _⟩ (fun M9 J0 H locs hq hw => ?_)
      obtain ⟨hq, rfl⟩ := hq
      refine lv_aload_n hx hb dX8_plainSize_37 rfl (lv_at hl 0 rfl) ?_
      refine zg8_now hx hb g8 hown hw h_o0 q1 dX8_plainSize_38 ?_
      refine lv_iload_n hx hb dX8_plainSize_41 rfl (lv_at hl 1 rfl) ?_
      refine z_csi ⟨hx, hb, hml, hown, hts⟩ hw (kX8_nowOf (zk_8_6 hC h_o0) hq) (va_cwS 2 hts gX8_plainSize_X8_nowOf rfl rfl rfl (by decide +kernel) ⟨Nat.le_of_ble_eq_true rfl, Nat.le_of_ble_eq_true rfl⟩) rfl hl.1 rfl (Nat.le_of_ble_eq_true rfl) dX8_plainSize_42 ⟨Nat.zero_le _, Nat.zero_le _⟩ (fun r10 M0 J0 H locs hq hw => ?_)
      obtain ⟨hq, rfl, rfl⟩ := hq
      refine lv_aload_n hx hb dX8_plainSize_45 rfl (lv_at hl 0 rfl) ?_
      refine lv_iload_n hx hb dX8_plainSize_46 rfl (lv_at hl 1 rfl) ?_
      refine z_cvi ⟨hx, hb, hml, hown, hts⟩ hw h_o0 (kX8_plainMark h_o0 hq) (by decide) rfl (cwV 1 hts gX8_plainSize_X8_plainMark rfl rfl rfl (by decide +kernel) ⟨Nat.le_of_ble_eq_true rfl, Nat.le_of_ble_eq_true rfl⟩) rfl hl.1 rfl (Nat.le_of_ble_eq_true rfl) dX8_plainSize_47 ⟨Nat.zero_le _, Nat.zero_le _⟩ (fun r11 M12 J0 H locs hq hw => ?_)
      obtain ⟨hq, rfl⟩ := hq
      refine lv_iadd hx hb dX8_plainSize_50 ?_
      refine lv_istore_n (lv' := [(3, .int (r10 + r11)), (0, .ref (ad o0)), (1, .int x1), (2, .int x5)]) hx hb dX8_plainSize_51 rfl hl (by decide) rfl (fun ls hl => ?_)
      refine lv_iload_n hx hb dX8_plainSize_52 rfl (lv_at hl 3 rfl) ?_
      refine lv_if_eq (tgt := 61) hx hb dX8_plainSize_53 (by decide) (fun hc => ?_) (fun hc => ?_)
      · have hq := hq.1 hc
        refine lv_iload_n hx hb dX8_plainSize_61 rfl (lv_at hl 0 rfl) ?_
        exact z_iret hQE hx hb hr hlk hw dX8_plainSize_62 ⟨hq, rfl⟩
      · have hq := hq.2 hc
        refine lv_iload_n hx hb dX8_plainSize_56 rfl (lv_at hl 0 rfl) ?_
        refine lv_ineg hx hb dX8_plainSize_57 ?_
        refine lv_goto (tgt := 62) hx hb dX8_plainSize_58 (by decide) ?_
        exact z_iret hQE hx hb hr hlk hw dX8_plainSize_62 ⟨hq, rfl⟩
    refine lv_if_eq (tgt := 25) hx hb dX8_plainSize_16 (by decide) (fun hc => ?_) (fun hc => ?_)
    · have hq := hq.1 hc
      exact jn25 M _ _ _ hq hw (lv_sub hl [1, 2, 0] rfl)
    · have hq := hq.2 hc
      refine lv_aload_n hx hb dX8_plainSize_19 rfl (lv_at hl 1 rfl) ?_
      refine lv_bipush (v := (12 : Int32)) hx hb dX8_plainSize_20 (by decide) ?_
      refine z_cvv ⟨hx, hb, hml, hown, hts⟩ hw h_o0 (kX8_begins h_o0 hq) (by decide) rfl (cwV 1 hts gX8_plainSize_X8_begins rfl rfl rfl (by decide +kernel) ⟨Nat.le_of_ble_eq_true rfl, Nat.le_of_ble_eq_true rfl⟩) rfl hl.1 rfl (Nat.le_of_ble_eq_true rfl) dX8_plainSize_22 ⟨Nat.zero_le _, Nat.zero_le _⟩ (fun M13 J0 H locs hq hw => ?_)
      obtain ⟨hq, rfl⟩ := hq
      exact jn25 M13 _ _ _ hq hw (lv_sub hl [1, 2, 0] rfl)
  refine lv_icmp_ne (tgt := 13) hx hb dX8_plainSize_6 (by decide) (fun hc => ?_) (fun hc => ?_)
  · have hq := hq.1 hc
    refine lv_iconst (v := (0 : Int32)) hx hb dX8_plainSize_13 (by decide) ?_
    exact jn14 (0 : Int32) _ _ _ hq hw (lv_sub hl [0, 1] rfl)
  · have hq := hq.2 hc
    refine lv_iconst (v := (1 : Int32)) hx hb dX8_plainSize_9 (by decide) ?_
    refine lv_goto (tgt := 14) hx hb dX8_plainSize_10 (by decide) ?_
    exact jn14 (1 : Int32) _ _ _ hq hw (lv_sub hl [0, 1] rfl)
set_option maxRecDepth 20000 in
theorem ggX8_bridgeMark_X8_begins : GoodIn wsX8_bridgeMark wsX8_begins := goodIn_r _ [5, 6, 7, 26, 27, 28, 29, 30, 31, 32, 33, 34, 35, 36, 37, 38, 39, 40, 41, 42, 43, 44, 45, 46, 47, 48, 49, 50, 51] (by decide +kernel) (by decide +kernel)
set_option maxRecDepth 20000 in
theorem gX8_bridgeMark_X8_begins : GoodIn wsX8_bridgeMark (wsV RX8 259 RX8 yX8_begins wsX8_begins) := goodIn_app (goodIn_of _ (by decide +kernel)) ggX8_bridgeMark_X8_begins
set_option maxRecDepth 20000 in
theorem ggX8_bridgeMark_X8_bridgeSize : GoodIn wsX8_bridgeMark wsX8_bridgeSize := goodIn_r _ [11, 12, 13, 14, 15, 4, 16, 1, 2, 3, 5, 6, 7, 17, 18, 19, 20, 21, 22, 23, 24, 25, 26, 27, 28, 29, 30, 31, 32, 33, 34, 35, 36, 37, 38, 39, 40, 41, 42, 43, 44, 45, 46, 47, 48, 49, 50, 51] (by decide +kernel) (by decide +kernel)
set_option maxRecDepth 20000 in
theorem gX8_bridgeMark_X8_bridgeSize : GoodIn wsX8_bridgeMark (wsV RX8 266 RX8 yX8_bridgeSize wsX8_bridgeSize) := goodIn_app (goodIn_of _ (by decide +kernel)) ggX8_bridgeMark_X8_bridgeSize
theorem dX8_bridgeMark_0 : decode cX8_bridgeMark 0 = .ok (.aload_n 0, 1) := by decide +kernel
theorem dX8_bridgeMark_1 : decode cX8_bridgeMark 1 = .ok (.bipush 23, 2) := by decide +kernel
theorem dX8_bridgeMark_3 : decode cX8_bridgeMark 3 = .ok (.invokevirtual 259, 3) := by decide +kernel
theorem dX8_bridgeMark_6 : decode cX8_bridgeMark 6 = .ok (.aload_n 0, 1) := by decide +kernel
theorem dX8_bridgeMark_7 : decode cX8_bridgeMark 7 = .ok (.bipush 20, 2) := by decide +kernel
theorem dX8_bridgeMark_9 : decode cX8_bridgeMark 9 = .ok (.invokevirtual 259, 3) := by decide +kernel
theorem dX8_bridgeMark_12 : decode cX8_bridgeMark 12 = .ok (.iload_n 1, 1) := by decide +kernel
theorem dX8_bridgeMark_13 : decode cX8_bridgeMark 13 = .ok (.aload_n 0, 1) := by decide +kernel
theorem dX8_bridgeMark_14 : decode cX8_bridgeMark 14 = .ok (.iload_n 1, 1) := by decide +kernel
theorem dX8_bridgeMark_15 : decode cX8_bridgeMark 15 = .ok (.invokevirtual 266, 3) := by decide +kernel
theorem dX8_bridgeMark_18 : decode cX8_bridgeMark 18 = .ok (.isub, 1) := by decide +kernel
theorem dX8_bridgeMark_19 : decode cX8_bridgeMark 19 = .ok (.ireturn, 1) := by decide +kernel
def rmX8_bridgeMark : Room := { frames := 4, cells := 0, slots := 0, locals := 87 }
def wX8_bridgeMark (M : zM) (o0 : Nat) (x1 : Int32) (Q : Int32 → zM → Prop) : Prop :=
    wX8_begins M o0 (23 : Int32) (fun M4 =>
    wX8_begins M4 o0 (20 : Int32) (fun M5 =>
    wX8_bridgeSize M5 o0 x1 (fun r6 M7 =>
    Q (x1 - r6) M7)))
set_option maxHeartbeats 4000000 in
set_option maxRecDepth 100000 in
theorem kX8_bridgeMark {l : Launch} {D : va_G} {Y : zY} {ad kd : Nat → Nat} {RL : List Nat} {M : zM} {J : zL} {o0 : Nat} {x1 : Int32} (h_o0 : kd o0 = 8) {Q : Int32 → zM → Prop} (hq : wX8_bridgeMark M o0 x1 Q) : zCi l yX8_bridgeMark wsX8_bridgeMark rmX8_bridgeMark [.ref (ad o0), .int x1] D Y ad kd RL M J (fun r M' J' => Q r M' ∧ J = J') := by
  refine z_meti (cc := cX8_bridgeMark) (maxL := 2) (ret := (some .int)) (by decide) rfl (Nat.le_of_ble_eq_true rfl) ?_
  intro p e s m below meth c ls A ar QE hQE hx hb hr hml hown hts hlk hw hl
  have hown : s.vm.findClass RX8 = some m.cls := hown
  have hl : lv_has ls 2 [(0, .ref (ad o0)), (1, .int x1)] := hl
  have hC := hw.2.2.2.2.2.1
  unfold wX8_bridgeMark at hq
  refine lv_aload_n hx hb dX8_bridgeMark_0 rfl (lv_at hl 0 rfl) ?_
  refine lv_bipush (v := (23 : Int32)) hx hb dX8_bridgeMark_1 (by decide) ?_
  refine z_cvv ⟨hx, hb, hml, hown, hts⟩ hw h_o0 (kX8_begins h_o0 hq) (by decide) rfl (cwV 1 hts gX8_bridgeMark_X8_begins rfl rfl rfl (by decide +kernel) ⟨Nat.le_of_ble_eq_true rfl, Nat.le_of_ble_eq_true rfl⟩) rfl hl.1 rfl (Nat.le_of_ble_eq_true rfl) dX8_bridgeMark_3 ⟨Nat.zero_le _, Nat.zero_le _⟩ (fun M4 J0 H locs hq hw => ?_)
  obtain ⟨hq, rfl⟩ := hq
  refine lv_aload_n hx hb dX8_bridgeMark_6 rfl (lv_at hl 0 rfl) ?_
  refine lv_bipush (v := (20 : Int32)) hx hb dX8_bridgeMark_7 (by decide) ?_
  refine z_cvv ⟨hx, hb, hml, hown, hts⟩ hw h_o0 (kX8_begins h_o0 hq) (by decide) rfl (cwV 1 hts gX8_bridgeMark_X8_begins rfl rfl rfl (by decide +kernel) ⟨Nat.le_of_ble_eq_true rfl, Nat.le_of_ble_eq_true rfl⟩) rfl hl.1 rfl (Nat.le_of_ble_eq_true rfl) dX8_bridgeMark_9 ⟨Nat.zero_le _, Nat.zero_le _⟩ (fun M5 J0 H locs hq hw => ?_)
  obtain ⟨hq, rfl⟩ := hq
  refine lv_iload_n hx hb dX8_bridgeMark_12 rfl (lv_at hl 1 rfl) ?_
  refine lv_aload_n hx hb dX8_bridgeMark_13 rfl (lv_at hl 0 rfl) ?_
  refine lv_iload_n hx hb dX8_bridgeMark_14 rfl (lv_at hl 1 rfl) ?_
  refine z_cvi ⟨hx, hb, hml, hown, hts⟩ hw h_o0 (kX8_bridgeSize h_o0 hq) (by decide) rfl (cwV 1 hts gX8_bridgeMark_X8_bridgeSize rfl rfl rfl (by decide +kernel) ⟨Nat.le_of_ble_eq_true rfl, Nat.le_of_ble_eq_true rfl⟩) rfl hl.1 rfl (Nat.le_of_ble_eq_true rfl) dX8_bridgeMark_15 ⟨Nat.zero_le _, Nat.zero_le _⟩ (fun r6 M7 J0 H locs hq hw => ?_)
  obtain ⟨hq, rfl⟩ := hq
  refine lv_isub hx hb dX8_bridgeMark_18 ?_
  exact z_iret hQE hx hb hr hlk hw dX8_bridgeMark_19 ⟨hq, rfl⟩
set_option maxRecDepth 20000 in
theorem ggX8_ask_X8_isPeg : GoodIn wsX8_ask wsX8_isPeg := goodIn_r _ [7, 8, 9, 10, 6, 11, 43, 44, 45, 46, 47, 48, 49, 50, 51, 52, 53, 54, 55, 56, 57, 58, 59, 60, 61, 62, 63, 64, 65, 66, 67, 68] (by decide +kernel) (by decide +kernel)
set_option maxRecDepth 20000 in
theorem gX8_ask_X8_isPeg : GoodIn wsX8_ask (wsV RX8 163 RX8 yX8_isPeg wsX8_isPeg) := goodIn_app (goodIn_of _ (by decide +kernel)) ggX8_ask_X8_isPeg
set_option maxRecDepth 20000 in
theorem ggX8_ask_X8_in : GoodIn wsX8_ask wsX8_in := goodIn_r _ [11] (by decide +kernel) (by decide +kernel)
set_option maxRecDepth 20000 in
theorem gX8_ask_X8_in : GoodIn wsX8_ask (va_wsS RX8 59 yX8_in wsX8_in) := goodIn_app (goodIn_of _ (by decide +kernel)) ggX8_ask_X8_in
set_option maxRecDepth 20000 in
theorem ggX8_ask_X8_kindIn : GoodIn wsX8_ask wsX8_kindIn := goodIn_r _ [15, 8, 43, 44, 45, 46, 47, 48, 49, 50, 51, 52, 53, 54, 55, 56, 57, 58, 59, 60, 61, 62, 63, 64, 65, 66, 67, 68] (by decide +kernel) (by decide +kernel)
set_option maxRecDepth 20000 in
theorem gX8_ask_X8_kindIn : GoodIn wsX8_ask (wsV RX8 253 RX8 yX8_kindIn wsX8_kindIn) := goodIn_app (goodIn_of _ (by decide +kernel)) ggX8_ask_X8_kindIn
set_option maxRecDepth 20000 in
theorem ggX8_ask_X8_bridgeSize : GoodIn wsX8_ask wsX8_bridgeSize := goodIn_r _ [19, 8, 12, 13, 14, 6, 15, 20, 21, 22, 23, 2, 24, 25, 26, 27, 28, 29, 30, 9, 10, 11, 43, 44, 45, 46, 47, 48, 49, 50, 51, 52, 53, 54, 55, 56, 57, 58, 59, 60, 61, 62, 63, 64, 65, 66, 67, 68] (by decide +kernel) (by decide +kernel)
set_option maxRecDepth 20000 in
theorem gX8_ask_X8_bridgeSize : GoodIn wsX8_ask (wsV RX8 266 RX8 yX8_bridgeSize wsX8_bridgeSize) := goodIn_app (goodIn_of _ (by decide +kernel)) ggX8_ask_X8_bridgeSize
set_option maxRecDepth 20000 in
theorem ggX8_ask_X8_plainSize : GoodIn wsX8_ask wsX8_plainSize := goodIn_r _ [34, 8, 12, 13, 14, 6, 15, 20, 21, 22, 23, 2, 24, 25, 26, 27, 28, 29, 30, 9, 10, 11, 35, 36, 37, 38, 43, 44, 45, 46, 47, 48, 49, 50, 51, 52, 53, 54, 55, 56, 57, 58, 59, 60, 61, 62, 63, 64, 65, 66, 67, 68] (by decide +kernel) (by decide +kernel)
set_option maxRecDepth 20000 in
theorem gX8_ask_X8_plainSize : GoodIn wsX8_ask (wsV RX8 269 RX8 yX8_plainSize wsX8_plainSize) := goodIn_app (goodIn_of _ (by decide +kernel)) ggX8_ask_X8_plainSize
set_option maxRecDepth 20000 in
theorem ggX8_ask_X8_bridgeMark : GoodIn wsX8_ask wsX8_bridgeMark := goodIn_r _ [42, 20, 21, 22, 6, 23, 2, 24, 16, 17, 18, 19, 8, 12, 13, 14, 15, 25, 26, 27, 28, 29, 30, 9, 10, 11, 43, 44, 45, 46, 47, 48, 49, 50, 51, 52, 53, 54, 55, 56, 57, 58, 59, 60, 61, 62, 63, 64, 65, 66, 67, 68] (by decide +kernel) (by decide +kernel)
set_option maxRecDepth 20000 in
theorem gX8_ask_X8_bridgeMark : GoodIn wsX8_ask (wsV RX8 272 RX8 yX8_bridgeMark wsX8_bridgeMark) := goodIn_app (goodIn_of _ (by decide +kernel)) ggX8_ask_X8_bridgeMark
set_option maxRecDepth 20000 in
theorem ggX8_ask_X8_plainMark : GoodIn wsX8_ask wsX8_plainMark := goodIn_r _ [38, 8, 12, 13, 14, 6, 15, 20, 21, 22, 23, 2, 24, 43, 44, 45, 46, 47, 48, 49, 50, 51, 52, 53, 54, 55, 56, 57, 58, 59, 60, 61, 62, 63, 64, 65, 66, 67, 68] (by decide +kernel) (by decide +kernel)
set_option maxRecDepth 20000 in
theorem gX8_ask_X8_plainMark : GoodIn wsX8_ask (wsV RX8 263 RX8 yX8_plainMark wsX8_plainMark) := goodIn_app (goodIn_of _ (by decide +kernel)) ggX8_ask_X8_plainMark
theorem dX8_ask_0 : decode cX8_ask 0 = .ok (.aload_n 0, 1) := by decide +kernel
theorem dX8_ask_1 : decode cX8_ask 1 = .ok (.iload_n 1, 1) := by decide +kernel
theorem dX8_ask_2 : decode cX8_ask 2 = .ok (.invokevirtual 163, 3) := by decide +kernel
theorem dX8_ask_5 : decode cX8_ask 5 = .ok (.ifCond .eq 12, 3) := by decide +kernel
theorem dX8_ask_8 : decode cX8_ask 8 = .ok (.iload_n 2, 1) := by decide +kernel
theorem dX8_ask_9 : decode cX8_ask 9 = .ok (.iconst 0, 1) := by decide +kernel
theorem dX8_ask_10 : decode cX8_ask 10 = .ok (.iconst 1, 1) := by decide +kernel
theorem dX8_ask_11 : decode cX8_ask 11 = .ok (.invokestatic 59, 3) := by decide +kernel
theorem dX8_ask_14 : decode cX8_ask 14 = .ok (.ifCond .ne 6, 3) := by decide +kernel
theorem dX8_ask_17 : decode cX8_ask 17 = .ok (.ldc 67, 2) := by decide +kernel
theorem dX8_ask_19 : decode cX8_ask 19 = .ok (.ireturn, 1) := by decide +kernel
theorem dX8_ask_20 : decode cX8_ask 20 = .ok (.aload_n 0, 1) := by decide +kernel
theorem dX8_ask_21 : decode cX8_ask 21 = .ok (.iconst 0, 1) := by decide +kernel
theorem dX8_ask_22 : decode cX8_ask 22 = .ok (.putfield 256, 3) := by decide +kernel
theorem dX8_ask_25 : decode cX8_ask 25 = .ok (.aload_n 0, 1) := by decide +kernel
theorem dX8_ask_26 : decode cX8_ask 26 = .ok (.iload_n 1, 1) := by decide +kernel
theorem dX8_ask_27 : decode cX8_ask 27 = .ok (.invokevirtual 253, 3) := by decide +kernel
theorem dX8_ask_30 : decode cX8_ask 30 = .ok (.iconst 4, 1) := by decide +kernel
theorem dX8_ask_31 : decode cX8_ask 31 = .ok (.if_icmp .lt 7, 3) := by decide +kernel
theorem dX8_ask_34 : decode cX8_ask 34 = .ok (.iconst 1, 1) := by decide +kernel
theorem dX8_ask_35 : decode cX8_ask 35 = .ok (.goto 4, 3) := by decide +kernel
theorem dX8_ask_38 : decode cX8_ask 38 = .ok (.iconst 0, 1) := by decide +kernel
theorem dX8_ask_39 : decode cX8_ask 39 = .ok (.istore_n 3, 1) := by decide +kernel
theorem dX8_ask_40 : decode cX8_ask 40 = .ok (.iload_n 2, 1) := by decide +kernel
theorem dX8_ask_41 : decode cX8_ask 41 = .ok (.ifCond .ne 21, 3) := by decide +kernel
theorem dX8_ask_44 : decode cX8_ask 44 = .ok (.iload_n 3, 1) := by decide +kernel
theorem dX8_ask_45 : decode cX8_ask 45 = .ok (.ifCond .eq 11, 3) := by decide +kernel
theorem dX8_ask_48 : decode cX8_ask 48 = .ok (.aload_n 0, 1) := by decide +kernel
theorem dX8_ask_49 : decode cX8_ask 49 = .ok (.iload_n 1, 1) := by decide +kernel
theorem dX8_ask_50 : decode cX8_ask 50 = .ok (.invokevirtual 266, 3) := by decide +kernel
theorem dX8_ask_53 : decode cX8_ask 53 = .ok (.goto 8, 3) := by decide +kernel
theorem dX8_ask_56 : decode cX8_ask 56 = .ok (.aload_n 0, 1) := by decide +kernel
theorem dX8_ask_57 : decode cX8_ask 57 = .ok (.iload_n 1, 1) := by decide +kernel
theorem dX8_ask_58 : decode cX8_ask 58 = .ok (.invokevirtual 269, 3) := by decide +kernel
theorem dX8_ask_61 : decode cX8_ask 61 = .ok (.ireturn, 1) := by decide +kernel
theorem dX8_ask_62 : decode cX8_ask 62 = .ok (.iload_n 3, 1) := by decide +kernel
theorem dX8_ask_63 : decode cX8_ask 63 = .ok (.ifCond .eq 11, 3) := by decide +kernel
theorem dX8_ask_66 : decode cX8_ask 66 = .ok (.aload_n 0, 1) := by decide +kernel
theorem dX8_ask_67 : decode cX8_ask 67 = .ok (.iload_n 1, 1) := by decide +kernel
theorem dX8_ask_68 : decode cX8_ask 68 = .ok (.invokevirtual 272, 3) := by decide +kernel
theorem dX8_ask_71 : decode cX8_ask 71 = .ok (.goto 8, 3) := by decide +kernel
theorem dX8_ask_74 : decode cX8_ask 74 = .ok (.aload_n 0, 1) := by decide +kernel
theorem dX8_ask_75 : decode cX8_ask 75 = .ok (.iload_n 1, 1) := by decide +kernel
theorem dX8_ask_76 : decode cX8_ask 76 = .ok (.invokevirtual 263, 3) := by decide +kernel
theorem dX8_ask_79 : decode cX8_ask 79 = .ok (.ireturn, 1) := by decide +kernel
def rmX8_ask : Room := { frames := 5, cells := 0, slots := 0, locals := 108 }
def jnX8_ask_39 (o0 : Nat) (x1 : Int32) (x2 : Int32) (M7 : zM) (Q : Int32 → zM → Prop) (x9 : Int32) : Prop :=
    ((¬ x2 = 0) → (
    ((x9 = 0) → (
    wX8_plainMark M7 o0 x1 (fun r10 M11 =>
    Q r10 M11))) ∧
    ((¬ x9 = 0) → (
    wX8_bridgeMark M7 o0 x1 (fun r12 M13 =>
    Q r12 M13))))) ∧
    ((x2 = 0) → (
    ((x9 = 0) → (
    wX8_plainSize M7 o0 x1 (fun r14 M15 =>
    Q r14 M15))) ∧
    ((¬ x9 = 0) → (
    wX8_bridgeSize M7 o0 x1 (fun r16 M17 =>
    Q r16 M17)))))
def wX8_ask (M : zM) (o0 : Nat) (x1 : Int32) (x2 : Int32) (Q : Int32 → zM → Prop) : Prop :=
    wX8_isPeg M o0 x1 (fun r5 =>
    ((r5 = 0) → (
    Q (-1000001 : Int32) M)) ∧
    ((¬ r5 = 0) → (
    wX8_in M x2 (0 : Int32) (1 : Int32) (fun r6 =>
    ((¬ r6 = 0) → (
    ∀ M7 : zM, M7 = va_up M o0 (upd (M o0) 11 (0 : Int32)) →
    wX8_kindIn M7 o0 x1 (fun r8 =>
    ((r8 < (4 : Int32)) → (
    jnX8_ask_39 o0 x1 x2 M7 Q (0 : Int32))) ∧
    ((¬ r8 < (4 : Int32)) → (
    jnX8_ask_39 o0 x1 x2 M7 Q (1 : Int32)))))) ∧
    ((r6 = 0) → (
    Q (-1000001 : Int32) M))))))
set_option maxHeartbeats 4000000 in
set_option maxRecDepth 100000 in
theorem kX8_ask {l : Launch} {D : va_G} {Y : zY} {ad kd : Nat → Nat} {RL : List Nat} {M : zM} {J : zL} {o0 : Nat} {x1 : Int32} {x2 : Int32} (h_o0 : kd o0 = 8) {Q : Int32 → zM → Prop} (hq : wX8_ask M o0 x1 x2 Q) : zCi l yX8_ask wsX8_ask rmX8_ask [.ref (ad o0), .int x1, .int x2] D Y ad kd RL M J (fun r M' J' => Q r M' ∧ J = J') := by
  refine z_meti (cc := cX8_ask) (maxL := 4) (ret := (some .int)) (by decide) rfl (Nat.le_of_ble_eq_true rfl) ?_
  intro p e s m below meth c ls A ar QE hQE hx hb hr hml hown hts hlk hw hl
  have hown : s.vm.findClass RX8 = some m.cls := hown
  have hl : lv_has ls 4 [(0, .ref (ad o0)), (1, .int x1), (2, .int x2)] := hl
  have hC := hw.2.2.2.2.2.1
  have g8 : ∀ w ∈ wsX80, w.before ar s = true := (fun w h => hts w (List.mem_cons_of_mem _ (List.mem_append_right _ h)))
  have q1 := hts _ (List.mem_of_getElem? (i := 1) rfl)
  have q2 := hts _ (List.mem_of_getElem? (i := 2) rfl)
  unfold wX8_ask at hq
  refine lv_aload_n hx hb dX8_ask_0 rfl (lv_at hl 0 rfl) ?_
  refine lv_iload_n hx hb dX8_ask_1 rfl (lv_at hl 1 rfl) ?_
  refine z_cvi ⟨hx, hb, hml, hown, hts⟩ hw h_o0 (kX8_isPeg h_o0 hq) (by decide) rfl (cwV 1 hts gX8_ask_X8_isPeg rfl rfl rfl (by decide +kernel) ⟨Nat.le_of_ble_eq_true rfl, Nat.le_of_ble_eq_true rfl⟩) rfl hl.1 rfl (Nat.le_of_ble_eq_true rfl) dX8_ask_2 ⟨Nat.zero_le _, Nat.zero_le _⟩ (fun r5 M0 J0 H locs hq hw => ?_)
  obtain ⟨hq, rfl, rfl⟩ := hq
  refine lv_if_eq (tgt := 17) hx hb dX8_ask_5 (by decide) (fun hc => ?_) (fun hc => ?_)
  · have hq := hq.1 hc
    refine lv_ldc (v := (-1000001 : Int32)) hx hb hown q1 dX8_ask_17 ?_
    exact z_iret hQE hx hb hr hlk hw dX8_ask_19 ⟨hq, rfl⟩
  · have hq := hq.2 hc
    refine lv_iload_n hx hb dX8_ask_8 rfl (lv_at hl 2 rfl) ?_
    refine lv_iconst (v := (0 : Int32)) hx hb dX8_ask_9 (by decide) ?_
    refine lv_iconst (v := (1 : Int32)) hx hb dX8_ask_10 (by decide) ?_
    refine z_csi ⟨hx, hb, hml, hown, hts⟩ hw (kX8_in  hq) (va_cwS 3 hts gX8_ask_X8_in rfl rfl rfl (by decide +kernel) ⟨Nat.le_of_ble_eq_true rfl, Nat.le_of_ble_eq_true rfl⟩) rfl hl.1 rfl (Nat.le_of_ble_eq_true rfl) dX8_ask_11 ⟨Nat.zero_le _, Nat.zero_le _⟩ (fun r6 M0 J0 H locs hq hw => ?_)
    obtain ⟨hq, rfl, rfl⟩ := hq
    refine lv_if_ne (tgt := 20) hx hb dX8_ask_14 (by decide) (fun hc => ?_) (fun hc => ?_)
    · have hq := hq.1 hc
      refine lv_aload_n hx hb dX8_ask_20 rfl (lv_at hl 0 rfl) ?_
      refine lv_iconst (v := (0 : Int32)) hx hb dX8_ask_21 (by decide) ?_
      refine zp8_traced hx hb g8 hown hw h_o0 q2 dX8_ask_22 (fun H locs hw => ?_)
      obtain ⟨M7, e_M7⟩ : ∃ y : zM, y = va_up M o0 (upd (M o0) 11 (0 : Int32)) := ⟨_, rfl⟩
      rw [← e_M7] at hw
      have hq := hq M7 e_M7
      refine lv_aload_n hx hb dX8_ask_25 rfl (lv_at hl 0 rfl) ?_
      refine lv_iload_n hx hb dX8_ask_26 rfl (lv_at hl 1 rfl) ?_
      refine z_cvi ⟨hx, hb, hml, hown, hts⟩ hw h_o0 (kX8_kindIn h_o0 hq) (by decide) rfl (cwV 1 hts gX8_ask_X8_kindIn rfl rfl rfl (by decide +kernel) ⟨Nat.le_of_ble_eq_true rfl, Nat.le_of_ble_eq_true rfl⟩) rfl hl.1 rfl (Nat.le_of_ble_eq_true rfl) dX8_ask_27 ⟨Nat.zero_le _, Nat.zero_le _⟩ (fun r8 M0 J0 H locs hq hw => ?_)
      obtain ⟨hq, rfl, rfl⟩ := hq
      refine lv_iconst (v := (4 : Int32)) hx hb dX8_ask_30 (by decide) ?_
      have jn39 : ∀ (x9 : Int32) (H : Heap) (locs : List Loc) (ls : Array Slot), jnX8_ask_39 o0 x1 x2 M7 Q x9 → zH D Y ad kd RL M7 J A s.heap H locs s → lv_has ls 4 [(0, .ref (ad o0)), (1, .int x1), (2, .int x2)] → W p l e rmX8_ask s m ar below meth c H locs 0 0 QE (F0 m 39 ls [.int x9]) := by
        intro x9 H locs ls hq hw hl
        unfold jnX8_ask_39 at hq
        refine lv_istore_n (lv' := [(3, .int x9), (0, .ref (ad o0)), (1, .int x1), (2, .int x2)]) hx hb dX8_ask_39 rfl hl (by decide) rfl (fun ls hl => ?_)
        refine lv_iload_n hx hb dX8_ask_40 rfl (lv_at hl 3 rfl) ?_
        refine lv_if_ne (tgt := 62) hx hb dX8_ask_41 (by decide) (fun hc => ?_) (fun hc => ?_)
        · have hq := hq.1 hc
          refine lv_iload_n hx hb dX8_ask_62 rfl (lv_at hl 0 rfl) ?_
          refine lv_if_eq (tgt := 74) hx hb dX8_ask_63 (by decide) (fun hc => ?_) (fun hc => ?_)
          · have hq := hq.1 hc
            refine lv_aload_n hx hb dX8_ask_74 rfl (lv_at hl 1 rfl) ?_
            refine lv_iload_n hx hb dX8_ask_75 rfl (lv_at hl 2 rfl) ?_
            refine z_cvi ⟨hx, hb, hml, hown, hts⟩ hw h_o0 (kX8_plainMark h_o0 hq) (by decide) rfl (cwV 1 hts gX8_ask_X8_plainMark rfl rfl rfl (by decide +kernel) ⟨Nat.le_of_ble_eq_true rfl, Nat.le_of_ble_eq_true rfl⟩) rfl hl.1 rfl (Nat.le_of_ble_eq_true rfl) dX8_ask_76 ⟨Nat.zero_le _, Nat.zero_le _⟩ (fun r10 M11 J0 H locs hq hw => ?_)
            obtain ⟨hq, rfl⟩ := hq
            exact z_iret hQE hx hb hr hlk hw dX8_ask_79 ⟨hq, rfl⟩
          · have hq := hq.2 hc
            refine lv_aload_n hx hb dX8_ask_66 rfl (lv_at hl 1 rfl) ?_
            refine lv_iload_n hx hb dX8_ask_67 rfl (lv_at hl 2 rfl) ?_
            refine z_cvi ⟨hx, hb, hml, hown, hts⟩ hw h_o0 (kX8_bridgeMark h_o0 hq) (by decide) rfl (cwV 1 hts gX8_ask_X8_bridgeMark rfl rfl rfl (by decide +kernel) ⟨Nat.le_of_ble_eq_true rfl, Nat.le_of_ble_eq_true rfl⟩) rfl hl.1 rfl (Nat.le_of_ble_eq_true rfl) dX8_ask_68 ⟨Nat.zero_le _, Nat.zero_le _⟩ (fun r12 M13 J0 H locs hq hw => ?_)
            obtain ⟨hq, rfl⟩ := hq
            refine lv_goto (tgt := 79) hx hb dX8_ask_71 (by decide) ?_
            exact z_iret hQE hx hb hr hlk hw dX8_ask_79 ⟨hq, rfl⟩
        · have hq := hq.2 hc
          refine lv_iload_n hx hb dX8_ask_44 rfl (lv_at hl 0 rfl) ?_
          refine lv_if_eq (tgt := 56) hx hb dX8_ask_45 (by decide) (fun hc => ?_) (fun hc => ?_)
          · have hq := hq.1 hc
            refine lv_aload_n hx hb dX8_ask_56 rfl (lv_at hl 1 rfl) ?_
            refine lv_iload_n hx hb dX8_ask_57 rfl (lv_at hl 2 rfl) ?_
            refine z_cvi ⟨hx, hb, hml, hown, hts⟩ hw h_o0 (kX8_plainSize h_o0 hq) (by decide) rfl (cwV 1 hts gX8_ask_X8_plainSize rfl rfl rfl (by decide +kernel) ⟨Nat.le_of_ble_eq_true rfl, Nat.le_of_ble_eq_true rfl⟩) rfl hl.1 rfl (Nat.le_of_ble_eq_true rfl) dX8_ask_58 ⟨Nat.zero_le _, Nat.zero_le _⟩ (fun r14 M15 J0 H locs hq hw => ?_)
            obtain ⟨hq, rfl⟩ := hq
            exact z_iret hQE hx hb hr hlk hw dX8_ask_61 ⟨hq, rfl⟩
          · have hq := hq.2 hc
            refine lv_aload_n hx hb dX8_ask_48 rfl (lv_at hl 1 rfl) ?_
            refine lv_iload_n hx hb dX8_ask_49 rfl (lv_at hl 2 rfl) ?_
            refine z_cvi ⟨hx, hb, hml, hown, hts⟩ hw h_o0 (kX8_bridgeSize h_o0 hq) (by decide) rfl (cwV 1 hts gX8_ask_X8_bridgeSize rfl rfl rfl (by decide +kernel) ⟨Nat.le_of_ble_eq_true rfl, Nat.le_of_ble_eq_true rfl⟩) rfl hl.1 rfl (Nat.le_of_ble_eq_true rfl) dX8_ask_50 ⟨Nat.zero_le _, Nat.zero_le _⟩ (fun r16 M17 J0 H locs hq hw => ?_)
            obtain ⟨hq, rfl⟩ := hq
            refine lv_goto (tgt := 61) hx hb dX8_ask_53 (by decide) ?_
            exact z_iret hQE hx hb hr hlk hw dX8_ask_61 ⟨hq, rfl⟩
      refine lv_icmp_lt (tgt := 38) hx hb dX8_ask_31 (by decide) (fun hc => ?_) (fun hc => ?_)
      · have hq := hq.1 hc
        refine lv_iconst (v := (0 : Int32)) hx hb dX8_ask_38 (by decide) ?_
        exact jn39 (0 : Int32) _ _ _ hq hw (lv_sub hl [0, 1, 2] rfl)
      · have hq := hq.2 hc
        refine lv_iconst (v := (1 : Int32)) hx hb dX8_ask_34 (by decide) ?_
        refine lv_goto (tgt := 39) hx hb dX8_ask_35 (by decide) ?_
        exact jn39 (1 : Int32) _ _ _ hq hw (lv_sub hl [0, 1, 2] rfl)
    · have hq := hq.2 hc
      refine lv_ldc (v := (-1000001 : Int32)) hx hb hown q1 dX8_ask_17 ?_
      exact z_iret hQE hx hb hr hlk hw dX8_ask_19 ⟨hq, rfl⟩
set_option maxRecDepth 20000 in
theorem ggX8_trace_X8_in : GoodIn wsX8_trace wsX8_in := goodIn_r _ [7] (by decide +kernel) (by decide +kernel)
set_option maxRecDepth 20000 in
theorem gX8_trace_X8_in : GoodIn wsX8_trace (va_wsS RX8 59 yX8_in wsX8_in) := goodIn_app (goodIn_of _ (by decide +kernel)) ggX8_trace_X8_in
theorem dX8_trace_0 : decode cX8_trace 0 = .ok (.iload_n 1, 1) := by decide +kernel
theorem dX8_trace_1 : decode cX8_trace 1 = .ok (.iconst 0, 1) := by decide +kernel
theorem dX8_trace_2 : decode cX8_trace 2 = .ok (.aload_n 0, 1) := by decide +kernel
theorem dX8_trace_3 : decode cX8_trace 3 = .ok (.getfield 256, 3) := by decide +kernel
theorem dX8_trace_6 : decode cX8_trace 6 = .ok (.iconst 1, 1) := by decide +kernel
theorem dX8_trace_7 : decode cX8_trace 7 = .ok (.isub, 1) := by decide +kernel
theorem dX8_trace_8 : decode cX8_trace 8 = .ok (.invokestatic 59, 3) := by decide +kernel
theorem dX8_trace_11 : decode cX8_trace 11 = .ok (.ifCond .eq 12, 3) := by decide +kernel
theorem dX8_trace_14 : decode cX8_trace 14 = .ok (.aload_n 0, 1) := by decide +kernel
theorem dX8_trace_15 : decode cX8_trace 15 = .ok (.getfield 50, 3) := by decide +kernel
theorem dX8_trace_18 : decode cX8_trace 18 = .ok (.iload_n 1, 1) := by decide +kernel
theorem dX8_trace_19 : decode cX8_trace 19 = .ok (.iaload, 1) := by decide +kernel
theorem dX8_trace_20 : decode cX8_trace 20 = .ok (.goto 5, 3) := by decide +kernel
theorem dX8_trace_23 : decode cX8_trace 23 = .ok (.ldc 53, 2) := by decide +kernel
theorem dX8_trace_25 : decode cX8_trace 25 = .ok (.ireturn, 1) := by decide +kernel
def rmX8_trace : Room := { frames := 1, cells := 0, slots := 0, locals := 22 }
def wX8_trace (M : zM) (o0 : Nat) (x1 : Int32) (Q : Int32 → Prop) : Prop :=
    wX8_in M x1 (0 : Int32) ((M o0 11) - (1 : Int32)) (fun r4 =>
    ((r4 = 0) → (
    Q (-1000000 : Int32))) ∧
    ((¬ r4 = 0) → (
    vp_in x1 16 ∧
    Q (M (o0 + 14) x1.toNatClampNeg))))
set_option maxHeartbeats 4000000 in
set_option maxRecDepth 100000 in
theorem kX8_trace {l : Launch} {D : va_G} {Y : zY} {ad kd : Nat → Nat} {RL : List Nat} {M : zM} {J : zL} {o0 : Nat} {x1 : Int32} (h_o0 : kd o0 = 8) {Q : Int32 → Prop} (hq : wX8_trace M o0 x1 Q) : zCi l yX8_trace wsX8_trace rmX8_trace [.ref (ad o0), .int x1] D Y ad kd RL M J (fun r M' J' => Q r ∧ M = M' ∧ J = J') := by
  refine z_meti (cc := cX8_trace) (maxL := 2) (ret := (some .int)) (by decide) rfl (Nat.le_of_ble_eq_true rfl) ?_
  intro p e s m below meth c ls A ar QE hQE hx hb hr hml hown hts hlk hw hl
  have hown : s.vm.findClass RX8 = some m.cls := hown
  have hl : lv_has ls 2 [(0, .ref (ad o0)), (1, .int x1)] := hl
  have hC := hw.2.2.2.2.2.1
  have g8 : ∀ w ∈ wsX80, w.before ar s = true := (fun w h => hts w (List.mem_cons_of_mem _ (List.mem_append_right _ h)))
  have q1 := hts _ (List.mem_of_getElem? (i := 1) rfl)
  have q2 := hts _ (List.mem_of_getElem? (i := 2) rfl)
  have q3 := hts _ (List.mem_of_getElem? (i := 3) rfl)
  unfold wX8_trace at hq
  refine lv_iload_n hx hb dX8_trace_0 rfl (lv_at hl 1 rfl) ?_
  refine lv_iconst (v := (0 : Int32)) hx hb dX8_trace_1 (by decide) ?_
  refine lv_aload_n hx hb dX8_trace_2 rfl (lv_at hl 0 rfl) ?_
  refine zg8_traced hx hb g8 hown hw h_o0 q1 dX8_trace_3 ?_
  refine lv_iconst (v := (1 : Int32)) hx hb dX8_trace_6 (by decide) ?_
  refine lv_isub hx hb dX8_trace_7 ?_
  refine z_csi ⟨hx, hb, hml, hown, hts⟩ hw (kX8_in  hq) (va_cwS 3 hts gX8_trace_X8_in rfl rfl rfl (by decide +kernel) ⟨Nat.le_of_ble_eq_true rfl, Nat.le_of_ble_eq_true rfl⟩) rfl hl.1 rfl (Nat.le_of_ble_eq_true rfl) dX8_trace_8 ⟨Nat.zero_le _, Nat.zero_le _⟩ (fun r4 M0 J0 H locs hq hw => ?_)
  obtain ⟨hq, rfl, rfl⟩ := hq
  refine lv_if_eq (tgt := 23) hx hb dX8_trace_11 (by decide) (fun hc => ?_) (fun hc => ?_)
  · have hq := hq.1 hc
    refine lv_ldc (v := (-1000000 : Int32)) hx hb hown q3 dX8_trace_23 ?_
    exact z_iret hQE hx hb hr hlk hw dX8_trace_25 ⟨hq, rfl, rfl⟩
  · have hq := hq.2 hc
    refine lv_aload_n hx hb dX8_trace_14 rfl (lv_at hl 0 rfl) ?_
    refine zg8_trace hx hb g8 hown hw h_o0 q2 dX8_trace_15 ?_
    refine lv_iload_n hx hb dX8_trace_18 rfl (lv_at hl 1 rfl) ?_
    obtain ⟨hi, hq⟩ := hq
    refine z_iald (n := 16) hx hb hw (zk_8_14 hC h_o0) hi dX8_trace_19 ?_
    refine lv_goto (tgt := 25) hx hb dX8_trace_20 (by decide) ?_
    exact z_iret hQE hx hb hr hlk hw dX8_trace_25 ⟨hq, rfl, rfl⟩
set_option maxRecDepth 20000 in
theorem ggX8_count_X8_isMissing : GoodIn wsX8_count wsX8_isMissing := goodIn_r _ [9, 10, 11, 12, 13, 14, 15, 16, 17, 18, 19, 20, 21, 22, 23, 24, 25, 26, 27, 28, 29, 30, 31, 32, 33, 34, 35, 36, 37] (by decide +kernel) (by decide +kernel)
set_option maxRecDepth 20000 in
theorem gX8_count_X8_isMissing : GoodIn wsX8_count (wsV RX8 75 RX8 yX8_isMissing wsX8_isMissing) := goodIn_app (goodIn_of _ (by decide +kernel)) ggX8_count_X8_isMissing
theorem dX8_count_0 : decode cX8_count 0 = .ok (.iconst 0, 1) := by decide +kernel
theorem dX8_count_1 : decode cX8_count 1 = .ok (.istore_n 2, 1) := by decide +kernel
theorem dX8_count_2 : decode cX8_count 2 = .ok (.iload_n 1, 1) := by decide +kernel
theorem dX8_count_3 : decode cX8_count 3 = .ok (.tableswitch 136 0 5 #[37, 69, 76, 119, 126, 131], 37) := by decide +kernel
theorem dX8_count_40 : decode cX8_count 40 = .ok (.iconst 0, 1) := by decide +kernel
theorem dX8_count_41 : decode cX8_count 41 = .ok (.istore_n 3, 1) := by decide +kernel
theorem dX8_count_42 : decode cX8_count 42 = .ok (.iload_n 3, 1) := by decide +kernel
theorem dX8_count_43 : decode cX8_count 43 = .ok (.bipush 8, 2) := by decide +kernel
theorem dX8_count_45 : decode cX8_count 45 = .ok (.if_icmp .ge 25, 3) := by decide +kernel
theorem dX8_count_48 : decode cX8_count 48 = .ok (.iload_n 2, 1) := by decide +kernel
theorem dX8_count_49 : decode cX8_count 49 = .ok (.aload_n 0, 1) := by decide +kernel
theorem dX8_count_50 : decode cX8_count 50 = .ok (.iload_n 3, 1) := by decide +kernel
theorem dX8_count_51 : decode cX8_count 51 = .ok (.invokevirtual 75, 3) := by decide +kernel
theorem dX8_count_54 : decode cX8_count 54 = .ok (.ifCond .eq 7, 3) := by decide +kernel
theorem dX8_count_57 : decode cX8_count 57 = .ok (.iconst 0, 1) := by decide +kernel
theorem dX8_count_58 : decode cX8_count 58 = .ok (.goto 4, 3) := by decide +kernel
theorem dX8_count_61 : decode cX8_count 61 = .ok (.iconst 1, 1) := by decide +kernel
theorem dX8_count_62 : decode cX8_count 62 = .ok (.iadd, 1) := by decide +kernel
theorem dX8_count_63 : decode cX8_count 63 = .ok (.istore_n 2, 1) := by decide +kernel
theorem dX8_count_64 : decode cX8_count 64 = .ok (.iinc 3 1, 3) := by decide +kernel
theorem dX8_count_67 : decode cX8_count 67 = .ok (.goto (-25), 3) := by decide +kernel
theorem dX8_count_70 : decode cX8_count 70 = .ok (.iload_n 2, 1) := by decide +kernel
theorem dX8_count_71 : decode cX8_count 71 = .ok (.ireturn, 1) := by decide +kernel
theorem dX8_count_72 : decode cX8_count 72 = .ok (.aload_n 0, 1) := by decide +kernel
theorem dX8_count_73 : decode cX8_count 73 = .ok (.getfield 25, 3) := by decide +kernel
theorem dX8_count_76 : decode cX8_count 76 = .ok (.iconst 0, 1) := by decide +kernel
theorem dX8_count_77 : decode cX8_count 77 = .ok (.iaload, 1) := by decide +kernel
theorem dX8_count_78 : decode cX8_count 78 = .ok (.ireturn, 1) := by decide +kernel
theorem dX8_count_79 : decode cX8_count 79 = .ok (.iconst 0, 1) := by decide +kernel
theorem dX8_count_80 : decode cX8_count 80 = .ok (.istore_n 3, 1) := by decide +kernel
theorem dX8_count_81 : decode cX8_count 81 = .ok (.iload_n 3, 1) := by decide +kernel
theorem dX8_count_82 : decode cX8_count 82 = .ok (.aload_n 0, 1) := by decide +kernel
theorem dX8_count_83 : decode cX8_count 83 = .ok (.getfield 25, 3) := by decide +kernel
theorem dX8_count_86 : decode cX8_count 86 = .ok (.iconst 0, 1) := by decide +kernel
theorem dX8_count_87 : decode cX8_count 87 = .ok (.iaload, 1) := by decide +kernel
theorem dX8_count_88 : decode cX8_count 88 = .ok (.if_icmp .ge 32, 3) := by decide +kernel
theorem dX8_count_91 : decode cX8_count 91 = .ok (.iload_n 2, 1) := by decide +kernel
theorem dX8_count_92 : decode cX8_count 92 = .ok (.aload_n 0, 1) := by decide +kernel
theorem dX8_count_93 : decode cX8_count 93 = .ok (.getfield 25, 3) := by decide +kernel
theorem dX8_count_96 : decode cX8_count 96 = .ok (.iconst 2, 1) := by decide +kernel
theorem dX8_count_97 : decode cX8_count 97 = .ok (.iconst 4, 1) := by decide +kernel
theorem dX8_count_98 : decode cX8_count 98 = .ok (.iload_n 3, 1) := by decide +kernel
theorem dX8_count_99 : decode cX8_count 99 = .ok (.imul, 1) := by decide +kernel
theorem dX8_count_100 : decode cX8_count 100 = .ok (.iadd, 1) := by decide +kernel
theorem dX8_count_101 : decode cX8_count 101 = .ok (.iconst 3, 1) := by decide +kernel
theorem dX8_count_102 : decode cX8_count 102 = .ok (.iadd, 1) := by decide +kernel
theorem dX8_count_103 : decode cX8_count 103 = .ok (.iaload, 1) := by decide +kernel
theorem dX8_count_104 : decode cX8_count 104 = .ok (.ifCond .eq 7, 3) := by decide +kernel
theorem dX8_count_107 : decode cX8_count 107 = .ok (.iconst 1, 1) := by decide +kernel
theorem dX8_count_108 : decode cX8_count 108 = .ok (.goto 4, 3) := by decide +kernel
theorem dX8_count_111 : decode cX8_count 111 = .ok (.iconst 0, 1) := by decide +kernel
theorem dX8_count_112 : decode cX8_count 112 = .ok (.iadd, 1) := by decide +kernel
theorem dX8_count_113 : decode cX8_count 113 = .ok (.istore_n 2, 1) := by decide +kernel
theorem dX8_count_114 : decode cX8_count 114 = .ok (.iinc 3 1, 3) := by decide +kernel
theorem dX8_count_117 : decode cX8_count 117 = .ok (.goto (-36), 3) := by decide +kernel
theorem dX8_count_120 : decode cX8_count 120 = .ok (.iload_n 2, 1) := by decide +kernel
theorem dX8_count_121 : decode cX8_count 121 = .ok (.ireturn, 1) := by decide +kernel
theorem dX8_count_122 : decode cX8_count 122 = .ok (.aload_n 0, 1) := by decide +kernel
theorem dX8_count_123 : decode cX8_count 123 = .ok (.getfield 25, 3) := by decide +kernel
theorem dX8_count_126 : decode cX8_count 126 = .ok (.iconst 1, 1) := by decide +kernel
theorem dX8_count_127 : decode cX8_count 127 = .ok (.iaload, 1) := by decide +kernel
theorem dX8_count_128 : decode cX8_count 128 = .ok (.ireturn, 1) := by decide +kernel
theorem dX8_count_129 : decode cX8_count 129 = .ok (.aload_n 0, 1) := by decide +kernel
theorem dX8_count_130 : decode cX8_count 130 = .ok (.getfield 139, 3) := by decide +kernel
theorem dX8_count_133 : decode cX8_count 133 = .ok (.ireturn, 1) := by decide +kernel
theorem dX8_count_134 : decode cX8_count 134 = .ok (.aload_n 0, 1) := by decide +kernel
theorem dX8_count_135 : decode cX8_count 135 = .ok (.getfield 85, 3) := by decide +kernel
theorem dX8_count_138 : decode cX8_count 138 = .ok (.ireturn, 1) := by decide +kernel
theorem dX8_count_139 : decode cX8_count 139 = .ok (.ldc 67, 2) := by decide +kernel
theorem dX8_count_141 : decode cX8_count 141 = .ok (.ireturn, 1) := by decide +kernel
def rmX8_count : Room := { frames := 1, cells := 0, slots := 0, locals := 21 }
def lpX8_count_42 (M : zM) (o0 : Nat) (Q : Int32 → Prop) : Nat → Int32 → Int32 → Prop
  | 0, _, _ => False
  | fu42 + 1, x4, x5 =>
    (((8 : Int32) ≤ x5) → (
    Q x4)) ∧
    ((¬ (8 : Int32) ≤ x5) → (
    wX8_isMissing M o0 x5 (fun r6 =>
    ((r6 = 0) → (
    ∀ x7 : Int32, x7 = x5 + (1 : Int32) →
    lpX8_count_42 M o0 Q fu42 (x4 + (1 : Int32)) x7)) ∧
    ((¬ r6 = 0) → (
    ∀ x8 : Int32, x8 = x5 + (1 : Int32) →
    lpX8_count_42 M o0 Q fu42 (x4 + (0 : Int32)) x8)))))
def lpX8_count_81 (M : zM) (o0 : Nat) (Q : Int32 → Prop) : Nat → Int32 → Int32 → Prop
  | 0, _, _ => False
  | fu81 + 1, x9, x10 =>
    (((M (o0 + 6) (0 : Int32).toNatClampNeg) ≤ x10) → (
    Q x9)) ∧
    ((¬ (M (o0 + 6) (0 : Int32).toNatClampNeg) ≤ x10) → (
    ∀ x11 : Int32, x11 = (((2 : Int32) + ((4 : Int32) * x10)) + (3 : Int32)) →
    vp_in x11 50 ∧
    (((M (o0 + 6) x11.toNatClampNeg) = 0) → (
    ∀ x12 : Int32, x12 = x10 + (1 : Int32) →
    lpX8_count_81 M o0 Q fu81 (x9 + (0 : Int32)) x12)) ∧
    ((¬ (M (o0 + 6) x11.toNatClampNeg) = 0) → (
    ∀ x13 : Int32, x13 = x10 + (1 : Int32) →
    lpX8_count_81 M o0 Q fu81 (x9 + (1 : Int32)) x13))))
def wX8_count (M : zM) (o0 : Nat) (x1 : Int32) (Q : Int32 → Prop) : Prop :=
    ((x1.toInt < 0 ∨ 5 < x1.toInt) → (
    Q (-1000001 : Int32))) ∧
    ((x1.toInt = 0) → (
    ∃ fu42 : Nat, lpX8_count_42 M o0 Q fu42 (0 : Int32) (0 : Int32))) ∧
    ((x1.toInt = 1) → (
    Q (M (o0 + 6) (0 : Int32).toNatClampNeg))) ∧
    ((x1.toInt = 2) → (
    ∃ fu81 : Nat, lpX8_count_81 M o0 Q fu81 (0 : Int32) (0 : Int32))) ∧
    ((x1.toInt = 3) → (
    Q (M (o0 + 6) (1 : Int32).toNatClampNeg))) ∧
    ((x1.toInt = 4) → (
    Q (M o0 8))) ∧
    ((x1.toInt = 5) → (
    Q (M o0 1)))
set_option maxHeartbeats 4000000 in
set_option maxRecDepth 100000 in
theorem kX8_count {l : Launch} {D : va_G} {Y : zY} {ad kd : Nat → Nat} {RL : List Nat} {M : zM} {J : zL} {o0 : Nat} {x1 : Int32} (h_o0 : kd o0 = 8) {Q : Int32 → Prop} (hq : wX8_count M o0 x1 Q) : zCi l yX8_count wsX8_count rmX8_count [.ref (ad o0), .int x1] D Y ad kd RL M J (fun r M' J' => Q r ∧ M = M' ∧ J = J') := by
  refine z_meti (cc := cX8_count) (maxL := 4) (ret := (some .int)) (by decide) rfl (Nat.le_of_ble_eq_true rfl) ?_
  intro p e s m below meth c ls A ar QE hQE hx hb hr hml hown hts hlk hw hl
  have hown : s.vm.findClass RX8 = some m.cls := hown
  have hl : lv_has ls 4 [(0, .ref (ad o0)), (1, .int x1)] := hl
  have hC := hw.2.2.2.2.2.1
  have g8 : ∀ w ∈ wsX80, w.before ar s = true := (fun w h => hts w (List.mem_cons_of_mem _ (List.mem_append_right _ h)))
  have q1 := hts _ (List.mem_of_getElem? (i := 1) rfl)
  have q2 := hts _ (List.mem_of_getElem? (i := 2) rfl)
  have q3 := hts _ (List.mem_of_getElem? (i := 3) rfl)
  have q4 := hts _ (List.mem_of_getElem? (i := 4) rfl)
  unfold wX8_count at hq
  refine lv_iconst (v := (0 : Int32)) hx hb dX8_count_0 (by decide) ?_
  refine lv_istore_n (lv' := [(2, .int (0 : Int32)), (0, .ref (ad o0)), (1, .int x1)]) hx hb dX8_count_1 rfl hl (by decide) rfl (fun ls hl => ?_)
  refine lv_iload_n hx hb dX8_count_2 rfl (lv_at hl 2 rfl) ?_
  by_cases hsw : x1.toInt < 0 ∨ 5 < x1.toInt
  · refine lv_tableOut (tgt := 139) hx hb dX8_count_3 hsw (by decide) ?_
    have hq := hq.1 hsw
    refine lv_ldc (v := (-1000001 : Int32)) hx hb hown q4 dX8_count_139 ?_
    exact z_iret hQE hx hb hr hlk hw dX8_count_141 ⟨hq, rfl, rfl⟩
  · have hq := hq.2
    rcases (show x1.toInt = 0 ∨ x1.toInt = 1 ∨ x1.toInt = 2 ∨ x1.toInt = 3 ∨ x1.toInt = 4 ∨ x1.toInt = 5 by omega) with hs | hs | hs | hs | hs | hs
    · refine lv_tableIn (off := 37) (tgt := 40) hx hb dX8_count_3 (by omega) (by omega) (by rw [hs]; rfl) (by decide) ?_
      have hq := hq.1 hs
      refine lv_iconst (v := (0 : Int32)) hx hb dX8_count_40 (by decide) ?_
      refine lv_istore_n (lv' := [(3, .int (0 : Int32)), (2, .int (0 : Int32)), (0, .ref (ad o0)), (1, .int x1)]) hx hb dX8_count_41 rfl hl (by decide) rfl (fun ls hl => ?_)
      obtain ⟨fu42, hq⟩ := hq
      have lp42 : ∀ (fu42 : Nat) (x4 : Int32) (x5 : Int32) (H : Heap) (locs : List Loc) (ls : Array Slot), lpX8_count_42 M o0 Q fu42 x4 x5 → zH D Y ad kd RL M J A s.heap H locs s → lv_has ls 4 [(0, .ref (ad o0)), (2, .int x4), (3, .int x5)] → W p l e rmX8_count s m ar below meth c H locs 0 0 QE (F0 m 42 ls []) := by
        intro fu42
        induction fu42 with
        | zero => intro x4 x5 H locs ls hq; exact hq.elim
        | succ fu42 ih42 =>
          intro x4 x5 H locs ls hq hw hl
          unfold lpX8_count_42 at hq
          refine lv_iload_n hx hb dX8_count_42 rfl (lv_at hl 2 rfl) ?_
          refine lv_bipush (v := (8 : Int32)) hx hb dX8_count_43 (by decide) ?_
          refine lv_icmp_ge (tgt := 70) hx hb dX8_count_45 (by decide) (fun hc => ?_) (fun hc => ?_)
          · have hq := hq.1 hc
            refine lv_iload_n hx hb dX8_count_70 rfl (lv_at hl 1 rfl) ?_
            exact z_iret hQE hx hb hr hlk hw dX8_count_71 ⟨hq, rfl, rfl⟩
          · have hq := hq.2 hc
            refine lv_iload_n hx hb dX8_count_48 rfl (lv_at hl 1 rfl) ?_
            refine lv_aload_n hx hb dX8_count_49 rfl (lv_at hl 0 rfl) ?_
            refine lv_iload_n hx hb dX8_count_50 rfl (lv_at hl 2 rfl) ?_
            refine z_cvi ⟨hx, hb, hml, hown, hts⟩ hw h_o0 (kX8_isMissing h_o0 hq) (by decide) rfl (cwV 1 hts gX8_count_X8_isMissing rfl rfl rfl (by decide +kernel) ⟨Nat.le_of_ble_eq_true rfl, Nat.le_of_ble_eq_true rfl⟩) rfl hl.1 rfl (Nat.le_of_ble_eq_true rfl) dX8_count_51 ⟨Nat.zero_le _, Nat.zero_le _⟩ (fun r6 M0 J0 H locs hq hw => ?_)
            obtain ⟨hq, rfl, rfl⟩ := hq
            refine lv_if_eq (tgt := 61) hx hb dX8_count_54 (by decide) (fun hc => ?_) (fun hc => ?_)
            · have hq := hq.1 hc
              refine lv_iconst (v := (1 : Int32)) hx hb dX8_count_61 (by decide) ?_
              refine lv_iadd hx hb dX8_count_62 ?_
              refine lv_istore_n (lv' := [(2, .int (x4 + (1 : Int32))), (0, .ref (ad o0)), (3, .int x5)]) hx hb dX8_count_63 rfl hl (by decide) rfl (fun ls hl => ?_)
              obtain ⟨x7, e_x7⟩ : ∃ y : Int32, y = x5 + (1 : Int32) := ⟨_, rfl⟩
              have hq := hq x7 e_x7
              refine lv_iinc (v := x7) (lv' := [(3, .int x7), (2, .int (x4 + (1 : Int32))), (0, .ref (ad o0))]) hx hb dX8_count_64 hl (k := 2) rfl (by rw [e_x7]; rfl) (by decide) rfl (fun ls hl => ?_)
              refine lv_goto (tgt := 42) hx hb dX8_count_67 (by decide) ?_
              exact ih42 (x4 + (1 : Int32)) x7 _ _ _ hq hw (lv_sub hl [2, 1, 0] rfl)
            · have hq := hq.2 hc
              refine lv_iconst (v := (0 : Int32)) hx hb dX8_count_57 (by decide) ?_
              refine lv_goto (tgt := 62) hx hb dX8_count_58 (by decide) ?_
              refine lv_iadd hx hb dX8_count_62 ?_
              refine lv_istore_n (lv' := [(2, .int (x4 + (0 : Int32))), (0, .ref (ad o0)), (3, .int x5)]) hx hb dX8_count_63 rfl hl (by decide) rfl (fun ls hl => ?_)
              obtain ⟨x8, e_x8⟩ : ∃ y : Int32, y = x5 + (1 : Int32) := ⟨_, rfl⟩
              have hq := hq x8 e_x8
              refine lv_iinc (v := x8) (lv' := [(3, .int x8), (2, .int (x4 + (0 : Int32))), (0, .ref (ad o0))]) hx hb dX8_count_64 hl (k := 2) rfl (by rw [e_x8]; rfl) (by decide) rfl (fun ls hl => ?_)
              refine lv_goto (tgt := 42) hx hb dX8_count_67 (by decide) ?_
              exact ih42 (x4 + (0 : Int32)) x8 _ _ _ hq hw (lv_sub hl [2, 1, 0] rfl)
      exact lp42 fu42 (0 : Int32) (0 : Int32) _ _ _ hq hw (lv_sub hl [2, 1, 0] rfl)
    · refine lv_tableIn (off := 69) (tgt := 72) hx hb dX8_count_3 (by omega) (by omega) (by rw [hs]; rfl) (by decide) ?_
      have hq := hq.2.1 hs
      refine lv_aload_n hx hb dX8_count_72 rfl (lv_at hl 1 rfl) ?_
      refine zg8_now hx hb g8 hown hw h_o0 q1 dX8_count_73 ?_
      refine lv_iconst (v := (0 : Int32)) hx hb dX8_count_76 (by decide) ?_
      have hi : vp_in (0 : Int32) 50 := by unfold vp_in; decide
      refine z_iald (n := 50) hx hb hw (zk_8_6 hC h_o0) hi dX8_count_77 ?_
      exact z_iret hQE hx hb hr hlk hw dX8_count_78 ⟨hq, rfl, rfl⟩
    · refine lv_tableIn (off := 76) (tgt := 79) hx hb dX8_count_3 (by omega) (by omega) (by rw [hs]; rfl) (by decide) ?_
      have hq := hq.2.2.1 hs
      refine lv_iconst (v := (0 : Int32)) hx hb dX8_count_79 (by decide) ?_
      refine lv_istore_n (lv' := [(3, .int (0 : Int32)), (2, .int (0 : Int32)), (0, .ref (ad o0)), (1, .int x1)]) hx hb dX8_count_80 rfl hl (by decide) rfl (fun ls hl => ?_)
      obtain ⟨fu81, hq⟩ := hq
      have lp81 : ∀ (fu81 : Nat) (x9 : Int32) (x10 : Int32) (H : Heap) (locs : List Loc) (ls : Array Slot), lpX8_count_81 M o0 Q fu81 x9 x10 → zH D Y ad kd RL M J A s.heap H locs s → lv_has ls 4 [(0, .ref (ad o0)), (2, .int x9), (3, .int x10)] → W p l e rmX8_count s m ar below meth c H locs 0 0 QE (F0 m 81 ls []) := by
        intro fu81
        induction fu81 with
        | zero => intro x9 x10 H locs ls hq; exact hq.elim
        | succ fu81 ih81 =>
          intro x9 x10 H locs ls hq hw hl
          unfold lpX8_count_81 at hq
          refine lv_iload_n hx hb dX8_count_81 rfl (lv_at hl 2 rfl) ?_
          refine lv_aload_n hx hb dX8_count_82 rfl (lv_at hl 0 rfl) ?_
          refine zg8_now hx hb g8 hown hw h_o0 q1 dX8_count_83 ?_
          refine lv_iconst (v := (0 : Int32)) hx hb dX8_count_86 (by decide) ?_
          have hi : vp_in (0 : Int32) 50 := by unfold vp_in; decide
          refine z_iald (n := 50) hx hb hw (zk_8_6 hC h_o0) hi dX8_count_87 ?_
          refine lv_icmp_ge (tgt := 120) hx hb dX8_count_88 (by decide) (fun hc => ?_) (fun hc => ?_)
          · have hq := hq.1 hc
            refine lv_iload_n hx hb dX8_count_120 rfl (lv_at hl 1 rfl) ?_
            exact z_iret hQE hx hb hr hlk hw dX8_count_121 ⟨hq, rfl, rfl⟩
          · have hq := hq.2 hc
            refine lv_iload_n hx hb dX8_count_91 rfl (lv_at hl 1 rfl) ?_
            refine lv_aload_n hx hb dX8_count_92 rfl (lv_at hl 0 rfl) ?_
            refine zg8_now hx hb g8 hown hw h_o0 q1 dX8_count_93 ?_
            refine lv_iconst (v := (2 : Int32)) hx hb dX8_count_96 (by decide) ?_
            refine lv_iconst (v := (4 : Int32)) hx hb dX8_count_97 (by decide) ?_
            refine lv_iload_n hx hb dX8_count_98 rfl (lv_at hl 2 rfl) ?_
            refine lv_imul hx hb dX8_count_99 ?_
            refine lv_iadd hx hb dX8_count_100 ?_
            refine lv_iconst (v := (3 : Int32)) hx hb dX8_count_101 (by decide) ?_
            refine lv_iadd hx hb dX8_count_102 ?_
            refine lv_topi (fun x11 e_x11 => ?_)
            have hq := hq x11 e_x11
            obtain ⟨hi, hq⟩ := hq
            refine z_iald (n := 50) hx hb hw (zk_8_6 hC h_o0) hi dX8_count_103 ?_
            refine lv_if_eq (tgt := 111) hx hb dX8_count_104 (by decide) (fun hc => ?_) (fun hc => ?_)
            · have hq := hq.1 hc
              refine lv_iconst (v := (0 : Int32)) hx hb dX8_count_111 (by decide) ?_
              refine lv_iadd hx hb dX8_count_112 ?_
              refine lv_istore_n (lv' := [(2, .int (x9 + (0 : Int32))), (0, .ref (ad o0)), (3, .int x10)]) hx hb dX8_count_113 rfl hl (by decide) rfl (fun ls hl => ?_)
              obtain ⟨x12, e_x12⟩ : ∃ y : Int32, y = x10 + (1 : Int32) := ⟨_, rfl⟩
              have hq := hq x12 e_x12
              refine lv_iinc (v := x12) (lv' := [(3, .int x12), (2, .int (x9 + (0 : Int32))), (0, .ref (ad o0))]) hx hb dX8_count_114 hl (k := 2) rfl (by rw [e_x12]; rfl) (by decide) rfl (fun ls hl => ?_)
              refine lv_goto (tgt := 81) hx hb dX8_count_117 (by decide) ?_
              exact ih81 (x9 + (0 : Int32)) x12 _ _ _ hq hw (lv_sub hl [2, 1, 0] rfl)
            · have hq := hq.2 hc
              refine lv_iconst (v := (1 : Int32)) hx hb dX8_count_107 (by decide) ?_
              refine lv_goto (tgt := 112) hx hb dX8_count_108 (by decide) ?_
              refine lv_iadd hx hb dX8_count_112 ?_
              refine lv_istore_n (lv' := [(2, .int (x9 + (1 : Int32))), (0, .ref (ad o0)), (3, .int x10)]) hx hb dX8_count_113 rfl hl (by decide) rfl (fun ls hl => ?_)
              obtain ⟨x13, e_x13⟩ : ∃ y : Int32, y = x10 + (1 : Int32) := ⟨_, rfl⟩
              have hq := hq x13 e_x13
              refine lv_iinc (v := x13) (lv' := [(3, .int x13), (2, .int (x9 + (1 : Int32))), (0, .ref (ad o0))]) hx hb dX8_count_114 hl (k := 2) rfl (by rw [e_x13]; rfl) (by decide) rfl (fun ls hl => ?_)
              refine lv_goto (tgt := 81) hx hb dX8_count_117 (by decide) ?_
              exact ih81 (x9 + (1 : Int32)) x13 _ _ _ hq hw (lv_sub hl [2, 1, 0] rfl)
      exact lp81 fu81 (0 : Int32) (0 : Int32) _ _ _ hq hw (lv_sub hl [2, 1, 0] rfl)
    · refine lv_tableIn (off := 119) (tgt := 122) hx hb dX8_count_3 (by omega) (by omega) (by rw [hs]; rfl) (by decide) ?_
      have hq := hq.2.2.2.1 hs
      refine lv_aload_n hx hb dX8_count_122 rfl (lv_at hl 1 rfl) ?_
      refine zg8_now hx hb g8 hown hw h_o0 q1 dX8_count_123 ?_
      refine lv_iconst (v := (1 : Int32)) hx hb dX8_count_126 (by decide) ?_
      have hi : vp_in (1 : Int32) 50 := by unfold vp_in; decide
      refine z_iald (n := 50) hx hb hw (zk_8_6 hC h_o0) hi dX8_count_127 ?_
      exact z_iret hQE hx hb hr hlk hw dX8_count_128 ⟨hq, rfl, rfl⟩
    · refine lv_tableIn (off := 126) (tgt := 129) hx hb dX8_count_3 (by omega) (by omega) (by rw [hs]; rfl) (by decide) ?_
      have hq := hq.2.2.2.2.1 hs
      refine lv_aload_n hx hb dX8_count_129 rfl (lv_at hl 1 rfl) ?_
      refine zg8_acts hx hb g8 hown hw h_o0 q2 dX8_count_130 ?_
      exact z_iret hQE hx hb hr hlk hw dX8_count_133 ⟨hq, rfl, rfl⟩
    · refine lv_tableIn (off := 131) (tgt := 134) hx hb dX8_count_3 (by omega) (by omega) (by rw [hs]; rfl) (by decide) ?_
      have hq := hq.2.2.2.2.2 hs
      refine lv_aload_n hx hb dX8_count_134 rfl (lv_at hl 1 rfl) ?_
      refine zg8_taped hx hb g8 hown hw h_o0 q3 dX8_count_135 ?_
      exact z_iret hQE hx hb hr hlk hw dX8_count_138 ⟨hq, rfl, rfl⟩
theorem dX8_status_0 : decode cX8_status 0 = .ok (.aload_n 0, 1) := by decide +kernel
theorem dX8_status_1 : decode cX8_status 1 = .ok (.getfield 54, 3) := by decide +kernel
theorem dX8_status_4 : decode cX8_status 4 = .ok (.ireturn, 1) := by decide +kernel
def rmX8_status : Room := { frames := 0, cells := 0, slots := 0, locals := 0 }
def wX8_status (M : zM) (o0 : Nat) (Q : Int32 → Prop) : Prop :=
    Q (M o0 0)
set_option maxHeartbeats 4000000 in
set_option maxRecDepth 100000 in
theorem kX8_status {l : Launch} {D : va_G} {Y : zY} {ad kd : Nat → Nat} {RL : List Nat} {M : zM} {J : zL} {o0 : Nat} (h_o0 : kd o0 = 8) {Q : Int32 → Prop} (hq : wX8_status M o0 Q) : zCi l yX8_status wsX8_status rmX8_status [.ref (ad o0)] D Y ad kd RL M J (fun r M' J' => Q r ∧ M = M' ∧ J = J') := by
  refine z_meti (cc := cX8_status) (maxL := 1) (ret := (some .int)) (by decide) rfl (Nat.le_of_ble_eq_true rfl) ?_
  intro p e s m below meth c ls A ar QE hQE hx hb hr hml hown hts hlk hw hl
  have hown : s.vm.findClass RX8 = some m.cls := hown
  have hl : lv_has ls 1 [(0, .ref (ad o0))] := hl
  have hC := hw.2.2.2.2.2.1
  have g8 : ∀ w ∈ wsX80, w.before ar s = true := (fun w h => hts w (List.mem_cons_of_mem _ (List.mem_append_right _ h)))
  have q1 := hts _ (List.mem_of_getElem? (i := 1) rfl)
  unfold wX8_status at hq
  refine lv_aload_n hx hb dX8_status_0 rfl (lv_at hl 0 rfl) ?_
  refine zg8_status hx hb g8 hown hw h_o0 q1 dX8_status_1 ?_
  exact z_iret hQE hx hb hr hlk hw dX8_status_4 ⟨hq, rfl, rfl⟩
