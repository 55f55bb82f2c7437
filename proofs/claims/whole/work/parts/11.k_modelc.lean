set_option maxRecDepth 20000 in
theorem ggX8_reckons_X8_reachAt : GoodIn wsX8_reckons wsX8_reachAt := goodIn_r _ [8, 1, 9, 10, 7, 11, 12, 13, 14, 32, 33, 34, 35, 36, 37, 38, 39, 40, 41, 42, 43, 44, 45, 46, 47, 48, 49, 50, 51, 52, 53, 54, 55, 56, 57] (by decide +kernel) (by decide +kernel)
set_option maxRecDepth 20000 in
theorem gX8_reckons_X8_reachAt : GoodIn wsX8_reckons (wsV RX8 211 RX8 yX8_reachAt wsX8_reachAt) := goodIn_app (goodIn_of _ (by decide +kernel)) ggX8_reckons_X8_reachAt
set_option maxRecDepth 20000 in
theorem ggX8_reckons_X8_costBy : GoodIn wsX8_reckons wsX8_costBy := goodIn_r _ [18, 3, 2, 19, 20, 21, 7, 22, 1, 23, 24, 25, 26, 27, 28, 29, 30, 31, 32, 33, 34, 35, 36, 37, 38, 39, 40, 41, 42, 43, 44, 45, 46, 47, 48, 49, 50, 51, 52, 53, 54, 55, 56, 57] (by decide +kernel) (by decide +kernel)
set_option maxRecDepth 20000 in
theorem gX8_reckons_X8_costBy : GoodIn wsX8_reckons (wsV RX8 214 RX8 yX8_costBy wsX8_costBy) := goodIn_app (goodIn_of _ (by decide +kernel)) ggX8_reckons_X8_costBy
set_option maxRecDepth 20000 in
theorem ggX8_reckons_X8_place : GoodIn wsX8_reckons wsX8_place := goodIn_r _ [31] (by decide +kernel) (by decide +kernel)
set_option maxRecDepth 20000 in
theorem gX8_reckons_X8_place : GoodIn wsX8_reckons (va_wsS RX8 207 yX8_place wsX8_place) := goodIn_app (goodIn_of _ (by decide +kernel)) ggX8_reckons_X8_place
set_option maxRecDepth 20000 in
theorem ggX8_reckons_X8_size : GoodIn wsX8_reckons wsX8_size := goodIn_r _ [28] (by decide +kernel) (by decide +kernel)
set_option maxRecDepth 20000 in
theorem gX8_reckons_X8_size : GoodIn wsX8_reckons (va_wsS RX8 153 yX8_size wsX8_size) := goodIn_app (goodIn_of _ (by decide +kernel)) ggX8_reckons_X8_size
theorem dX8_reckons_0 : decode cX8_reckons 0 = .ok (.aload_n 0, 1) := by decide +kernel
theorem dX8_reckons_1 : decode cX8_reckons 1 = .ok (.getfield 25, 3) := by decide +kernel
theorem dX8_reckons_4 : decode cX8_reckons 4 = .ok (.iconst 0, 1) := by decide +kernel
theorem dX8_reckons_5 : decode cX8_reckons 5 = .ok (.iaload, 1) := by decide +kernel
theorem dX8_reckons_6 : decode cX8_reckons 6 = .ok (.istore_n 2, 1) := by decide +kernel
theorem dX8_reckons_7 : decode cX8_reckons 7 = .ok (.iconst 0, 1) := by decide +kernel
theorem dX8_reckons_8 : decode cX8_reckons 8 = .ok (.istore_n 3, 1) := by decide +kernel
theorem dX8_reckons_9 : decode cX8_reckons 9 = .ok (.iload_n 3, 1) := by decide +kernel
theorem dX8_reckons_10 : decode cX8_reckons 10 = .ok (.sipush 343, 3) := by decide +kernel
theorem dX8_reckons_13 : decode cX8_reckons 13 = .ok (.if_icmp .ge 24, 3) := by decide +kernel
theorem dX8_reckons_16 : decode cX8_reckons 16 = .ok (.aload_n 0, 1) := by decide +kernel
theorem dX8_reckons_17 : decode cX8_reckons 17 = .ok (.getfield 44, 3) := by decide +kernel
theorem dX8_reckons_20 : decode cX8_reckons 20 = .ok (.sipush 343, 3) := by decide +kernel
theorem dX8_reckons_23 : decode cX8_reckons 23 = .ok (.iload_n 2, 1) := by decide +kernel
theorem dX8_reckons_24 : decode cX8_reckons 24 = .ok (.iconst 1, 1) := by decide +kernel
theorem dX8_reckons_25 : decode cX8_reckons 25 = .ok (.isub, 1) := by decide +kernel
theorem dX8_reckons_26 : decode cX8_reckons 26 = .ok (.imul, 1) := by decide +kernel
theorem dX8_reckons_27 : decode cX8_reckons 27 = .ok (.iload_n 3, 1) := by decide +kernel
theorem dX8_reckons_28 : decode cX8_reckons 28 = .ok (.iadd, 1) := by decide +kernel
theorem dX8_reckons_29 : decode cX8_reckons 29 = .ok (.iconst 0, 1) := by decide +kernel
theorem dX8_reckons_30 : decode cX8_reckons 30 = .ok (.iastore, 1) := by decide +kernel
theorem dX8_reckons_31 : decode cX8_reckons 31 = .ok (.iinc 3 1, 3) := by decide +kernel
theorem dX8_reckons_34 : decode cX8_reckons 34 = .ok (.goto (-25), 3) := by decide +kernel
theorem dX8_reckons_37 : decode cX8_reckons 37 = .ok (.iload_n 2, 1) := by decide +kernel
theorem dX8_reckons_38 : decode cX8_reckons 38 = .ok (.iconst 2, 1) := by decide +kernel
theorem dX8_reckons_39 : decode cX8_reckons 39 = .ok (.isub, 1) := by decide +kernel
theorem dX8_reckons_40 : decode cX8_reckons 40 = .ok (.istore_n 3, 1) := by decide +kernel
theorem dX8_reckons_41 : decode cX8_reckons 41 = .ok (.iload_n 3, 1) := by decide +kernel
theorem dX8_reckons_42 : decode cX8_reckons 42 = .ok (.ifCond .lt 168, 3) := by decide +kernel
theorem dX8_reckons_45 : decode cX8_reckons 45 = .ok (.aload_n 0, 1) := by decide +kernel
theorem dX8_reckons_46 : decode cX8_reckons 46 = .ok (.iload_n 3, 1) := by decide +kernel
theorem dX8_reckons_47 : decode cX8_reckons 47 = .ok (.iconst 1, 1) := by decide +kernel
theorem dX8_reckons_48 : decode cX8_reckons 48 = .ok (.isub, 1) := by decide +kernel
theorem dX8_reckons_49 : decode cX8_reckons 49 = .ok (.invokevirtual 211, 3) := by decide +kernel
theorem dX8_reckons_52 : decode cX8_reckons 52 = .ok (.istore 4, 2) := by decide +kernel
theorem dX8_reckons_54 : decode cX8_reckons 54 = .ok (.aload_n 0, 1) := by decide +kernel
theorem dX8_reckons_55 : decode cX8_reckons 55 = .ok (.iload_n 3, 1) := by decide +kernel
theorem dX8_reckons_56 : decode cX8_reckons 56 = .ok (.invokevirtual 211, 3) := by decide +kernel
theorem dX8_reckons_59 : decode cX8_reckons 59 = .ok (.istore 5, 2) := by decide +kernel
theorem dX8_reckons_61 : decode cX8_reckons 61 = .ok (.aload_n 0, 1) := by decide +kernel
theorem dX8_reckons_62 : decode cX8_reckons 62 = .ok (.iload_n 3, 1) := by decide +kernel
theorem dX8_reckons_63 : decode cX8_reckons 63 = .ok (.iconst 1, 1) := by decide +kernel
theorem dX8_reckons_64 : decode cX8_reckons 64 = .ok (.iadd, 1) := by decide +kernel
theorem dX8_reckons_65 : decode cX8_reckons 65 = .ok (.invokevirtual 211, 3) := by decide +kernel
theorem dX8_reckons_68 : decode cX8_reckons 68 = .ok (.istore 6, 2) := by decide +kernel
theorem dX8_reckons_70 : decode cX8_reckons 70 = .ok (.aload_n 0, 1) := by decide +kernel
theorem dX8_reckons_71 : decode cX8_reckons 71 = .ok (.iload_n 3, 1) := by decide +kernel
theorem dX8_reckons_72 : decode cX8_reckons 72 = .ok (.iconst 2, 1) := by decide +kernel
theorem dX8_reckons_73 : decode cX8_reckons 73 = .ok (.iadd, 1) := by decide +kernel
theorem dX8_reckons_74 : decode cX8_reckons 74 = .ok (.invokevirtual 211, 3) := by decide +kernel
theorem dX8_reckons_77 : decode cX8_reckons 77 = .ok (.istore 7, 2) := by decide +kernel
theorem dX8_reckons_79 : decode cX8_reckons 79 = .ok (.iload 4, 2) := by decide +kernel
theorem dX8_reckons_81 : decode cX8_reckons 81 = .ok (.ineg, 1) := by decide +kernel
theorem dX8_reckons_82 : decode cX8_reckons 82 = .ok (.istore 8, 2) := by decide +kernel
theorem dX8_reckons_84 : decode cX8_reckons 84 = .ok (.iload 8, 2) := by decide +kernel
theorem dX8_reckons_86 : decode cX8_reckons 86 = .ok (.iload 4, 2) := by decide +kernel
theorem dX8_reckons_88 : decode cX8_reckons 88 = .ok (.if_icmp .gt 116, 3) := by decide +kernel
theorem dX8_reckons_91 : decode cX8_reckons 91 = .ok (.iload 5, 2) := by decide +kernel
theorem dX8_reckons_93 : decode cX8_reckons 93 = .ok (.ineg, 1) := by decide +kernel
theorem dX8_reckons_94 : decode cX8_reckons 94 = .ok (.istore 9, 2) := by decide +kernel
theorem dX8_reckons_96 : decode cX8_reckons 96 = .ok (.iload 9, 2) := by decide +kernel
theorem dX8_reckons_98 : decode cX8_reckons 98 = .ok (.iload 5, 2) := by decide +kernel
theorem dX8_reckons_100 : decode cX8_reckons 100 = .ok (.if_icmp .gt 98, 3) := by decide +kernel
theorem dX8_reckons_103 : decode cX8_reckons 103 = .ok (.iload 6, 2) := by decide +kernel
theorem dX8_reckons_105 : decode cX8_reckons 105 = .ok (.ineg, 1) := by decide +kernel
theorem dX8_reckons_106 : decode cX8_reckons 106 = .ok (.istore 10, 2) := by decide +kernel
theorem dX8_reckons_108 : decode cX8_reckons 108 = .ok (.iload 10, 2) := by decide +kernel
theorem dX8_reckons_110 : decode cX8_reckons 110 = .ok (.iload 6, 2) := by decide +kernel
theorem dX8_reckons_112 : decode cX8_reckons 112 = .ok (.if_icmp .gt 80, 3) := by decide +kernel
theorem dX8_reckons_115 : decode cX8_reckons 115 = .ok (.ldc 184, 2) := by decide +kernel
theorem dX8_reckons_117 : decode cX8_reckons 117 = .ok (.istore 11, 2) := by decide +kernel
theorem dX8_reckons_119 : decode cX8_reckons 119 = .ok (.iload 7, 2) := by decide +kernel
theorem dX8_reckons_121 : decode cX8_reckons 121 = .ok (.ineg, 1) := by decide +kernel
theorem dX8_reckons_122 : decode cX8_reckons 122 = .ok (.istore 12, 2) := by decide +kernel
theorem dX8_reckons_124 : decode cX8_reckons 124 = .ok (.iload 12, 2) := by decide +kernel
theorem dX8_reckons_126 : decode cX8_reckons 126 = .ok (.iload 7, 2) := by decide +kernel
theorem dX8_reckons_128 : decode cX8_reckons 128 = .ok (.if_icmp .gt 41, 3) := by decide +kernel
theorem dX8_reckons_131 : decode cX8_reckons 131 = .ok (.aload_n 0, 1) := by decide +kernel
theorem dX8_reckons_132 : decode cX8_reckons 132 = .ok (.iload_n 3, 1) := by decide +kernel
theorem dX8_reckons_133 : decode cX8_reckons 133 = .ok (.iload 8, 2) := by decide +kernel
theorem dX8_reckons_135 : decode cX8_reckons 135 = .ok (.iload 9, 2) := by decide +kernel
theorem dX8_reckons_137 : decode cX8_reckons 137 = .ok (.iload 10, 2) := by decide +kernel
theorem dX8_reckons_139 : decode cX8_reckons 139 = .ok (.iload 12, 2) := by decide +kernel
theorem dX8_reckons_141 : decode cX8_reckons 141 = .ok (.iload_n 1, 1) := by decide +kernel
theorem dX8_reckons_142 : decode cX8_reckons 142 = .ok (.invokevirtual 214, 3) := by decide +kernel
theorem dX8_reckons_145 : decode cX8_reckons 145 = .ok (.istore 13, 2) := by decide +kernel
theorem dX8_reckons_147 : decode cX8_reckons 147 = .ok (.iload 13, 2) := by decide +kernel
theorem dX8_reckons_149 : decode cX8_reckons 149 = .ok (.iload 11, 2) := by decide +kernel
theorem dX8_reckons_151 : decode cX8_reckons 151 = .ok (.if_icmp .ge 8, 3) := by decide +kernel
theorem dX8_reckons_154 : decode cX8_reckons 154 = .ok (.iload 13, 2) := by decide +kernel
theorem dX8_reckons_156 : decode cX8_reckons 156 = .ok (.goto 5, 3) := by decide +kernel
theorem dX8_reckons_159 : decode cX8_reckons 159 = .ok (.iload 11, 2) := by decide +kernel
theorem dX8_reckons_161 : decode cX8_reckons 161 = .ok (.istore 11, 2) := by decide +kernel
theorem dX8_reckons_163 : decode cX8_reckons 163 = .ok (.iinc 12 1, 3) := by decide +kernel
theorem dX8_reckons_166 : decode cX8_reckons 166 = .ok (.goto (-42), 3) := by decide +kernel
theorem dX8_reckons_169 : decode cX8_reckons 169 = .ok (.aload_n 0, 1) := by decide +kernel
theorem dX8_reckons_170 : decode cX8_reckons 170 = .ok (.getfield 44, 3) := by decide +kernel
theorem dX8_reckons_173 : decode cX8_reckons 173 = .ok (.iload_n 3, 1) := by decide +kernel
theorem dX8_reckons_174 : decode cX8_reckons 174 = .ok (.iload 8, 2) := by decide +kernel
theorem dX8_reckons_176 : decode cX8_reckons 176 = .ok (.iload 9, 2) := by decide +kernel
theorem dX8_reckons_178 : decode cX8_reckons 178 = .ok (.iload 10, 2) := by decide +kernel
theorem dX8_reckons_180 : decode cX8_reckons 180 = .ok (.invokestatic 207, 3) := by decide +kernel
theorem dX8_reckons_183 : decode cX8_reckons 183 = .ok (.iload 11, 2) := by decide +kernel
theorem dX8_reckons_185 : decode cX8_reckons 185 = .ok (.iastore, 1) := by decide +kernel
theorem dX8_reckons_186 : decode cX8_reckons 186 = .ok (.iinc 10 1, 3) := by decide +kernel
theorem dX8_reckons_189 : decode cX8_reckons 189 = .ok (.goto (-81), 3) := by decide +kernel
theorem dX8_reckons_192 : decode cX8_reckons 192 = .ok (.iinc 9 1, 3) := by decide +kernel
theorem dX8_reckons_195 : decode cX8_reckons 195 = .ok (.goto (-99), 3) := by decide +kernel
theorem dX8_reckons_198 : decode cX8_reckons 198 = .ok (.iinc 8 1, 3) := by decide +kernel
theorem dX8_reckons_201 : decode cX8_reckons 201 = .ok (.goto (-117), 3) := by decide +kernel
theorem dX8_reckons_204 : decode cX8_reckons 204 = .ok (.iinc 3 (-1), 3) := by decide +kernel
theorem dX8_reckons_207 : decode cX8_reckons 207 = .ok (.goto (-166), 3) := by decide +kernel
theorem dX8_reckons_210 : decode cX8_reckons 210 = .ok (.ldc 184, 2) := by decide +kernel
theorem dX8_reckons_212 : decode cX8_reckons 212 = .ok (.istore_n 3, 1) := by decide +kernel
theorem dX8_reckons_213 : decode cX8_reckons 213 = .ok (.aload_n 0, 1) := by decide +kernel
theorem dX8_reckons_214 : decode cX8_reckons 214 = .ok (.iconst 0, 1) := by decide +kernel
theorem dX8_reckons_215 : decode cX8_reckons 215 = .ok (.invokevirtual 211, 3) := by decide +kernel
theorem dX8_reckons_218 : decode cX8_reckons 218 = .ok (.istore 4, 2) := by decide +kernel
theorem dX8_reckons_220 : decode cX8_reckons 220 = .ok (.aload_n 0, 1) := by decide +kernel
theorem dX8_reckons_221 : decode cX8_reckons 221 = .ok (.iconst 1, 1) := by decide +kernel
theorem dX8_reckons_222 : decode cX8_reckons 222 = .ok (.invokevirtual 211, 3) := by decide +kernel
theorem dX8_reckons_225 : decode cX8_reckons 225 = .ok (.istore 5, 2) := by decide +kernel
theorem dX8_reckons_227 : decode cX8_reckons 227 = .ok (.iload 4, 2) := by decide +kernel
theorem dX8_reckons_229 : decode cX8_reckons 229 = .ok (.ineg, 1) := by decide +kernel
theorem dX8_reckons_230 : decode cX8_reckons 230 = .ok (.istore 6, 2) := by decide +kernel
theorem dX8_reckons_232 : decode cX8_reckons 232 = .ok (.iload 6, 2) := by decide +kernel
theorem dX8_reckons_234 : decode cX8_reckons 234 = .ok (.iload 4, 2) := by decide +kernel
theorem dX8_reckons_236 : decode cX8_reckons 236 = .ok (.if_icmp .gt 84, 3) := by decide +kernel
theorem dX8_reckons_239 : decode cX8_reckons 239 = .ok (.iload 5, 2) := by decide +kernel
theorem dX8_reckons_241 : decode cX8_reckons 241 = .ok (.ineg, 1) := by decide +kernel
theorem dX8_reckons_242 : decode cX8_reckons 242 = .ok (.istore 7, 2) := by decide +kernel
theorem dX8_reckons_244 : decode cX8_reckons 244 = .ok (.iload 7, 2) := by decide +kernel
theorem dX8_reckons_246 : decode cX8_reckons 246 = .ok (.iload 5, 2) := by decide +kernel
theorem dX8_reckons_248 : decode cX8_reckons 248 = .ok (.if_icmp .gt 66, 3) := by decide +kernel
theorem dX8_reckons_251 : decode cX8_reckons 251 = .ok (.aload_n 0, 1) := by decide +kernel
theorem dX8_reckons_252 : decode cX8_reckons 252 = .ok (.getfield 44, 3) := by decide +kernel
theorem dX8_reckons_255 : decode cX8_reckons 255 = .ok (.iconst 0, 1) := by decide +kernel
theorem dX8_reckons_256 : decode cX8_reckons 256 = .ok (.iconst 0, 1) := by decide +kernel
theorem dX8_reckons_257 : decode cX8_reckons 257 = .ok (.iload 6, 2) := by decide +kernel
theorem dX8_reckons_259 : decode cX8_reckons 259 = .ok (.iload 7, 2) := by decide +kernel
theorem dX8_reckons_261 : decode cX8_reckons 261 = .ok (.invokestatic 207, 3) := by decide +kernel
theorem dX8_reckons_264 : decode cX8_reckons 264 = .ok (.iaload, 1) := by decide +kernel
theorem dX8_reckons_265 : decode cX8_reckons 265 = .ok (.istore 8, 2) := by decide +kernel
theorem dX8_reckons_267 : decode cX8_reckons 267 = .ok (.iload 8, 2) := by decide +kernel
theorem dX8_reckons_269 : decode cX8_reckons 269 = .ok (.ldc 184, 2) := by decide +kernel
theorem dX8_reckons_271 : decode cX8_reckons 271 = .ok (.if_icmp .ne 8, 3) := by decide +kernel
theorem dX8_reckons_274 : decode cX8_reckons 274 = .ok (.ldc 184, 2) := by decide +kernel
theorem dX8_reckons_276 : decode cX8_reckons 276 = .ok (.goto 17, 3) := by decide +kernel
theorem dX8_reckons_279 : decode cX8_reckons 279 = .ok (.iload 8, 2) := by decide +kernel
theorem dX8_reckons_281 : decode cX8_reckons 281 = .ok (.iload 6, 2) := by decide +kernel
theorem dX8_reckons_283 : decode cX8_reckons 283 = .ok (.invokestatic 153, 3) := by decide +kernel
theorem dX8_reckons_286 : decode cX8_reckons 286 = .ok (.iadd, 1) := by decide +kernel
theorem dX8_reckons_287 : decode cX8_reckons 287 = .ok (.iload 7, 2) := by decide +kernel
theorem dX8_reckons_289 : decode cX8_reckons 289 = .ok (.invokestatic 153, 3) := by decide +kernel
theorem dX8_reckons_292 : decode cX8_reckons 292 = .ok (.iadd, 1) := by decide +kernel
theorem dX8_reckons_293 : decode cX8_reckons 293 = .ok (.istore 8, 2) := by decide +kernel
theorem dX8_reckons_295 : decode cX8_reckons 295 = .ok (.iload 8, 2) := by decide +kernel
theorem dX8_reckons_297 : decode cX8_reckons 297 = .ok (.iload_n 3, 1) := by decide +kernel
theorem dX8_reckons_298 : decode cX8_reckons 298 = .ok (.if_icmp .ge 8, 3) := by decide +kernel
theorem dX8_reckons_301 : decode cX8_reckons 301 = .ok (.iload 8, 2) := by decide +kernel
theorem dX8_reckons_303 : decode cX8_reckons 303 = .ok (.goto 4, 3) := by decide +kernel
theorem dX8_reckons_306 : decode cX8_reckons 306 = .ok (.iload_n 3, 1) := by decide +kernel
theorem dX8_reckons_307 : decode cX8_reckons 307 = .ok (.istore_n 3, 1) := by decide +kernel
theorem dX8_reckons_308 : decode cX8_reckons 308 = .ok (.iinc 7 1, 3) := by decide +kernel
theorem dX8_reckons_311 : decode cX8_reckons 311 = .ok (.goto (-67), 3) := by decide +kernel
theorem dX8_reckons_314 : decode cX8_reckons 314 = .ok (.iinc 6 1, 3) := by decide +kernel
theorem dX8_reckons_317 : decode cX8_reckons 317 = .ok (.goto (-85), 3) := by decide +kernel
theorem dX8_reckons_320 : decode cX8_reckons 320 = .ok (.iload_n 3, 1) := by decide +kernel
theorem dX8_reckons_321 : decode cX8_reckons 321 = .ok (.ireturn, 1) := by decide +kernel
def rmX8_reckons : Room := { frames := 3, cells := 0, slots := 0, locals := 76 }
def jnX8_reckons_293 (x17 : Int32) (x18 : Int32) (B244 : Int32 → Int32 → Prop) (x26 : Int32) : Prop :=
    ((x17 ≤ x26) → (
    ∀ x27 : Int32, x27 = x18 + (1 : Int32) →
    B244 x17 x27)) ∧
    ((¬ x17 ≤ x26) → (
    ∀ x28 : Int32, x28 = x18 + (1 : Int32) →
    B244 x26 x28))
def lpX8_reckons_244 (o0 : Nat) (M12 : zM) (r14 : Int32) (x16 : Int32) (K244_314 : Int32 → Int32 → Prop) : Nat → Int32 → Int32 → Prop
  | 0, _, _ => False
  | fu244 + 1, x17, x18 =>
    ((r14 < x18) → (
    K244_314 x17 x18)) ∧
    ((¬ r14 < x18) → (
    wX8_place M12 (0 : Int32) (0 : Int32) x16 x18 (fun r22 =>
    vp_in r22 4116 ∧
    ((¬ (M12 (o0 + 12) r22.toNatClampNeg) = (1000000000 : Int32)) → (
    wX8_size M12 x16 (fun r29 =>
    wX8_size M12 x18 (fun r30 =>
    ∀ x31 : Int32, x31 = (((M12 (o0 + 12) r22.toNatClampNeg) + r29) + r30) →
    jnX8_reckons_293 x17 x18 (lpX8_reckons_244 o0 M12 r14 x16 K244_314 fu244) x31)))) ∧
    (((M12 (o0 + 12) r22.toNatClampNeg) = (1000000000 : Int32)) → (
    jnX8_reckons_293 x17 x18 (lpX8_reckons_244 o0 M12 r14 x16 K244_314 fu244) (1000000000 : Int32))))))
def lpX8_reckons_232 (o0 : Nat) (M12 : zM) (r13 : Int32) (r14 : Int32) (Q : Int32 → zM → Prop) : Nat → Int32 → Int32 → Prop
  | 0, _, _ => False
  | fu232 + 1, x15, x16 =>
    ((r13 < x16) → (
    Q x15 M12)) ∧
    ((¬ r13 < x16) → (
    ∃ fu244 : Nat, lpX8_reckons_244 o0 M12 r14 x16 (fun x19 x20 =>
    ∀ x21 : Int32, x21 = x16 + (1 : Int32) →
    lpX8_reckons_232 o0 M12 r13 r14 Q fu232 x19 x21) fu244 x15 (-r14)))
def lpX8_reckons_124 (o0 : Nat) (x1 : Int32) (x9 : Int32) (r35 : Int32) (x36 : Int32) (x41 : Int32) (x46 : Int32) (M47 : zM) (K124_169 : Int32 → Int32 → Prop) : Nat → Int32 → Int32 → Prop
  | 0, _, _ => False
  | fu124 + 1, x51, x52 =>
    ((r35 < x52) → (
    K124_169 x51 x52)) ∧
    ((¬ r35 < x52) → (
    wX8_costBy M47 o0 x9 x36 x41 x46 x52 x1 (fun r58 =>
    ((x51 ≤ r58) → (
    ∀ x59 : Int32, x59 = x52 + (1 : Int32) →
    lpX8_reckons_124 o0 x1 x9 r35 x36 x41 x46 M47 K124_169 fu124 x51 x59)) ∧
    ((¬ x51 ≤ r58) → (
    ∀ x60 : Int32, x60 = x52 + (1 : Int32) →
    lpX8_reckons_124 o0 x1 x9 r35 x36 x41 x46 M47 K124_169 fu124 r58 x60)))))
def lpX8_reckons_108 (o0 : Nat) (x1 : Int32) (x9 : Int32) (r34 : Int32) (r35 : Int32) (x36 : Int32) (x41 : Int32) (K108_192 : Int32 → zM → Prop) : Nat → Int32 → zM → Prop
  | 0, _, _ => False
  | fu108 + 1, x46, M47 =>
    ((r34 < x46) → (
    K108_192 x46 M47)) ∧
    ((¬ r34 < x46) → (
    ∃ fu124 : Nat, lpX8_reckons_124 o0 x1 x9 r35 x36 x41 x46 M47 (fun x53 x54 =>
    wX8_place M47 x9 x36 x41 x46 (fun r55 =>
    vp_in r55 4116 ∧
    ∀ M56 : zM, M56 = va_up M47 (o0 + 12) (upd (M47 (o0 + 12)) r55.toNatClampNeg x53) →
    ∀ x57 : Int32, x57 = x46 + (1 : Int32) →
    lpX8_reckons_108 o0 x1 x9 r34 r35 x36 x41 K108_192 fu108 x57 M56)) fu124 (1000000000 : Int32) (-r35)))
def lpX8_reckons_96 (o0 : Nat) (x1 : Int32) (x9 : Int32) (r33 : Int32) (r34 : Int32) (r35 : Int32) (x36 : Int32) (K96_198 : Int32 → zM → Prop) : Nat → Int32 → zM → Prop
  | 0, _, _ => False
  | fu96 + 1, x41, M42 =>
    ((r33 < x41) → (
    K96_198 x41 M42)) ∧
    ((¬ r33 < x41) → (
    ∃ fu108 : Nat, lpX8_reckons_108 o0 x1 x9 r34 r35 x36 x41 (fun x48 M49 =>
    ∀ x50 : Int32, x50 = x41 + (1 : Int32) →
    lpX8_reckons_96 o0 x1 x9 r33 r34 r35 x36 K96_198 fu96 x50 M49) fu108 (-r34) M42))
def lpX8_reckons_84 (o0 : Nat) (x1 : Int32) (x9 : Int32) (r32 : Int32) (r33 : Int32) (r34 : Int32) (r35 : Int32) (K84_204 : Int32 → zM → Prop) : Nat → Int32 → zM → Prop
  | 0, _, _ => False
  | fu84 + 1, x36, M37 =>
    ((r32 < x36) → (
    K84_204 x36 M37)) ∧
    ((¬ r32 < x36) → (
    ∃ fu96 : Nat, lpX8_reckons_96 o0 x1 x9 r33 r34 r35 x36 (fun x43 M44 =>
    ∀ x45 : Int32, x45 = x36 + (1 : Int32) →
    lpX8_reckons_84 o0 x1 x9 r32 r33 r34 r35 K84_204 fu84 x45 M44) fu96 (-r33) M37))
def lpX8_reckons_41 (o0 : Nat) (x1 : Int32) (K41_210 : Int32 → zM → Prop) : Nat → Int32 → zM → Prop
  | 0, _, _ => False
  | fu41 + 1, x9, M10 =>
    ((x9 < 0) → (
    K41_210 x9 M10)) ∧
    ((¬ x9 < 0) → (
    wX8_reachAt M10 o0 (x9 - (1 : Int32)) (fun r32 =>
    wX8_reachAt M10 o0 x9 (fun r33 =>
    wX8_reachAt M10 o0 (x9 + (1 : Int32)) (fun r34 =>
    wX8_reachAt M10 o0 (x9 + (2 : Int32)) (fun r35 =>
    ∃ fu84 : Nat, lpX8_reckons_84 o0 x1 x9 r32 r33 r34 r35 (fun x38 M39 =>
    ∀ x40 : Int32, x40 = x9 + (-1 : Int32) →
    lpX8_reckons_41 o0 x1 K41_210 fu41 x40 M39) fu84 (-r32) M10))))))
def lpX8_reckons_9 (M : zM) (o0 : Nat) (K9_37 : Int32 → zM → Prop) : Nat → Int32 → zM → Prop
  | 0, _, _ => False
  | fu9 + 1, x4, M5 =>
    (((343 : Int32) ≤ x4) → (
    K9_37 x4 M5)) ∧
    ((¬ (343 : Int32) ≤ x4) → (
    ∀ x61 : Int32, x61 = ((M (o0 + 6) (0 : Int32).toNatClampNeg) - (1 : Int32)) →
    vp_in (((343 : Int32) * x61) + x4) 4116 ∧
    ∀ M62 : zM, M62 = va_up M5 (o0 + 12) (upd (M5 (o0 + 12)) (((343 : Int32) * x61) + x4).toNatClampNeg (0 : Int32)) →
    ∀ x63 : Int32, x63 = x4 + (1 : Int32) →
    lpX8_reckons_9 M o0 K9_37 fu9 x63 M62))
def wX8_reckons (M : zM) (o0 : Nat) (x1 : Int32) (Q : Int32 → zM → Prop) : Prop :=
    ∃ fu9 : Nat, lpX8_reckons_9 M o0 (fun x6 M7 =>
    ∀ x8 : Int32, x8 = ((M (o0 + 6) (0 : Int32).toNatClampNeg) - (2 : Int32)) →
    ∃ fu41 : Nat, lpX8_reckons_41 o0 x1 (fun x11 M12 =>
    wX8_reachAt M12 o0 (0 : Int32) (fun r13 =>
    wX8_reachAt M12 o0 (1 : Int32) (fun r14 =>
    ∃ fu232 : Nat, lpX8_reckons_232 o0 M12 r13 r14 Q fu232 (1000000000 : Int32) (-r13)))) fu41 x8 M7) fu9 (0 : Int32) M
set_option maxHeartbeats 4000000 in
set_option maxRecDepth 100000 in
theorem kX8_reckons {l : Launch} {D : va_G} {Y : zY} {ad kd : Nat → Nat} {RL : List Nat} {M : zM} {J : zL} {o0 : Nat} {x1 : Int32} (h_o0 : kd o0 = 8) {Q : Int32 → zM → Prop} (hq : wX8_reckons M o0 x1 Q) : zCi l yX8_reckons wsX8_reckons rmX8_reckons [.ref (ad o0), .int x1] D Y ad kd RL M J (fun r M' J' => Q r M' ∧ J = J') := by
  refine z_meti (cc := cX8_reckons) (maxL := 14) (ret := (some .int)) (by decide) rfl (Nat.le_of_ble_eq_true rfl) ?_
  intro p e s m below meth c ls A ar QE hQE hx hb hr hml hown hts hlk hw hl
  have hown : s.vm.findClass RX8 = some m.cls := hown
  have hl : lv_has ls 14 [(0, .ref (ad o0)), (1, .int x1)] := hl
  have hC := hw.2.2.2.2.2.1
  have g8 : ∀ w ∈ wsX80, w.before ar s = true := (fun w h => hts w (List.mem_cons_of_mem _ (List.mem_append_right _ h)))
  have q1 := hts _ (List.mem_of_getElem? (i := 1) rfl)
  have q2 := hts _ (List.mem_of_getElem? (i := 2) rfl)
  have q3 := hts _ (List.mem_of_getElem? (i := 3) rfl)
  unfold wX8_reckons at hq
  refine lv_aload_n hx hb dX8_reckons_0 rfl (lv_at hl 0 rfl) ?_
  refine zg8_now hx hb g8 hown hw h_o0 q1 dX8_reckons_1 ?_
  refine lv_iconst (v := (0 : Int32)) hx hb dX8_reckons_4 (by decide) ?_
  have hi : vp_in (0 : Int32) 50 := by unfold vp_in; decide
  refine z_iald (n := 50) hx hb hw (zk_8_6 hC h_o0) hi dX8_reckons_5 ?_
  refine lv_istore_n (lv' := [(2, .int (M (o0 + 6) (0 : Int32).toNatClampNeg)), (0, .ref (ad o0)), (1, .int x1)]) hx hb dX8_reckons_6 rfl hl (by decide) rfl (fun ls hl => ?_)
  refine lv_iconst (v := (0 : Int32)) hx hb dX8_reckons_7 (by decide) ?_
  refine lv_istore_n (lv' := [(3, .int (0 : Int32)), (2, .int (M (o0 + 6) (0 : Int32).toNatClampNeg)), (0, .ref (ad o0)), (1, .int x1)]) hx hb dX8_reckons_8 rfl hl (by decide) rfl (fun ls hl => ?_)
  have ex9_37 : ∀ (x6 : Int32) (M7 : zM) (H : Heap) (locs : List Loc) (ls : Array Slot), (∀ x8 : Int32, x8 = ((M (o0 + 6) (0 : Int32).toNatClampNeg) - (2 : Int32)) → ∃ fu41 : Nat, lpX8_reckons_41 o0 x1 (fun x11 M12 => wX8_reachAt M12 o0 (0 : Int32) (fun r13 => wX8_reachAt M12 o0 (1 : Int32) (fun r14 => ∃ fu232 : Nat, lpX8_reckons_232 o0 M12 r13 r14 Q fu232 (1000000000 : Int32) (-r13)))) fu41 x8 M7) → zH D Y ad kd RL M7 J A s.heap H locs s → lv_has ls 14 [(0, .ref (ad o0)), (1, .int x1), (2, .int (M (o0 + 6) (0 : Int32).toNatClampNeg))] → W p l e rmX8_reckons s m ar below meth c H locs 0 0 QE (F0 m 37 ls []) := by
    intro x6 M7 H locs ls hq hw hl
    refine lv_iload_n hx hb dX8_reckons_37 rfl (lv_at hl 2 rfl) ?_
    refine lv_iconst (v := (2 : Int32)) hx hb dX8_reckons_38 (by decide) ?_
    refine lv_isub hx hb dX8_reckons_39 ?_
    refine lv_topi (fun x8 e_x8 => ?_)
    have hq := hq x8 e_x8
    refine lv_istore_n (lv' := [(3, .int x8), (0, .ref (ad o0)), (1, .int x1), (2, .int (M (o0 + 6) (0 : Int32).toNatClampNeg))]) hx hb dX8_reckons_40 rfl hl (by decide) rfl (fun ls hl => ?_)
    have ex41_210 : ∀ (x11 : Int32) (M12 : zM) (H : Heap) (locs : List Loc) (ls : Array Slot), (wX8_reachAt M12 o0 (0 : Int32) (fun r13 => wX8_reachAt M12 o0 (1 : Int32) (fun r14 => ∃ fu232 : Nat, lpX8_reckons_232 o0 M12 r13 r14 Q fu232 (1000000000 : Int32) (-r13)))) → zH D Y ad kd RL M12 J A s.heap H locs s → lv_has ls 14 [(0, .ref (ad o0))] → W p l e rmX8_reckons s m ar below meth c H locs 0 0 QE (F0 m 210 ls []) := by
      intro x11 M12 H locs ls hq hw hl
      refine lv_ldc (v := (1000000000 : Int32)) hx hb hown q3 dX8_reckons_210 ?_
      refine lv_istore_n (lv' := [(3, .int (1000000000 : Int32)), (0, .ref (ad o0))]) hx hb dX8_reckons_212 rfl hl (by decide) rfl (fun ls hl => ?_)
      refine lv_aload_n hx hb dX8_reckons_213 rfl (lv_at hl 1 rfl) ?_
      refine lv_iconst (v := (0 : Int32)) hx hb dX8_reckons_214 (by decide) ?_
      refine z_cvi ⟨hx, hb, hml, hown, hts⟩ hw h_o0 (kX8_reachAt h_o0 hq) (by decide) rfl (cwV 1 hts gX8_reckons_X8_reachAt rfl rfl rfl (by decide +kernel) ⟨Nat.le_of_ble_eq_true rfl, Nat.le_of_ble_eq_true rfl⟩) rfl hl.1 rfl (Nat.le_of_ble_eq_true rfl) dX8_reckons_215 ⟨Nat.zero_le _, Nat.zero_le _⟩ (fun r13 M0 J0 H locs hq hw => ?_)
      obtain ⟨hq, rfl, rfl⟩ := hq
      refine lv_istore (lv' := [(4, .int r13), (3, .int (1000000000 : Int32)), (0, .ref (ad o0))]) hx hb dX8_reckons_218 hl (by decide) rfl (fun ls hl => ?_)
      refine lv_aload_n hx hb dX8_reckons_220 rfl (lv_at hl 2 rfl) ?_
      refine lv_iconst (v := (1 : Int32)) hx hb dX8_reckons_221 (by decide) ?_
      refine z_cvi ⟨hx, hb, hml, hown, hts⟩ hw h_o0 (kX8_reachAt h_o0 hq) (by decide) rfl (cwV 1 hts gX8_reckons_X8_reachAt rfl rfl rfl (by decide +kernel) ⟨Nat.le_of_ble_eq_true rfl, Nat.le_of_ble_eq_true rfl⟩) rfl hl.1 rfl (Nat.le_of_ble_eq_true rfl) dX8_reckons_222 ⟨Nat.zero_le _, Nat.zero_le _⟩ (fun r14 M0 J0 H locs hq hw => ?_)
      obtain ⟨hq, rfl, rfl⟩ := hq
      refine lv_istore (lv' := [(5, .int r14), (4, .int r13), (3, .int (1000000000 : Int32)), (0, .ref (ad o0))]) hx hb dX8_reckons_225 hl (by decide) rfl (fun ls hl => ?_)
      refine lv_iload hx hb dX8_reckons_227 (lv_at hl 1 rfl) ?_
      refine lv_ineg hx hb dX8_reckons_229 ?_
      refine lv_istore (lv' := [(6, .int (-r13)), (5, .int r14), (4, .int r13), (3, .int (1000000000 : Int32)), (0, .ref (ad o0))]) hx hb dX8_reckons_230 hl (by decide) rfl (fun ls hl => ?_)
      obtain ⟨fu232, hq⟩ := hq
      have lp232 : ∀ (fu232 : Nat) (x15 : Int32) (x16 : Int32) (H : Heap) (locs : List Loc) (ls : Array Slot), lpX8_reckons_232 o0 M12 r13 r14 Q fu232 x15 x16 → zH D Y ad kd RL M12 J A s.heap H locs s → lv_has ls 14 [(0, .ref (ad o0)), (3, .int x15), (4, .int r13), (5, .int r14), (6, .int x16)] → W p l e rmX8_reckons s m ar below meth c H locs 0 0 QE (F0 m 232 ls []) := by
        intro fu232
        induction fu232 with
        | zero => intro x15 x16 H locs ls hq; exact hq.elim
        | succ fu232 ih232 =>
          intro x15 x16 H locs ls hq hw hl
          unfold lpX8_reckons_232 at hq
          refine lv_iload hx hb dX8_reckons_232 (lv_at hl 4 rfl) ?_
          refine lv_iload hx hb dX8_reckons_234 (lv_at hl 2 rfl) ?_
          refine lv_icmp_gt (tgt := 320) hx hb dX8_reckons_236 (by decide) (fun hc => ?_) (fun hc => ?_)
          · have hq := hq.1 hc
            refine lv_iload_n hx hb dX8_reckons_320 rfl (lv_at hl 1 rfl) ?_
            exact z_iret hQE hx hb hr hlk hw dX8_reckons_321 ⟨hq, rfl⟩
          · have hq := hq.2 hc
            refine lv_iload hx hb dX8_reckons_239 (lv_at hl 3 rfl) ?_
            refine lv_ineg hx hb dX8_reckons_241 ?_
            refine lv_istore (lv' := [(7, .int (-r14)), (0, .ref (ad o0)), (3, .int x15), (4, .int r13), (5, .int r14), (6, .int x16)]) hx hb dX8_reckons_242 hl (by decide) rfl (fun ls hl => ?_)
            have ex244_314 : ∀ (x19 : Int32) (x20 : Int32) (H : Heap) (locs : List Loc) (ls : Array Slot), (∀ x21 : Int32, x21 = x16 + (1 : Int32) → lpX8_reckons_232 o0 M12 r13 r14 Q fu232 x19 x21) → zH D Y ad kd RL M12 J A s.heap H locs s → lv_has ls 14 [(0, .ref (ad o0)), (3, .int x19), (4, .int r13), (5, .int r14), (6, .int x16)] → W p l e rmX8_reckons s m ar below meth c H locs 0 0 QE (F0 m 314 ls []) := by
              intro x19 x20 H locs ls hq hw hl
              obtain ⟨x21, e_x21⟩ : ∃ y : Int32, y = x16 + (1 : Int32) := ⟨_, rfl⟩
              have hq := hq x21 e_x21
              refine lv_iinc (v := x21) (lv' := [(6, .int x21), (0, .ref (ad o0)), (3, .int x19), (4, .int r13), (5, .int r14)]) hx hb dX8_reckons_314 hl (k := 4) rfl (by rw [e_x21]; rfl) (by decide) rfl (fun ls hl => ?_)
              refine lv_goto (tgt := 232) hx hb dX8_reckons_317 (by decide) ?_
              exact ih232 x19 x21 _ _ _ hq hw (lv_sub hl [1, 2, 3, 4, 0] rfl)
            obtain ⟨fu244, hq⟩ := hq
            have lp244 : ∀ (fu244 : Nat) (x17 : Int32) (x18 : Int32) (H : Heap) (locs : List Loc) (ls : Array Slot), lpX8_reckons_244 o0 M12 r14 x16 (fun x19 x20 => ∀ x21 : Int32, x21 = x16 + (1 : Int32) → lpX8_reckons_232 o0 M12 r13 r14 Q fu232 x19 x21) fu244 x17 x18 → zH D Y ad kd RL M12 J A s.heap H locs s → lv_has ls 14 [(0, .ref (ad o0)), (3, .int x17), (4, .int r13), (5, .int r14), (6, .int x16), (7, .int x18)] → W p l e rmX8_reckons s m ar below meth c H locs 0 0 QE (F0 m 244 ls []) := by
              intro fu244
              induction fu244 with
              | zero => intro x17 x18 H locs ls hq; exact hq.elim
              | succ fu244 ih244 =>
                intro x17 x18 H locs ls hq hw hl
                unfold lpX8_reckons_244 at hq
                refine lv_iload hx hb dX8_reckons_244 (lv_at hl 5 rfl) ?_
                refine lv_iload hx hb dX8_reckons_246 (lv_at hl 3 rfl) ?_
                refine lv_icmp_gt (tgt := 314) hx hb dX8_reckons_248 (by decide) (fun hc => ?_) (fun hc => ?_)
                · have hq := hq.1 hc
                  exact ex244_314 x17 x18 _ _ _ hq hw (lv_sub hl [0, 1, 2, 3, 4] rfl)
                · have hq := hq.2 hc
                  refine lv_aload_n hx hb dX8_reckons_251 rfl (lv_at hl 0 rfl) ?_
                  refine zg8_least hx hb g8 hown hw h_o0 q2 dX8_reckons_252 ?_
                  refine lv_iconst (v := (0 : Int32)) hx hb dX8_reckons_255 (by decide) ?_
                  refine lv_iconst (v := (0 : Int32)) hx hb dX8_reckons_256 (by decide) ?_
                  refine lv_iload hx hb dX8_reckons_257 (lv_at hl 4 rfl) ?_
                  refine lv_iload hx hb dX8_reckons_259 (lv_at hl 5 rfl) ?_
                  refine z_csi ⟨hx, hb, hml, hown, hts⟩ hw (kX8_place  hq) (va_cwS 4 hts gX8_reckons_X8_place rfl rfl rfl (by decide +kernel) ⟨Nat.le_of_ble_eq_true rfl, Nat.le_of_ble_eq_true rfl⟩) rfl hl.1 rfl (Nat.le_of_ble_eq_true rfl) dX8_reckons_261 ⟨Nat.zero_le _, Nat.zero_le _⟩ (fun r22 M0 J0 H locs hq hw => ?_)
                  obtain ⟨hq, rfl, rfl⟩ := hq
                  obtain ⟨hi, hq⟩ := hq
                  refine z_iald (n := 4116) hx hb hw (zk_8_12 hC h_o0) hi dX8_reckons_264 ?_
                  refine lv_istore (lv' := [(8, .int (M12 (o0 + 12) r22.toNatClampNeg)), (0, .ref (ad o0)), (3, .int x17), (4, .int r13), (5, .int r14), (6, .int x16), (7, .int x18)]) hx hb dX8_reckons_265 hl (by decide) rfl (fun ls hl => ?_)
                  refine lv_iload hx hb dX8_reckons_267 (lv_at hl 0 rfl) ?_
                  refine lv_ldc (v := (1000000000 : Int32)) hx hb hown q3 dX8_reckons_269 ?_
                  have jn293 : ∀ (x26 : Int32) (H : Heap) (locs : List Loc) (ls : Array Slot), jnX8_reckons_293 x17 x18 (lpX8_reckons_244 o0 M12 r14 x16 (fun x19 x20 => ∀ x21 : Int32, x21 = x16 + (1 : Int32) → lpX8_reckons_232 o0 M12 r13 r14 Q fu232 x19 x21) fu244) x26 → zH D Y ad kd RL M12 J A s.heap H locs s → lv_has ls 14 [(0, .ref (ad o0)), (3, .int x17), (4, .int r13), (5, .int r14), (6, .int x16), (7, .int x18)] → W p l e rmX8_reckons s m ar below meth c H locs 0 0 QE (F0 m 293 ls [.int x26]) := by
                    intro x26 H locs ls hq hw hl
                    unfold jnX8_reckons_293 at hq
                    refine lv_istore (lv' := [(8, .int x26), (0, .ref (ad o0)), (3, .int x17), (4, .int r13), (5, .int r14), (6, .int x16), (7, .int x18)]) hx hb dX8_reckons_293 hl (by decide) rfl (fun ls hl => ?_)
                    refine lv_iload hx hb dX8_reckons_295 (lv_at hl 0 rfl) ?_
                    refine lv_iload_n hx hb dX8_reckons_297 rfl (lv_at hl 2 rfl) ?_
                    refine lv_icmp_ge (tgt := 306) hx hb dX8_reckons_298 (by decide) (fun hc => ?_) (fun hc => ?_)
                    · have hq := hq.1 hc
                      refine lv_iload_n hx hb dX8_reckons_306 rfl (lv_at hl 2 rfl) ?_
                      refine lv_istore_n (lv' := [(3, .int x17), (8, .int x26), (0, .ref (ad o0)), (4, .int r13), (5, .int r14), (6, .int x16), (7, .int x18)]) hx hb dX8_reckons_307 rfl hl (by decide) rfl (fun ls hl => ?_)
                      obtain ⟨x27, e_x27⟩ : ∃ y : Int32, y = x18 + (1 : Int32) := ⟨_, rfl⟩
                      have hq := hq x27 e_x27
                      refine lv_iinc (v := x27) (lv' := [(7, .int x27), (3, .int x17), (8, .int x26), (0, .ref (ad o0)), (4, .int r13), (5, .int r14), (6, .int x16)]) hx hb dX8_reckons_308 hl (k := 6) rfl (by rw [e_x27]; rfl) (by decide) rfl (fun ls hl => ?_)
                      refine lv_goto (tgt := 244) hx hb dX8_reckons_311 (by decide) ?_
                      exact ih244 x17 x27 _ _ _ hq hw (lv_sub hl [3, 1, 4, 5, 6, 0] rfl)
                    · have hq := hq.2 hc
                      refine lv_iload hx hb dX8_reckons_301 (lv_at hl 0 rfl) ?_
                      refine lv_goto (tgt := 307) hx hb dX8_reckons_303 (by decide) ?_
                      refine lv_istore_n (lv' := [(3, .int x26), (8, .int x26), (0, .ref (ad o0)), (4, .int r13), (5, .int r14), (6, .int x16), (7, .int x18)]) hx hb dX8_reckons_307 rfl hl (by decide) rfl (fun ls hl => ?_)
                      obtain ⟨x28, e_x28⟩ : ∃ y : Int32, y = x18 + (1 : Int32) := ⟨_, rfl⟩
                      have hq := hq x28 e_x28
                      refine lv_iinc (v := x28) (lv' := [(7, .int x28), (3, .int x26), (8, .int x26), (0, .ref (ad o0)), (4, .int r13), (5, .int r14), (6, .int x16)]) hx hb dX8_reckons_308 hl (k := 6) rfl (by rw [e_x28]; rfl) (by decide) rfl (fun ls hl => ?_)
                      refine lv_goto (tgt := 244) hx hb dX8_reckons_311 (by decide) ?_
                      exact ih244 x26 x28 _ _ _ hq hw (lv_sub hl [3, 1, 4, 5, 6, 0] rfl)
                  refine lv_icmp_ne (tgt := 279) hx hb dX8_reckons_271 (by decide) (fun hc => ?_) (fun hc => ?_)
                  · have hq := hq.1 hc
                    refine lv_iload hx hb dX8_reckons_279 (lv_at hl 0 rfl) ?_
                    refine lv_iload hx hb dX8_reckons_281 (lv_at hl 5 rfl) ?_
                    refine z_csi ⟨hx, hb, hml, hown, hts⟩ hw (kX8_size  hq) (va_cwS 1 hts gX8_reckons_X8_size rfl rfl rfl (by decide +kernel) ⟨Nat.le_of_ble_eq_true rfl, Nat.le_of_ble_eq_true rfl⟩) rfl hl.1 rfl (Nat.le_of_ble_eq_true rfl) dX8_reckons_283 ⟨Nat.zero_le _, Nat.zero_le _⟩ (fun r29 M0 J0 H locs hq hw => ?_)
                    obtain ⟨hq, rfl, rfl⟩ := hq
                    refine lv_iadd hx hb dX8_reckons_286 ?_
                    refine lv_iload hx hb dX8_reckons_287 (lv_at hl 6 rfl) ?_
                    refine z_csi ⟨hx, hb, hml, hown, hts⟩ hw (kX8_size  hq) (va_cwS 1 hts gX8_reckons_X8_size rfl rfl rfl (by decide +kernel) ⟨Nat.le_of_ble_eq_true rfl, Nat.le_of_ble_eq_true rfl⟩) rfl hl.1 rfl (Nat.le_of_ble_eq_true rfl) dX8_reckons_289 ⟨Nat.zero_le _, Nat.zero_le _⟩ (fun r30 M0 J0 H locs hq hw => ?_)
                    obtain ⟨hq, rfl, rfl⟩ := hq
                    refine lv_iadd hx hb dX8_reckons_292 ?_
                    refine lv_topi (fun x31 e_x31 => ?_)
                    have hq := hq x31 e_x31
                    exact jn293 x31 _ _ _ hq hw (lv_sub hl [1, 2, 3, 4, 5, 6] rfl)
                  · have hq := hq.2 hc
                    refine lv_ldc (v := (1000000000 : Int32)) hx hb hown q3 dX8_reckons_274 ?_
                    refine lv_goto (tgt := 293) hx hb dX8_reckons_276 (by decide) ?_
                    exact jn293 (1000000000 : Int32) _ _ _ hq hw (lv_sub hl [1, 2, 3, 4, 5, 6] rfl)
            exact lp244 fu244 x15 (-r14) _ _ _ hq hw (lv_sub hl [1, 2, 3, 4, 5, 0] rfl)
      exact lp232 fu232 (1000000000 : Int32) (-r13) _ _ _ hq hw (lv_sub hl [4, 3, 2, 1, 0] rfl)
    obtain ⟨fu41, hq⟩ := hq
    have lp41 : ∀ (fu41 : Nat) (x9 : Int32) (M10 : zM) (H : Heap) (locs : List Loc) (ls : Array Slot), lpX8_reckons_41 o0 x1 (fun x11 M12 => wX8_reachAt M12 o0 (0 : Int32) (fun r13 => wX8_reachAt M12 o0 (1 : Int32) (fun r14 => ∃ fu232 : Nat, lpX8_reckons_232 o0 M12 r13 r14 Q fu232 (1000000000 : Int32) (-r13)))) fu41 x9 M10 → zH D Y ad kd RL M10 J A s.heap H locs s → lv_has ls 14 [(0, .ref (ad o0)), (1, .int x1), (3, .int x9)] → W p l e rmX8_reckons s m ar below meth c H locs 0 0 QE (F0 m 41 ls []) := by
      intro fu41
      induction fu41 with
      | zero => intro x9 M10 H locs ls hq; exact hq.elim
      | succ fu41 ih41 =>
        intro x9 M10 H locs ls hq hw hl
        unfold lpX8_reckons_41 at hq
        refine lv_iload_n hx hb dX8_reckons_41 rfl (lv_at hl 2 rfl) ?_
        refine lv_if_lt (tgt := 210) hx hb dX8_reckons_42 (by decide) (fun hc => ?_) (fun hc => ?_)
        · have hq := hq.1 hc
          exact ex41_210 x9 M10 _ _ _ hq hw (lv_sub hl [0] rfl)
        · have hq := hq.2 hc
          refine lv_aload_n hx hb dX8_reckons_45 rfl (lv_at hl 0 rfl) ?_
          refine lv_iload_n hx hb dX8_reckons_46 rfl (lv_at hl 2 rfl) ?_
          refine lv_iconst (v := (1 : Int32)) hx hb dX8_reckons_47 (by decide) ?_
          refine lv_isub hx hb dX8_reckons_48 ?_
          refine z_cvi ⟨hx, hb, hml, hown, hts⟩ hw h_o0 (kX8_reachAt h_o0 hq) (by decide) rfl (cwV 1 hts gX8_reckons_X8_reachAt rfl rfl rfl (by decide +kernel) ⟨Nat.le_of_ble_eq_true rfl, Nat.le_of_ble_eq_true rfl⟩) rfl hl.1 rfl (Nat.le_of_ble_eq_true rfl) dX8_reckons_49 ⟨Nat.zero_le _, Nat.zero_le _⟩ (fun r32 M0 J0 H locs hq hw => ?_)
          obtain ⟨hq, rfl, rfl⟩ := hq
          refine lv_istore (lv' := [(4, .int r32), (0, .ref (ad o0)), (1, .int x1), (3, .int x9)]) hx hb dX8_reckons_52 hl (by decide) rfl (fun ls hl => ?_)
          refine lv_aload_n hx hb dX8_reckons_54 rfl (lv_at hl 1 rfl) ?_
          refine lv_iload_n hx hb dX8_reckons_55 rfl (lv_at hl 3 rfl) ?_
          refine z_cvi ⟨hx, hb, hml, hown, hts⟩ hw h_o0 (kX8_reachAt h_o0 hq) (by decide) rfl (cwV 1 hts gX8_reckons_X8_reachAt rfl rfl rfl (by decide +kernel) ⟨Nat.le_of_ble_eq_true rfl, Nat.le_of_ble_eq_true rfl⟩) rfl hl.1 rfl (Nat.le_of_ble_eq_true rfl) dX8_reckons_56 ⟨Nat.zero_le _, Nat.zero_le _⟩ (fun r33 M0 J0 H locs hq hw => ?_)
          obtain ⟨hq, rfl, rfl⟩ := hq
          refine lv_istore (lv' := [(5, .int r33), (4, .int r32), (0, .ref (ad o0)), (1, .int x1), (3, .int x9)]) hx hb dX8_reckons_59 hl (by decide) rfl (fun ls hl => ?_)
          refine lv_aload_n hx hb dX8_reckons_61 rfl (lv_at hl 2 rfl) ?_
          refine lv_iload_n hx hb dX8_reckons_62 rfl (lv_at hl 4 rfl) ?_
          refine lv_iconst (v := (1 : Int32)) hx hb dX8_reckons_63 (by decide) ?_
          refine lv_iadd hx hb dX8_reckons_64 ?_
          refine z_cvi ⟨hx, hb, hml, hown, hts⟩ hw h_o0 (kX8_reachAt h_o0 hq) (by decide) rfl (cwV 1 hts gX8_reckons_X8_reachAt rfl rfl rfl (by decide +kernel) ⟨Nat.le_of_ble_eq_true rfl, Nat.le_of_ble_eq_true rfl⟩) rfl hl.1 rfl (Nat.le_of_ble_eq_true rfl) dX8_reckons_65 ⟨Nat.zero_le _, Nat.zero_le _⟩ (fun r34 M0 J0 H locs hq hw => ?_)
          obtain ⟨hq, rfl, rfl⟩ := hq
          refine lv_istore (lv' := [(6, .int r34), (5, .int r33), (4, .int r32), (0, .ref (ad o0)), (1, .int x1), (3, .int x9)]) hx hb dX8_reckons_68 hl (by decide) rfl (fun ls hl => ?_)
          refine lv_aload_n hx hb dX8_reckons_70 rfl (lv_at hl 3 rfl) ?_
          refine lv_iload_n hx hb dX8_reckons_71 rfl (lv_at hl 5 rfl) ?_
          refine lv_iconst (v := (2 : Int32)) hx hb dX8_reckons_72 (by decide) ?_
          refine lv_iadd hx hb dX8_reckons_73 ?_
          refine z_cvi ⟨hx, hb, hml, hown, hts⟩ hw h_o0 (kX8_reachAt h_o0 hq) (by decide) rfl (cwV 1 hts gX8_reckons_X8_reachAt rfl rfl rfl (by decide +kernel) ⟨Nat.le_of_ble_eq_true rfl, Nat.le_of_ble_eq_true rfl⟩) rfl hl.1 rfl (Nat.le_of_ble_eq_true rfl) dX8_reckons_74 ⟨Nat.zero_le _, Nat.zero_le _⟩ (fun r35 M0 J0 H locs hq hw => ?_)
          obtain ⟨hq, rfl, rfl⟩ := hq
          refine lv_istore (lv' := [(7, .int r35), (6, .int r34), (5, .int r33), (4, .int r32), (0, .ref (ad o0)), (1, .int x1), (3, .int x9)]) hx hb dX8_reckons_77 hl (by decide) rfl (fun ls hl => ?_)
          refine lv_iload hx hb dX8_reckons_79 (lv_at hl 3 rfl) ?_
          refine lv_ineg hx hb dX8_reckons_81 ?_
          refine lv_istore (lv' := [(8, .int (-r32)), (7, .int r35), (6, .int r34), (5, .int r33), (4, .int r32), (0, .ref (ad o0)), (1, .int x1), (3, .int x9)]) hx hb dX8_reckons_82 hl (by decide) rfl (fun ls hl => ?_)
          have ex84_204 : ∀ (x38 : Int32) (M39 : zM) (H : Heap) (locs : List Loc) (ls : Array Slot), (∀ x40 : Int32, x40 = x9 + (-1 : Int32) → lpX8_reckons_41 o0 x1 (fun x11 M12 => wX8_reachAt M12 o0 (0 : Int32) (fun r13 => wX8_reachAt M12 o0 (1 : Int32) (fun r14 => ∃ fu232 : Nat, lpX8_reckons_232 o0 M12 r13 r14 Q fu232 (1000000000 : Int32) (-r13)))) fu41 x40 M39) → zH D Y ad kd RL M39 J A s.heap H locs s → lv_has ls 14 [(0, .ref (ad o0)), (1, .int x1), (3, .int x9)] → W p l e rmX8_reckons s m ar below meth c H locs 0 0 QE (F0 m 204 ls []) := by
            intro x38 M39 H locs ls hq hw hl
            obtain ⟨x40, e_x40⟩ : ∃ y : Int32, y = x9 + (-1 : Int32) := ⟨_, rfl⟩
            have hq := hq x40 e_x40
            refine lv_iinc (v := x40) (lv' := [(3, .int x40), (0, .ref (ad o0)), (1, .int x1)]) hx hb dX8_reckons_204 hl (k := 2) rfl (by rw [e_x40]; rfl) (by decide) rfl (fun ls hl => ?_)
            refine lv_goto (tgt := 41) hx hb dX8_reckons_207 (by decide) ?_
            exact ih41 x40 M39 _ _ _ hq hw (lv_sub hl [1, 2, 0] rfl)
          obtain ⟨fu84, hq⟩ := hq
          have lp84 : ∀ (fu84 : Nat) (x36 : Int32) (M37 : zM) (H : Heap) (locs : List Loc) (ls : Array Slot), lpX8_reckons_84 o0 x1 x9 r32 r33 r34 r35 (fun x38 M39 => ∀ x40 : Int32, x40 = x9 + (-1 : Int32) → lpX8_reckons_41 o0 x1 (fun x11 M12 => wX8_reachAt M12 o0 (0 : Int32) (fun r13 => wX8_reachAt M12 o0 (1 : Int32) (fun r14 => ∃ fu232 : Nat, lpX8_reckons_232 o0 M12 r13 r14 Q fu232 (1000000000 : Int32) (-r13)))) fu41 x40 M39) fu84 x36 M37 → zH D Y ad kd RL M37 J A s.heap H locs s → lv_has ls 14 [(0, .ref (ad o0)), (1, .int x1), (3, .int x9), (4, .int r32), (5, .int r33), (6, .int r34), (7, .int r35), (8, .int x36)] → W p l e rmX8_reckons s m ar below meth c H locs 0 0 QE (F0 m 84 ls []) := by
            intro fu84
            induction fu84 with
            | zero => intro x36 M37 H locs ls hq; exact hq.elim
            | succ fu84 ih84 =>
              intro x36 M37 H locs ls hq hw hl
              unfold lpX8_reckons_84 at hq
              refine lv_iload hx hb dX8_reckons_84 (lv_at hl 7 rfl) ?_
              refine lv_iload hx hb dX8_reckons_86 (lv_at hl 3 rfl) ?_
              refine lv_icmp_gt (tgt := 204) hx hb dX8_reckons_88 (by decide) (fun hc => ?_) (fun hc => ?_)
              · have hq := hq.1 hc
                exact ex84_204 x36 M37 _ _ _ hq hw (lv_sub hl [0, 1, 2] rfl)
              · have hq := hq.2 hc
                refine lv_iload hx hb dX8_reckons_91 (lv_at hl 4 rfl) ?_
                refine lv_ineg hx hb dX8_reckons_93 ?_
                refine lv_istore (lv' := [(9, .int (-r33)), (0, .ref (ad o0)), (1, .int x1), (3, .int x9), (4, .int r32), (5, .int r33), (6, .int r34), (7, .int r35), (8, .int x36)]) hx hb dX8_reckons_94 hl (by decide) rfl (fun ls hl => ?_)
                have ex96_198 : ∀ (x43 : Int32) (M44 : zM) (H : Heap) (locs : List Loc) (ls : Array Slot), (∀ x45 : Int32, x45 = x36 + (1 : Int32) → lpX8_reckons_84 o0 x1 x9 r32 r33 r34 r35 (fun x38 M39 => ∀ x40 : Int32, x40 = x9 + (-1 : Int32) → lpX8_reckons_41 o0 x1 (fun x11 M12 => wX8_reachAt M12 o0 (0 : Int32) (fun r13 => wX8_reachAt M12 o0 (1 : Int32) (fun r14 => ∃ fu232 : Nat, lpX8_reckons_232 o0 M12 r13 r14 Q fu232 (1000000000 : Int32) (-r13)))) fu41 x40 M39) fu84 x45 M44) → zH D Y ad kd RL M44 J A s.heap H locs s → lv_has ls 14 [(0, .ref (ad o0)), (1, .int x1), (3, .int x9), (4, .int r32), (5, .int r33), (6, .int r34), (7, .int r35), (8, .int x36)] → W p l e rmX8_reckons s m ar below meth c H locs 0 0 QE (F0 m 198 ls []) := by
                  intro x43 M44 H locs ls hq hw hl
                  obtain ⟨x45, e_x45⟩ : ∃ y : Int32, y = x36 + (1 : Int32) := ⟨_, rfl⟩
                  have hq := hq x45 e_x45
                  refine lv_iinc (v := x45) (lv' := [(8, .int x45), (0, .ref (ad o0)), (1, .int x1), (3, .int x9), (4, .int r32), (5, .int r33), (6, .int r34), (7, .int r35)]) hx hb dX8_reckons_198 hl (k := 7) rfl (by rw [e_x45]; rfl) (by decide) rfl (fun ls hl => ?_)
                  refine lv_goto (tgt := 84) hx hb dX8_reckons_201 (by decide) ?_
                  exact ih84 x45 M44 _ _ _ hq hw (lv_sub hl [1, 2, 3, 4, 5, 6, 7, 0] rfl)
                obtain ⟨fu96, hq⟩ := hq
                have lp96 : ∀ (fu96 : Nat) (x41 : Int32) (M42 : zM) (H : Heap) (locs : List Loc) (ls : Array Slot), lpX8_reckons_96 o0 x1 x9 r33 r34 r35 x36 (fun x43 M44 => ∀ x45 : Int32, x45 = x36 + (1 : Int32) → lpX8_reckons_84 o0 x1 x9 r32 r33 r34 r35 (fun x38 M39 => ∀ x40 : Int32, x40 = x9 + (-1 : Int32) → lpX8_reckons_41 o0 x1 (fun x11 M12 => wX8_reachAt M12 o0 (0 : Int32) (fun r13 => wX8_reachAt M12 o0 (1 : Int32) (fun r14 => ∃ fu232 : Nat, lpX8_reckons_232 o0 M12 r13 r14 Q fu232 (1000000000 : Int32) (-r13)))) fu41 x40 M39) fu84 x45 M44) fu96 x41 M42 → zH D Y ad kd RL M42 J A s.heap H locs s → lv_has ls 14 [(0, .ref (ad o0)), (1, .int x1), (3, .int x9), (4, .int r32), (5, .int r33), (6, .int r34), (7, .int r35), (8, .int x36), (9, .int x41)] → W p l e rmX8_reckons s m ar below meth c H locs 0 0 QE (F0 m 96 ls []) := by
                  intro fu96
                  induction fu96 with
                  | zero => intro x41 M42 H locs ls hq; exact hq.elim
                  | succ fu96 ih96 =>
                    intro x41 M42 H locs ls hq hw hl
                    unfold lpX8_reckons_96 at hq
                    refine lv_iload hx hb dX8_reckons_96 (lv_at hl 8 rfl) ?_
                    refine lv_iload hx hb dX8_reckons_98 (lv_at hl 4 rfl) ?_
                    refine lv_icmp_gt (tgt := 198) hx hb dX8_reckons_100 (by decide) (fun hc => ?_) (fun hc => ?_)
                    · have hq := hq.1 hc
                      exact ex96_198 x41 M42 _ _ _ hq hw (lv_sub hl [0, 1, 2, 3, 4, 5, 6, 7] rfl)
                    · have hq := hq.2 hc
                      refine lv_iload hx hb dX8_reckons_103 (lv_at hl 5 rfl) ?_
                      refine lv_ineg hx hb dX8_reckons_105 ?_
                      refine lv_istore (lv' := [(10, .int (-r34)), (0, .ref (ad o0)), (1, .int x1), (3, .int x9), (4, .int r32), (5, .int r33), (6, .int r34), (7, .int r35), (8, .int x36), (9, .int x41)]) hx hb dX8_reckons_106 hl (by decide) rfl (fun ls hl => ?_)
                      have ex108_192 : ∀ (x48 : Int32) (M49 : zM) (H : Heap) (locs : List Loc) (ls : Array Slot), (∀ x50 : Int32, x50 = x41 + (1 : Int32) → lpX8_reckons_96 o0 x1 x9 r33 r34 r35 x36 (fun x43 M44 => ∀ x45 : Int32, x45 = x36 + (1 : Int32) → lpX8_reckons_84 o0 x1 x9 r32 r33 r34 r35 (fun x38 M39 => ∀ x40 : Int32, x40 = x9 + (-1 : Int32) → lpX8_reckons_41 o0 x1 (fun x11 M12 => wX8_reachAt M12 o0 (0 : Int32) (fun r13 => wX8_reachAt M12 o0 (1 : Int32) (fun r14 => ∃ fu232 : Nat, lpX8_reckons_232 o0 M12 r13 r14 Q fu232 (1000000000 : Int32) (-r13)))) fu41 x40 M39) fu84 x45 M44) fu96 x50 M49) → zH D Y ad kd RL M49 J A s.heap H locs s → lv_has ls 14 [(0, .ref (ad o0)), (1, .int x1), (3, .int x9), (4, .int r32), (5, .int r33), (6, .int r34), (7, .int r35), (8, .int x36), (9, .int x41)] → W p l e rmX8_reckons s m ar below meth c H locs 0 0 QE (F0 m 192 ls []) := by
                        intro x48 M49 H locs ls hq hw hl
                        obtain ⟨x50, e_x50⟩ : ∃ y : Int32, y = x41 + (1 : Int32) := ⟨_, rfl⟩
                        have hq := hq x50 e_x50
                        refine lv_iinc (v := x50) (lv' := [(9, .int x50), (0, .ref (ad o0)), (1, .int x1), (3, .int x9), (4, .int r32), (5, .int r33), (6, .int r34), (7, .int r35), (8, .int x36)]) hx hb dX8_reckons_192 hl (k := 8) rfl (by rw [e_x50]; rfl) (by decide) rfl (fun ls hl => ?_)
                        refine lv_goto (tgt := 96) hx hb dX8_reckons_195 (by decide) ?_
                        exact ih96 x50 M49 _ _ _ hq hw (lv_sub hl [1, 2, 3, 4, 5, 6, 7, 8, 0] rfl)
                      obtain ⟨fu108, hq⟩ := hq
                      have lp108 : ∀ (fu108 : Nat) (x46 : Int32) (M47 : zM) (H : Heap) (locs : List Loc) (ls : Array Slot), lpX8_reckons_108 o0 x1 x9 r34 r35 x36 x41 (fun x48 M49 => ∀ x50 : Int32, x50 = x41 + (1 : Int32) → lpX8_reckons_96 o0 x1 x9 r33 r34 r35 x36 (fun x43 M44 => ∀ x45 : Int32, x45 = x36 + (1 : Int32) → lpX8_reckons_84 o0 x1 x9 r32 r33 r34 r35 (fun x38 M39 => ∀ x40 : Int32, x40 = x9 + (-1 : Int32) → lpX8_reckons_41 o0 x1 (fun x11 M12 => wX8_reachAt M12 o0 (0 : Int32) (fun r13 => wX8_reachAt M12 o0 (1 : Int32) (fun r14 => ∃ fu232 : Nat, lpX8_reckons_232 o0 M12 r13 r14 Q fu232 (1000000000 : Int32) (-r13)))) fu41 x40 M39) fu84 x45 M44) fu96 x50 M49) fu108 x46 M47 → zH D Y ad kd RL M47 J A s.heap H locs s → lv_has ls 14 [(0, .ref (ad o0)), (1, .int x1), (3, .int x9), (4, .int r32), (5, .int r33), (6, .int r34), (7, .int r35), (8, .int x36), (9, .int x41), (10, .int x46)] → W p l e rmX8_reckons s m ar below meth c H locs 0 0 QE (F0 m 108 ls []) := by
                        intro fu108
                        induction fu108 with
                        | zero => intro x46 M47 H locs ls hq; exact hq.elim
                        | succ fu108 ih108 =>
                          intro x46 M47 H locs ls hq hw hl
                          unfold lpX8_reckons_108 at hq
                          refine lv_iload hx hb dX8_reckons_108 (lv_at hl 9 rfl) ?_
                          refine lv_iload hx hb dX8_reckons_110 (lv_at hl 5 rfl) ?_
                          refine lv_icmp_gt (tgt := 192) hx hb dX8_reckons_112 (by decide) (fun hc => ?_) (fun hc => ?_)
                          · have hq := hq.1 hc
                            exact ex108_192 x46 M47 _ _ _ hq hw (lv_sub hl [0, 1, 2, 3, 4, 5, 6, 7, 8] rfl)
                          · have hq := hq.2 hc
                            refine lv_ldc (v := (1000000000 : Int32)) hx hb hown q3 dX8_reckons_115 ?_
                            refine lv_istore (lv' := [(11, .int (1000000000 : Int32)), (0, .ref (ad o0)), (1, .int x1), (3, .int x9), (4, .int r32), (5, .int r33), (6, .int r34), (7, .int r35), (8, .int x36), (9, .int x41), (10, .int x46)]) hx hb dX8_reckons_117 hl (by decide) rfl (fun ls hl => ?_)
                            refine lv_iload hx hb dX8_reckons_119 (lv_at hl 7 rfl) ?_
                            refine lv_ineg hx hb dX8_reckons_121 ?_
                            refine lv_istore (lv' := [(12, .int (-r35)), (11, .int (1000000000 : Int32)), (0, .ref (ad o0)), (1, .int x1), (3, .int x9), (4, .int r32), (5, .int r33), (6, .int r34), (7, .int r35), (8, .int x36), (9, .int x41), (10, .int x46)]) hx hb dX8_reckons_122 hl (by decide) rfl (fun ls hl => ?_)
                            have ex124_169 : ∀ (x53 : Int32) (x54 : Int32) (H : Heap) (locs : List Loc) (ls : Array Slot), (wX8_place M47 x9 x36 x41 x46 (fun r55 => vp_in r55 4116 ∧ ∀ M56 : zM, M56 = va_up M47 (o0 + 12) (upd (M47 (o0 + 12)) r55.toNatClampNeg x53) → ∀ x57 : Int32, x57 = x46 + (1 : Int32) → lpX8_reckons_108 o0 x1 x9 r34 r35 x36 x41 (fun x48 M49 => ∀ x50 : Int32, x50 = x41 + (1 : Int32) → lpX8_reckons_96 o0 x1 x9 r33 r34 r35 x36 (fun x43 M44 => ∀ x45 : Int32, x45 = x36 + (1 : Int32) → lpX8_reckons_84 o0 x1 x9 r32 r33 r34 r35 (fun x38 M39 => ∀ x40 : Int32, x40 = x9 + (-1 : Int32) → lpX8_reckons_41 o0 x1 (fun x11 M12 => wX8_reachAt M12 o0 (0 : Int32) (fun r13 => wX8_reachAt M12 o0 (1 : Int32) (fun r14 => ∃ fu232 : Nat, lpX8_reckons_232 o0 M12 r13 r14 Q fu232 (1000000000 : Int32) (-r13)))) fu41 x40 M39) fu84 x45 M44) fu96 x50 M49) fu108 x57 M56)) → zH D Y ad kd RL M47 J A s.heap H locs s → lv_has ls 14 [(0, .ref (ad o0)), (1, .int x1), (3, .int x9), (4, .int r32), (5, .int r33), (6, .int r34), (7, .int r35), (8, .int x36), (9, .int x41), (10, .int x46), (11, .int x53)] → W p l e rmX8_reckons s m ar below meth c H locs 0 0 QE (F0 m 169 ls []) := by
                              intro x53 x54 H locs ls hq hw hl
                              refine lv_aload_n hx hb dX8_reckons_169 rfl (lv_at hl 0 rfl) ?_
                              refine zg8_least hx hb g8 hown hw h_o0 q2 dX8_reckons_170 ?_
                              refine lv_iload_n hx hb dX8_reckons_173 rfl (lv_at hl 2 rfl) ?_
                              refine lv_iload hx hb dX8_reckons_174 (lv_at hl 7 rfl) ?_
                              refine lv_iload hx hb dX8_reckons_176 (lv_at hl 8 rfl) ?_
                              refine lv_iload hx hb dX8_reckons_178 (lv_at hl 9 rfl) ?_
                              refine z_csi ⟨hx, hb, hml, hown, hts⟩ hw (kX8_place  hq) (va_cwS 4 hts gX8_reckons_X8_place rfl rfl rfl (by decide +kernel) ⟨Nat.le_of_ble_eq_true rfl, Nat.le_of_ble_eq_true rfl⟩) rfl hl.1 rfl (Nat.le_of_ble_eq_true rfl) dX8_reckons_180 ⟨Nat.zero_le _, Nat.zero_le _⟩ (fun r55 M0 J0 H locs hq hw => ?_)
                              obtain ⟨hq, rfl, rfl⟩ := hq
                              refine lv_iload hx hb dX8_reckons_183 (lv_at hl 10 rfl) ?_
                              obtain ⟨hi, hq⟩ := hq
                              refine z_iast (n := 4116) hx hb hw (zk_8_12 hC h_o0) hi dX8_reckons_185 (fun H locs hw => ?_)
                              obtain ⟨M56, e_M56⟩ : ∃ y : zM, y = va_up M47 (o0 + 12) (upd (M47 (o0 + 12)) r55.toNatClampNeg x53) := ⟨_, rfl⟩
                              rw [← e_M56] at hw
                              have hq := hq M56 e_M56
                              obtain ⟨x57, e_x57⟩ : ∃ y : Int32, y = x46 + (1 : Int32) := ⟨_, rfl⟩
                              have hq := hq x57 e_x57
                              refine lv_iinc (v := x57) (lv' := [(10, .int x57), (0, .ref (ad o0)), (1, .int x1), (3, .int x9), (4, .int r32), (5, .int r33), (6, .int r34), (7, .int r35), (8, .int x36), (9, .int x41), (11, .int x53)]) hx hb dX8_reckons_186 hl (k := 9) rfl (by rw [e_x57]; rfl) (by decide) rfl (fun ls hl => ?_)
                              refine lv_goto (tgt := 108) hx hb dX8_reckons_189 (by decide) ?_
                              exact ih108 x57 M56 _ _ _ hq hw (lv_sub hl [1, 2, 3, 4, 5, 6, 7, 8, 9, 0] rfl)
                            obtain ⟨fu124, hq⟩ := hq
                            have lp124 : ∀ (fu124 : Nat) (x51 : Int32) (x52 : Int32) (H : Heap) (locs : List Loc) (ls : Array Slot), lpX8_reckons_124 o0 x1 x9 r35 x36 x41 x46 M47 (fun x53 x54 => wX8_place M47 x9 x36 x41 x46 (fun r55 => vp_in r55 4116 ∧ ∀ M56 : zM, M56 = va_up M47 (o0 + 12) (upd (M47 (o0 + 12)) r55.toNatClampNeg x53) → ∀ x57 : Int32, x57 = x46 + (1 : Int32) → lpX8_reckons_108 o0 x1 x9 r34 r35 x36 x41 (fun x48 M49 => ∀ x50 : Int32, x50 = x41 + (1 : Int32) → lpX8_reckons_96 o0 x1 x9 r33 r34 r35 x36 (fun x43 M44 => ∀ x45 : Int32, x45 = x36 + (1 : Int32) → lpX8_reckons_84 o0 x1 x9 r32 r33 r34 r35 (fun x38 M39 => ∀ x40 : Int32, x40 = x9 + (-1 : Int32) → lpX8_reckons_41 o0 x1 (fun x11 M12 => wX8_reachAt M12 o0 (0 : Int32) (fun r13 => wX8_reachAt M12 o0 (1 : Int32) (fun r14 => ∃ fu232 : Nat, lpX8_reckons_232 o0 M12 r13 r14 Q fu232 (1000000000 : Int32) (-r13)))) fu41 x40 M39) fu84 x45 M44) fu96 x50 M49) fu108 x57 M56)) fu124 x51 x52 → zH D Y ad kd RL M47 J A s.heap H locs s → lv_has ls 14 [(0, .ref (ad o0)), (1, .int x1), (3, .int x9), (4, .int r32), (5, .int r33), (6, .int r34), (7, .int r35), (8, .int x36), (9, .int x41), (10, .int x46), (11, .int x51), (12, .int x52)] → W p l e rmX8_reckons s m ar below meth c H locs 0 0 QE (F0 m 124 ls []) := by
                              intro fu124
                              induction fu124 with
                              | zero => intro x51 x52 H locs ls hq; exact hq.elim
                              | succ fu124 ih124 =>
                                intro x51 x52 H locs ls hq hw hl
                                unfold lpX8_reckons_124 at hq
                                refine lv_iload hx hb dX8_reckons_124 (lv_at hl 11 rfl) ?_
                                refine lv_iload hx hb dX8_reckons_126 (lv_at hl 6 rfl) ?_
                                refine lv_icmp_gt (tgt := 169) hx hb dX8_reckons_128 (by decide) (fun hc => ?_) (fun hc => ?_)
                                · have hq := hq.1 hc
                                  exact ex124_169 x51 x52 _ _ _ hq hw (lv_sub hl [0, 1, 2, 3, 4, 5, 6, 7, 8, 9, 10] rfl)
                                · have hq := hq.2 hc
                                  refine lv_aload_n hx hb dX8_reckons_131 rfl (lv_at hl 0 rfl) ?_
                                  refine lv_iload_n hx hb dX8_reckons_132 rfl (lv_at hl 2 rfl) ?_
                                  refine lv_iload hx hb dX8_reckons_133 (lv_at hl 7 rfl) ?_
                                  refine lv_iload hx hb dX8_reckons_135 (lv_at hl 8 rfl) ?_
                                  refine lv_iload hx hb dX8_reckons_137 (lv_at hl 9 rfl) ?_
                                  refine lv_iload hx hb dX8_reckons_139 (lv_at hl 11 rfl) ?_
                                  refine lv_iload_n hx hb dX8_reckons_141 rfl (lv_at hl 1 rfl) ?_
                                  refine z_cvi ⟨hx, hb, hml, hown, hts⟩ hw h_o0 (kX8_costBy h_o0 hq) (by decide) rfl (cwV 6 hts gX8_reckons_X8_costBy rfl rfl rfl (by decide +kernel) ⟨Nat.le_of_ble_eq_true rfl, Nat.le_of_ble_eq_true rfl⟩) rfl hl.1 rfl (Nat.le_of_ble_eq_true rfl) dX8_reckons_142 ⟨Nat.zero_le _, Nat.zero_le _⟩ (fun r58 M0 J0 H locs hq hw => ?_)
                                  obtain ⟨hq, rfl, rfl⟩ := hq
                                  refine lv_istore (lv' := [(13, .int r58), (0, .ref (ad o0)), (1, .int x1), (3, .int x9), (4, .int r32), (5, .int r33), (6, .int r34), (7, .int r35), (8, .int x36), (9, .int x41), (10, .int x46), (11, .int x51), (12, .int x52)]) hx hb dX8_reckons_145 hl (by decide) rfl (fun ls hl => ?_)
                                  refine lv_iload hx hb dX8_reckons_147 (lv_at hl 0 rfl) ?_
                                  refine lv_iload hx hb dX8_reckons_149 (lv_at hl 11 rfl) ?_
                                  refine lv_icmp_ge (tgt := 159) hx hb dX8_reckons_151 (by decide) (fun hc => ?_) (fun hc => ?_)
                                  · have hq := hq.1 hc
                                    refine lv_iload hx hb dX8_reckons_159 (lv_at hl 11 rfl) ?_
                                    refine lv_istore (lv' := [(11, .int x51), (13, .int r58), (0, .ref (ad o0)), (1, .int x1), (3, .int x9), (4, .int r32), (5, .int r33), (6, .int r34), (7, .int r35), (8, .int x36), (9, .int x41), (10, .int x46), (12, .int x52)]) hx hb dX8_reckons_161 hl (by decide) rfl (fun ls hl => ?_)
                                    obtain ⟨x59, e_x59⟩ : ∃ y : Int32, y = x52 + (1 : Int32) := ⟨_, rfl⟩
                                    have hq := hq x59 e_x59
                                    refine lv_iinc (v := x59) (lv' := [(12, .int x59), (11, .int x51), (13, .int r58), (0, .ref (ad o0)), (1, .int x1), (3, .int x9), (4, .int r32), (5, .int r33), (6, .int r34), (7, .int r35), (8, .int x36), (9, .int x41), (10, .int x46)]) hx hb dX8_reckons_163 hl (k := 12) rfl (by rw [e_x59]; rfl) (by decide) rfl (fun ls hl => ?_)
                                    refine lv_goto (tgt := 124) hx hb dX8_reckons_166 (by decide) ?_
                                    exact ih124 x51 x59 _ _ _ hq hw (lv_sub hl [3, 4, 5, 6, 7, 8, 9, 10, 11, 12, 1, 0] rfl)
                                  · have hq := hq.2 hc
                                    refine lv_iload hx hb dX8_reckons_154 (lv_at hl 0 rfl) ?_
                                    refine lv_goto (tgt := 161) hx hb dX8_reckons_156 (by decide) ?_
                                    refine lv_istore (lv' := [(11, .int r58), (13, .int r58), (0, .ref (ad o0)), (1, .int x1), (3, .int x9), (4, .int r32), (5, .int r33), (6, .int r34), (7, .int r35), (8, .int x36), (9, .int x41), (10, .int x46), (12, .int x52)]) hx hb dX8_reckons_161 hl (by decide) rfl (fun ls hl => ?_)
                                    obtain ⟨x60, e_x60⟩ : ∃ y : Int32, y = x52 + (1 : Int32) := ⟨_, rfl⟩
                                    have hq := hq x60 e_x60
                                    refine lv_iinc (v := x60) (lv' := [(12, .int x60), (11, .int r58), (13, .int r58), (0, .ref (ad o0)), (1, .int x1), (3, .int x9), (4, .int r32), (5, .int r33), (6, .int r34), (7, .int r35), (8, .int x36), (9, .int x41), (10, .int x46)]) hx hb dX8_reckons_163 hl (k := 12) rfl (by rw [e_x60]; rfl) (by decide) rfl (fun ls hl => ?_)
                                    refine lv_goto (tgt := 124) hx hb dX8_reckons_166 (by decide) ?_
                                    exact ih124 r58 x60 _ _ _ hq hw (lv_sub hl [3, 4, 5, 6, 7, 8, 9, 10, 11, 12, 1, 0] rfl)
                            exact lp124 fu124 (1000000000 : Int32) (-r35) _ _ _ hq hw (lv_sub hl [2, 3, 4, 5, 6, 7, 8, 9, 10, 11, 1, 0] rfl)
                      exact lp108 fu108 (-r34) M42 _ _ _ hq hw (lv_sub hl [1, 2, 3, 4, 5, 6, 7, 8, 9, 0] rfl)
                exact lp96 fu96 (-r33) M37 _ _ _ hq hw (lv_sub hl [1, 2, 3, 4, 5, 6, 7, 8, 0] rfl)
          exact lp84 fu84 (-r32) M10 _ _ _ hq hw (lv_sub hl [5, 6, 7, 4, 3, 2, 1, 0] rfl)
    exact lp41 fu41 x8 M7 _ _ _ hq hw (lv_sub hl [1, 2, 0] rfl)
  obtain ⟨fu9, hq⟩ := hq
  have lp9 : ∀ (fu9 : Nat) (x4 : Int32) (M5 : zM) (H : Heap) (locs : List Loc) (ls : Array Slot), lpX8_reckons_9 M o0 (fun x6 M7 => ∀ x8 : Int32, x8 = ((M (o0 + 6) (0 : Int32).toNatClampNeg) - (2 : Int32)) → ∃ fu41 : Nat, lpX8_reckons_41 o0 x1 (fun x11 M12 => wX8_reachAt M12 o0 (0 : Int32) (fun r13 => wX8_reachAt M12 o0 (1 : Int32) (fun r14 => ∃ fu232 : Nat, lpX8_reckons_232 o0 M12 r13 r14 Q fu232 (1000000000 : Int32) (-r13)))) fu41 x8 M7) fu9 x4 M5 → zH D Y ad kd RL M5 J A s.heap H locs s → lv_has ls 14 [(0, .ref (ad o0)), (1, .int x1), (2, .int (M (o0 + 6) (0 : Int32).toNatClampNeg)), (3, .int x4)] → W p l e rmX8_reckons s m ar below meth c H locs 0 0 QE (F0 m 9 ls []) := by
    intro fu9
    induction fu9 with
    | zero => intro x4 M5 H locs ls hq; exact hq.elim
    | succ fu9 ih9 =>
      intro x4 M5 H locs ls hq hw hl
      unfold lpX8_reckons_9 at hq
      refine lv_iload_n hx hb dX8_reckons_9 rfl (lv_at hl 3 rfl) ?_
      refine lv_sipush (v := (343 : Int32)) hx hb dX8_reckons_10 (by decide) ?_
      refine lv_icmp_ge (tgt := 37) hx hb dX8_reckons_13 (by decide) (fun hc => ?_) (fun hc => ?_)
      · have hq := hq.1 hc
        exact ex9_37 x4 M5 _ _ _ hq hw (lv_sub hl [0, 1, 2] rfl)
      · have hq := hq.2 hc
        refine lv_aload_n hx hb dX8_reckons_16 rfl (lv_at hl 0 rfl) ?_
        refine zg8_least hx hb g8 hown hw h_o0 q2 dX8_reckons_17 ?_
        refine lv_sipush (v := (343 : Int32)) hx hb dX8_reckons_20 (by decide) ?_
        refine lv_iload_n hx hb dX8_reckons_23 rfl (lv_at hl 2 rfl) ?_
        refine lv_iconst (v := (1 : Int32)) hx hb dX8_reckons_24 (by decide) ?_
        refine lv_isub hx hb dX8_reckons_25 ?_
        refine lv_topi (fun x61 e_x61 => ?_)
        have hq := hq x61 e_x61
        refine lv_imul hx hb dX8_reckons_26 ?_
        refine lv_iload_n hx hb dX8_reckons_27 rfl (lv_at hl 3 rfl) ?_
        refine lv_iadd hx hb dX8_reckons_28 ?_
        refine lv_iconst (v := (0 : Int32)) hx hb dX8_reckons_29 (by decide) ?_
        obtain ⟨hi, hq⟩ := hq
        refine z_iast (n := 4116) hx hb hw (zk_8_12 hC h_o0) hi dX8_reckons_30 (fun H locs hw => ?_)
        obtain ⟨M62, e_M62⟩ : ∃ y : zM, y = va_up M5 (o0 + 12) (upd (M5 (o0 + 12)) (((343 : Int32) * x61) + x4).toNatClampNeg (0 : Int32)) := ⟨_, rfl⟩
        rw [← e_M62] at hw
        have hq := hq M62 e_M62
        obtain ⟨x63, e_x63⟩ : ∃ y : Int32, y = x4 + (1 : Int32) := ⟨_, rfl⟩
        have hq := hq x63 e_x63
        refine lv_iinc (v := x63) (lv' := [(3, .int x63), (0, .ref (ad o0)), (1, .int x1), (2, .int (M (o0 + 6) (0 : Int32).toNatClampNeg))]) hx hb dX8_reckons_31 hl (k := 3) rfl (by rw [e_x63]; rfl) (by decide) rfl (fun ls hl => ?_)
        refine lv_goto (tgt := 9) hx hb dX8_reckons_34 (by decide) ?_
        exact ih9 x63 M62 _ _ _ hq hw (lv_sub hl [1, 2, 3, 0] rfl)
  exact lp9 fu9 (0 : Int32) M _ _ _ hq hw (lv_sub hl [2, 3, 1, 0] rfl)
set_option maxRecDepth 20000 in
theorem ggX8_findsBest_X8_reckons : GoodIn wsX8_findsBest wsX8_reckons := goodIn_r _ [11, 6, 4, 1, 12, 13, 14, 10, 15, 16, 17, 18, 19, 20, 21, 22, 23, 24, 25, 26, 27, 28, 29, 30, 31, 32, 33, 34, 35, 36, 37, 38, 39, 40, 41, 42, 43, 44, 45, 46, 47, 48, 49, 50, 51, 52, 53, 54, 55, 56, 57, 58, 59, 60, 61, 62, 63, 64] (by decide +kernel) (by decide +kernel)
set_option maxRecDepth 20000 in
theorem gX8_findsBest_X8_reckons : GoodIn wsX8_findsBest (wsV RX8 218 RX8 yX8_reckons wsX8_reckons) := goodIn_app (goodIn_of _ (by decide +kernel)) ggX8_findsBest_X8_reckons
set_option maxRecDepth 20000 in
theorem ggX8_findsBest_X8_reachAt : GoodIn wsX8_findsBest wsX8_reachAt := goodIn_r _ [15, 6, 16, 17, 10, 18, 19, 20, 21, 39, 40, 41, 42, 43, 44, 45, 46, 47, 48, 49, 50, 51, 52, 53, 54, 55, 56, 57, 58, 59, 60, 61, 62, 63, 64] (by decide +kernel) (by decide +kernel)
set_option maxRecDepth 20000 in
theorem gX8_findsBest_X8_reachAt : GoodIn wsX8_findsBest (wsV RX8 211 RX8 yX8_reachAt wsX8_reachAt) := goodIn_app (goodIn_of _ (by decide +kernel)) ggX8_findsBest_X8_reachAt
set_option maxRecDepth 20000 in
theorem ggX8_findsBest_X8_place : GoodIn wsX8_findsBest wsX8_place := goodIn_r _ [38] (by decide +kernel) (by decide +kernel)
set_option maxRecDepth 20000 in
theorem gX8_findsBest_X8_place : GoodIn wsX8_findsBest (va_wsS RX8 207 yX8_place wsX8_place) := goodIn_app (goodIn_of _ (by decide +kernel)) ggX8_findsBest_X8_place
set_option maxRecDepth 20000 in
theorem ggX8_findsBest_X8_size : GoodIn wsX8_findsBest wsX8_size := goodIn_r _ [35] (by decide +kernel) (by decide +kernel)
set_option maxRecDepth 20000 in
theorem gX8_findsBest_X8_size : GoodIn wsX8_findsBest (va_wsS RX8 153 yX8_size wsX8_size) := goodIn_app (goodIn_of _ (by decide +kernel)) ggX8_findsBest_X8_size
set_option maxRecDepth 20000 in
theorem ggX8_findsBest_X8_costBy : GoodIn wsX8_findsBest wsX8_costBy := goodIn_r _ [25, 1, 4, 26, 27, 28, 10, 29, 6, 30, 31, 32, 33, 34, 35, 36, 37, 38, 39, 40, 41, 42, 43, 44, 45, 46, 47, 48, 49, 50, 51, 52, 53, 54, 55, 56, 57, 58, 59, 60, 61, 62, 63, 64] (by decide +kernel) (by decide +kernel)
set_option maxRecDepth 20000 in
theorem gX8_findsBest_X8_costBy : GoodIn wsX8_findsBest (wsV RX8 214 RX8 yX8_costBy wsX8_costBy) := goodIn_app (goodIn_of _ (by decide +kernel)) ggX8_findsBest_X8_costBy
theorem dX8_findsBest_0 : decode cX8_findsBest 0 = .ok (.iconst 0, 1) := by decide +kernel
theorem dX8_findsBest_1 : decode cX8_findsBest 1 = .ok (.istore_n 1, 1) := by decide +kernel
theorem dX8_findsBest_2 : decode cX8_findsBest 2 = .ok (.sipush 4100, 3) := by decide +kernel
theorem dX8_findsBest_5 : decode cX8_findsBest 5 = .ok (.istore_n 2, 1) := by decide +kernel
theorem dX8_findsBest_6 : decode cX8_findsBest 6 = .ok (.iload_n 1, 1) := by decide +kernel
theorem dX8_findsBest_7 : decode cX8_findsBest 7 = .ok (.iload_n 2, 1) := by decide +kernel
theorem dX8_findsBest_8 : decode cX8_findsBest 8 = .ok (.if_icmp .ge 31, 3) := by decide +kernel
theorem dX8_findsBest_11 : decode cX8_findsBest 11 = .ok (.iload_n 1, 1) := by decide +kernel
theorem dX8_findsBest_12 : decode cX8_findsBest 12 = .ok (.iload_n 2, 1) := by decide +kernel
theorem dX8_findsBest_13 : decode cX8_findsBest 13 = .ok (.iadd, 1) := by decide +kernel
theorem dX8_findsBest_14 : decode cX8_findsBest 14 = .ok (.iconst 2, 1) := by decide +kernel
theorem dX8_findsBest_15 : decode cX8_findsBest 15 = .ok (.idiv, 1) := by decide +kernel
theorem dX8_findsBest_16 : decode cX8_findsBest 16 = .ok (.istore_n 3, 1) := by decide +kernel
theorem dX8_findsBest_17 : decode cX8_findsBest 17 = .ok (.aload_n 0, 1) := by decide +kernel
theorem dX8_findsBest_18 : decode cX8_findsBest 18 = .ok (.iload_n 3, 1) := by decide +kernel
theorem dX8_findsBest_19 : decode cX8_findsBest 19 = .ok (.invokevirtual 218, 3) := by decide +kernel
theorem dX8_findsBest_22 : decode cX8_findsBest 22 = .ok (.ldc 184, 2) := by decide +kernel
theorem dX8_findsBest_24 : decode cX8_findsBest 24 = .ok (.if_icmp .ge 8, 3) := by decide +kernel
theorem dX8_findsBest_27 : decode cX8_findsBest 27 = .ok (.iload_n 3, 1) := by decide +kernel
theorem dX8_findsBest_28 : decode cX8_findsBest 28 = .ok (.istore_n 2, 1) := by decide +kernel
theorem dX8_findsBest_29 : decode cX8_findsBest 29 = .ok (.goto 7, 3) := by decide +kernel
theorem dX8_findsBest_32 : decode cX8_findsBest 32 = .ok (.iload_n 3, 1) := by decide +kernel
theorem dX8_findsBest_33 : decode cX8_findsBest 33 = .ok (.iconst 1, 1) := by decide +kernel
theorem dX8_findsBest_34 : decode cX8_findsBest 34 = .ok (.iadd, 1) := by decide +kernel
theorem dX8_findsBest_35 : decode cX8_findsBest 35 = .ok (.istore_n 1, 1) := by decide +kernel
theorem dX8_findsBest_36 : decode cX8_findsBest 36 = .ok (.goto (-30), 3) := by decide +kernel
theorem dX8_findsBest_39 : decode cX8_findsBest 39 = .ok (.aload_n 0, 1) := by decide +kernel
theorem dX8_findsBest_40 : decode cX8_findsBest 40 = .ok (.iload_n 1, 1) := by decide +kernel
theorem dX8_findsBest_41 : decode cX8_findsBest 41 = .ok (.putfield 221, 3) := by decide +kernel
theorem dX8_findsBest_44 : decode cX8_findsBest 44 = .ok (.aload_n 0, 1) := by decide +kernel
theorem dX8_findsBest_45 : decode cX8_findsBest 45 = .ok (.aload_n 0, 1) := by decide +kernel
theorem dX8_findsBest_46 : decode cX8_findsBest 46 = .ok (.iload_n 1, 1) := by decide +kernel
theorem dX8_findsBest_47 : decode cX8_findsBest 47 = .ok (.invokevirtual 218, 3) := by decide +kernel
theorem dX8_findsBest_50 : decode cX8_findsBest 50 = .ok (.putfield 224, 3) := by decide +kernel
theorem dX8_findsBest_53 : decode cX8_findsBest 53 = .ok (.aload_n 0, 1) := by decide +kernel
theorem dX8_findsBest_54 : decode cX8_findsBest 54 = .ok (.iconst 0, 1) := by decide +kernel
theorem dX8_findsBest_55 : decode cX8_findsBest 55 = .ok (.invokevirtual 211, 3) := by decide +kernel
theorem dX8_findsBest_58 : decode cX8_findsBest 58 = .ok (.istore_n 3, 1) := by decide +kernel
theorem dX8_findsBest_59 : decode cX8_findsBest 59 = .ok (.aload_n 0, 1) := by decide +kernel
theorem dX8_findsBest_60 : decode cX8_findsBest 60 = .ok (.iconst 1, 1) := by decide +kernel
theorem dX8_findsBest_61 : decode cX8_findsBest 61 = .ok (.invokevirtual 211, 3) := by decide +kernel
theorem dX8_findsBest_64 : decode cX8_findsBest 64 = .ok (.istore 4, 2) := by decide +kernel
theorem dX8_findsBest_66 : decode cX8_findsBest 66 = .ok (.iconst 1, 1) := by decide +kernel
theorem dX8_findsBest_67 : decode cX8_findsBest 67 = .ok (.istore 5, 2) := by decide +kernel
theorem dX8_findsBest_69 : decode cX8_findsBest 69 = .ok (.iload_n 3, 1) := by decide +kernel
theorem dX8_findsBest_70 : decode cX8_findsBest 70 = .ok (.ineg, 1) := by decide +kernel
theorem dX8_findsBest_71 : decode cX8_findsBest 71 = .ok (.istore 6, 2) := by decide +kernel
theorem dX8_findsBest_73 : decode cX8_findsBest 73 = .ok (.iload 6, 2) := by decide +kernel
theorem dX8_findsBest_75 : decode cX8_findsBest 75 = .ok (.iload_n 3, 1) := by decide +kernel
theorem dX8_findsBest_76 : decode cX8_findsBest 76 = .ok (.if_icmp .gt 95, 3) := by decide +kernel
theorem dX8_findsBest_79 : decode cX8_findsBest 79 = .ok (.iload 4, 2) := by decide +kernel
theorem dX8_findsBest_81 : decode cX8_findsBest 81 = .ok (.ineg, 1) := by decide +kernel
theorem dX8_findsBest_82 : decode cX8_findsBest 82 = .ok (.istore 7, 2) := by decide +kernel
theorem dX8_findsBest_84 : decode cX8_findsBest 84 = .ok (.iload 7, 2) := by decide +kernel
theorem dX8_findsBest_86 : decode cX8_findsBest 86 = .ok (.iload 4, 2) := by decide +kernel
theorem dX8_findsBest_88 : decode cX8_findsBest 88 = .ok (.if_icmp .gt 77, 3) := by decide +kernel
theorem dX8_findsBest_91 : decode cX8_findsBest 91 = .ok (.aload_n 0, 1) := by decide +kernel
theorem dX8_findsBest_92 : decode cX8_findsBest 92 = .ok (.getfield 44, 3) := by decide +kernel
theorem dX8_findsBest_95 : decode cX8_findsBest 95 = .ok (.iconst 0, 1) := by decide +kernel
theorem dX8_findsBest_96 : decode cX8_findsBest 96 = .ok (.iconst 0, 1) := by decide +kernel
theorem dX8_findsBest_97 : decode cX8_findsBest 97 = .ok (.iload 6, 2) := by decide +kernel
theorem dX8_findsBest_99 : decode cX8_findsBest 99 = .ok (.iload 7, 2) := by decide +kernel
theorem dX8_findsBest_101 : decode cX8_findsBest 101 = .ok (.invokestatic 207, 3) := by decide +kernel
theorem dX8_findsBest_104 : decode cX8_findsBest 104 = .ok (.iaload, 1) := by decide +kernel
theorem dX8_findsBest_105 : decode cX8_findsBest 105 = .ok (.istore 8, 2) := by decide +kernel
theorem dX8_findsBest_107 : decode cX8_findsBest 107 = .ok (.iload 5, 2) := by decide +kernel
theorem dX8_findsBest_109 : decode cX8_findsBest 109 = .ok (.ifCond .eq 50, 3) := by decide +kernel
theorem dX8_findsBest_112 : decode cX8_findsBest 112 = .ok (.iload 8, 2) := by decide +kernel
theorem dX8_findsBest_114 : decode cX8_findsBest 114 = .ok (.ldc 184, 2) := by decide +kernel
theorem dX8_findsBest_116 : decode cX8_findsBest 116 = .ok (.if_icmp .ge 43, 3) := by decide +kernel
theorem dX8_findsBest_119 : decode cX8_findsBest 119 = .ok (.iload 8, 2) := by decide +kernel
theorem dX8_findsBest_121 : decode cX8_findsBest 121 = .ok (.iload 6, 2) := by decide +kernel
theorem dX8_findsBest_123 : decode cX8_findsBest 123 = .ok (.invokestatic 153, 3) := by decide +kernel
theorem dX8_findsBest_126 : decode cX8_findsBest 126 = .ok (.iadd, 1) := by decide +kernel
theorem dX8_findsBest_127 : decode cX8_findsBest 127 = .ok (.iload 7, 2) := by decide +kernel
theorem dX8_findsBest_129 : decode cX8_findsBest 129 = .ok (.invokestatic 153, 3) := by decide +kernel
theorem dX8_findsBest_132 : decode cX8_findsBest 132 = .ok (.iadd, 1) := by decide +kernel
theorem dX8_findsBest_133 : decode cX8_findsBest 133 = .ok (.aload_n 0, 1) := by decide +kernel
theorem dX8_findsBest_134 : decode cX8_findsBest 134 = .ok (.getfield 224, 3) := by decide +kernel
theorem dX8_findsBest_137 : decode cX8_findsBest 137 = .ok (.if_icmp .ne 22, 3) := by decide +kernel
theorem dX8_findsBest_140 : decode cX8_findsBest 140 = .ok (.aload_n 0, 1) := by decide +kernel
theorem dX8_findsBest_141 : decode cX8_findsBest 141 = .ok (.getfield 47, 3) := by decide +kernel
theorem dX8_findsBest_144 : decode cX8_findsBest 144 = .ok (.iconst 0, 1) := by decide +kernel
theorem dX8_findsBest_145 : decode cX8_findsBest 145 = .ok (.iload 6, 2) := by decide +kernel
theorem dX8_findsBest_147 : decode cX8_findsBest 147 = .ok (.iastore, 1) := by decide +kernel
theorem dX8_findsBest_148 : decode cX8_findsBest 148 = .ok (.aload_n 0, 1) := by decide +kernel
theorem dX8_findsBest_149 : decode cX8_findsBest 149 = .ok (.getfield 47, 3) := by decide +kernel
theorem dX8_findsBest_152 : decode cX8_findsBest 152 = .ok (.iconst 1, 1) := by decide +kernel
theorem dX8_findsBest_153 : decode cX8_findsBest 153 = .ok (.iload 7, 2) := by decide +kernel
theorem dX8_findsBest_155 : decode cX8_findsBest 155 = .ok (.iastore, 1) := by decide +kernel
theorem dX8_findsBest_156 : decode cX8_findsBest 156 = .ok (.iconst 0, 1) := by decide +kernel
theorem dX8_findsBest_157 : decode cX8_findsBest 157 = .ok (.istore 5, 2) := by decide +kernel
theorem dX8_findsBest_159 : decode cX8_findsBest 159 = .ok (.iinc 7 1, 3) := by decide +kernel
theorem dX8_findsBest_162 : decode cX8_findsBest 162 = .ok (.goto (-78), 3) := by decide +kernel
theorem dX8_findsBest_165 : decode cX8_findsBest 165 = .ok (.iinc 6 1, 3) := by decide +kernel
theorem dX8_findsBest_168 : decode cX8_findsBest 168 = .ok (.goto (-95), 3) := by decide +kernel
theorem dX8_findsBest_171 : decode cX8_findsBest 171 = .ok (.iconst 0, 1) := by decide +kernel
theorem dX8_findsBest_172 : decode cX8_findsBest 172 = .ok (.istore 6, 2) := by decide +kernel
theorem dX8_findsBest_174 : decode cX8_findsBest 174 = .ok (.iload 6, 2) := by decide +kernel
theorem dX8_findsBest_176 : decode cX8_findsBest 176 = .ok (.iconst 2, 1) := by decide +kernel
theorem dX8_findsBest_177 : decode cX8_findsBest 177 = .ok (.iadd, 1) := by decide +kernel
theorem dX8_findsBest_178 : decode cX8_findsBest 178 = .ok (.aload_n 0, 1) := by decide +kernel
theorem dX8_findsBest_179 : decode cX8_findsBest 179 = .ok (.getfield 25, 3) := by decide +kernel
theorem dX8_findsBest_182 : decode cX8_findsBest 182 = .ok (.iconst 0, 1) := by decide +kernel
theorem dX8_findsBest_183 : decode cX8_findsBest 183 = .ok (.iaload, 1) := by decide +kernel
theorem dX8_findsBest_184 : decode cX8_findsBest 184 = .ok (.if_icmp .ge 111, 3) := by decide +kernel
theorem dX8_findsBest_187 : decode cX8_findsBest 187 = .ok (.iload 6, 2) := by decide +kernel
theorem dX8_findsBest_189 : decode cX8_findsBest 189 = .ok (.ifCond .le 15, 3) := by decide +kernel
theorem dX8_findsBest_192 : decode cX8_findsBest 192 = .ok (.aload_n 0, 1) := by decide +kernel
theorem dX8_findsBest_193 : decode cX8_findsBest 193 = .ok (.getfield 47, 3) := by decide +kernel
theorem dX8_findsBest_196 : decode cX8_findsBest 196 = .ok (.iload 6, 2) := by decide +kernel
theorem dX8_findsBest_198 : decode cX8_findsBest 198 = .ok (.iconst 1, 1) := by decide +kernel
theorem dX8_findsBest_199 : decode cX8_findsBest 199 = .ok (.isub, 1) := by decide +kernel
theorem dX8_findsBest_200 : decode cX8_findsBest 200 = .ok (.iaload, 1) := by decide +kernel
theorem dX8_findsBest_201 : decode cX8_findsBest 201 = .ok (.goto 4, 3) := by decide +kernel
theorem dX8_findsBest_204 : decode cX8_findsBest 204 = .ok (.iconst 0, 1) := by decide +kernel
theorem dX8_findsBest_205 : decode cX8_findsBest 205 = .ok (.istore 7, 2) := by decide +kernel
theorem dX8_findsBest_207 : decode cX8_findsBest 207 = .ok (.aload_n 0, 1) := by decide +kernel
theorem dX8_findsBest_208 : decode cX8_findsBest 208 = .ok (.getfield 47, 3) := by decide +kernel
theorem dX8_findsBest_211 : decode cX8_findsBest 211 = .ok (.iload 6, 2) := by decide +kernel
theorem dX8_findsBest_213 : decode cX8_findsBest 213 = .ok (.iaload, 1) := by decide +kernel
theorem dX8_findsBest_214 : decode cX8_findsBest 214 = .ok (.istore 8, 2) := by decide +kernel
theorem dX8_findsBest_216 : decode cX8_findsBest 216 = .ok (.aload_n 0, 1) := by decide +kernel
theorem dX8_findsBest_217 : decode cX8_findsBest 217 = .ok (.getfield 47, 3) := by decide +kernel
theorem dX8_findsBest_220 : decode cX8_findsBest 220 = .ok (.iload 6, 2) := by decide +kernel
theorem dX8_findsBest_222 : decode cX8_findsBest 222 = .ok (.iconst 1, 1) := by decide +kernel
theorem dX8_findsBest_223 : decode cX8_findsBest 223 = .ok (.iadd, 1) := by decide +kernel
theorem dX8_findsBest_224 : decode cX8_findsBest 224 = .ok (.iaload, 1) := by decide +kernel
theorem dX8_findsBest_225 : decode cX8_findsBest 225 = .ok (.istore 9, 2) := by decide +kernel
theorem dX8_findsBest_227 : decode cX8_findsBest 227 = .ok (.aload_n 0, 1) := by decide +kernel
theorem dX8_findsBest_228 : decode cX8_findsBest 228 = .ok (.iload 6, 2) := by decide +kernel
theorem dX8_findsBest_230 : decode cX8_findsBest 230 = .ok (.iconst 2, 1) := by decide +kernel
theorem dX8_findsBest_231 : decode cX8_findsBest 231 = .ok (.iadd, 1) := by decide +kernel
theorem dX8_findsBest_232 : decode cX8_findsBest 232 = .ok (.invokevirtual 211, 3) := by decide +kernel
theorem dX8_findsBest_235 : decode cX8_findsBest 235 = .ok (.ineg, 1) := by decide +kernel
theorem dX8_findsBest_236 : decode cX8_findsBest 236 = .ok (.istore 10, 2) := by decide +kernel
theorem dX8_findsBest_238 : decode cX8_findsBest 238 = .ok (.aload_n 0, 1) := by decide +kernel
theorem dX8_findsBest_239 : decode cX8_findsBest 239 = .ok (.iload 6, 2) := by decide +kernel
theorem dX8_findsBest_241 : decode cX8_findsBest 241 = .ok (.iload 7, 2) := by decide +kernel
theorem dX8_findsBest_243 : decode cX8_findsBest 243 = .ok (.iload 8, 2) := by decide +kernel
theorem dX8_findsBest_245 : decode cX8_findsBest 245 = .ok (.iload 9, 2) := by decide +kernel
theorem dX8_findsBest_247 : decode cX8_findsBest 247 = .ok (.iload 10, 2) := by decide +kernel
theorem dX8_findsBest_249 : decode cX8_findsBest 249 = .ok (.iload_n 1, 1) := by decide +kernel
theorem dX8_findsBest_250 : decode cX8_findsBest 250 = .ok (.invokevirtual 214, 3) := by decide +kernel
theorem dX8_findsBest_253 : decode cX8_findsBest 253 = .ok (.aload_n 0, 1) := by decide +kernel
theorem dX8_findsBest_254 : decode cX8_findsBest 254 = .ok (.getfield 44, 3) := by decide +kernel
theorem dX8_findsBest_257 : decode cX8_findsBest 257 = .ok (.iload 6, 2) := by decide +kernel
theorem dX8_findsBest_259 : decode cX8_findsBest 259 = .ok (.iload 7, 2) := by decide +kernel
theorem dX8_findsBest_261 : decode cX8_findsBest 261 = .ok (.iload 8, 2) := by decide +kernel
theorem dX8_findsBest_263 : decode cX8_findsBest 263 = .ok (.iload 9, 2) := by decide +kernel
theorem dX8_findsBest_265 : decode cX8_findsBest 265 = .ok (.invokestatic 207, 3) := by decide +kernel
theorem dX8_findsBest_268 : decode cX8_findsBest 268 = .ok (.iaload, 1) := by decide +kernel
theorem dX8_findsBest_269 : decode cX8_findsBest 269 = .ok (.if_icmp .eq 9, 3) := by decide +kernel
theorem dX8_findsBest_272 : decode cX8_findsBest 272 = .ok (.iinc 10 1, 3) := by decide +kernel
theorem dX8_findsBest_275 : decode cX8_findsBest 275 = .ok (.goto (-37), 3) := by decide +kernel
theorem dX8_findsBest_278 : decode cX8_findsBest 278 = .ok (.aload_n 0, 1) := by decide +kernel
theorem dX8_findsBest_279 : decode cX8_findsBest 279 = .ok (.getfield 47, 3) := by decide +kernel
theorem dX8_findsBest_282 : decode cX8_findsBest 282 = .ok (.iload 6, 2) := by decide +kernel
theorem dX8_findsBest_284 : decode cX8_findsBest 284 = .ok (.iconst 2, 1) := by decide +kernel
theorem dX8_findsBest_285 : decode cX8_findsBest 285 = .ok (.iadd, 1) := by decide +kernel
theorem dX8_findsBest_286 : decode cX8_findsBest 286 = .ok (.iload 10, 2) := by decide +kernel
theorem dX8_findsBest_288 : decode cX8_findsBest 288 = .ok (.iastore, 1) := by decide +kernel
theorem dX8_findsBest_289 : decode cX8_findsBest 289 = .ok (.iinc 6 1, 3) := by decide +kernel
theorem dX8_findsBest_292 : decode cX8_findsBest 292 = .ok (.goto (-118), 3) := by decide +kernel
theorem dX8_findsBest_295 : decode cX8_findsBest 295 = .ok (.return_, 1) := by decide +kernel
def rmX8_findsBest : Room := { frames := 4, cells := 0, slots := 0, locals := 109 }
def lpX8_findsBest_238 (o0 : Nat) (x6 : Int32) (x21 : Int32) (M22 : zM) (x24 : Int32) (x25 : Int32) (K238_278 : Int32 → Prop) : Nat → Int32 → Prop
  | 0, _ => False
  | fu238 + 1, x27 =>
    wX8_costBy M22 o0 x21 x24 (M22 (o0 + 13) x21.toNatClampNeg) x25 x27 x6 (fun r31 =>
    wX8_place M22 x21 x24 (M22 (o0 + 13) x21.toNatClampNeg) x25 (fun r32 =>
    vp_in r32 4116 ∧
    ((r31 = (M22 (o0 + 12) r32.toNatClampNeg)) → (
    K238_278 x27)) ∧
    ((¬ r31 = (M22 (o0 + 12) r32.toNatClampNeg)) → (
    ∀ x33 : Int32, x33 = x27 + (1 : Int32) →
    lpX8_findsBest_238 o0 x6 x21 M22 x24 x25 K238_278 fu238 x33))))
def jnX8_findsBest_205 (o0 : Nat) (x6 : Int32) (x21 : Int32) (M22 : zM) (B174 : Int32 → zM → Prop) (x24 : Int32) : Prop :=
    vp_in x21 12 ∧
    vp_in (x21 + (1 : Int32)) 12 ∧
    ∀ x25 : Int32, x25 = (M22 (o0 + 13) (x21 + (1 : Int32)).toNatClampNeg) →
    wX8_reachAt M22 o0 (x21 + (2 : Int32)) (fun r26 =>
    ∃ fu238 : Nat, lpX8_findsBest_238 o0 x6 x21 M22 x24 x25 (fun x28 =>
    vp_in (x21 + (2 : Int32)) 12 ∧
    ∀ M29 : zM, M29 = va_up M22 (o0 + 13) (upd (M22 (o0 + 13)) (x21 + (2 : Int32)).toNatClampNeg x28) →
    ∀ x30 : Int32, x30 = x21 + (1 : Int32) →
    B174 x30 M29) fu238 (-r26))
def lpX8_findsBest_174 (o0 : Nat) (x6 : Int32) (Q : zM → Prop) : Nat → Int32 → zM → Prop
  | 0, _, _ => False
  | fu174 + 1, x21, M22 =>
    (((M22 (o0 + 6) (0 : Int32).toNatClampNeg) ≤ (x21 + (2 : Int32))) → (
    Q M22)) ∧
    ((¬ (M22 (o0 + 6) (0 : Int32).toNatClampNeg) ≤ (x21 + (2 : Int32))) → (
    ((x21 ≤ 0) → (
    jnX8_findsBest_205 o0 x6 x21 M22 (lpX8_findsBest_174 o0 x6 Q fu174) (0 : Int32))) ∧
    ((¬ x21 ≤ 0) → (
    vp_in (x21 - (1 : Int32)) 12 ∧
    ∀ x34 : Int32, x34 = (M22 (o0 + 13) (x21 - (1 : Int32)).toNatClampNeg) →
    jnX8_findsBest_205 o0 x6 x21 M22 (lpX8_findsBest_174 o0 x6 Q fu174) x34))))
def lpX8_findsBest_84 (o0 : Nat) (r14 : Int32) (x16 : Int32) (K84_165 : Int32 → Int32 → zM → Prop) : Nat → Int32 → Int32 → zM → Prop
  | 0, _, _, _ => False
  | fu84 + 1, x35, x36, M37 =>
    ((r14 < x36) → (
    K84_165 x35 x36 M37)) ∧
    ((¬ r14 < x36) → (
    wX8_place M37 (0 : Int32) (0 : Int32) x16 x36 (fun r42 =>
    vp_in r42 4116 ∧
    ((x35 = 0) → (
    ∀ x43 : Int32, x43 = x36 + (1 : Int32) →
    lpX8_findsBest_84 o0 r14 x16 K84_165 fu84 x35 x43 M37)) ∧
    ((¬ x35 = 0) → (
    (((1000000000 : Int32) ≤ (M37 (o0 + 12) r42.toNatClampNeg)) → (
    ∀ x44 : Int32, x44 = x36 + (1 : Int32) →
    lpX8_findsBest_84 o0 r14 x16 K84_165 fu84 x35 x44 M37)) ∧
    ((¬ (1000000000 : Int32) ≤ (M37 (o0 + 12) r42.toNatClampNeg)) → (
    wX8_size M37 x16 (fun r45 =>
    wX8_size M37 x36 (fun r46 =>
    ∀ x47 : Int32, x47 = (((M37 (o0 + 12) r42.toNatClampNeg) + r45) + r46) →
    ((¬ x47 = (M37 o0 10)) → (
    ∀ x48 : Int32, x48 = x36 + (1 : Int32) →
    lpX8_findsBest_84 o0 r14 x16 K84_165 fu84 x35 x48 M37)) ∧
    ((x47 = (M37 o0 10)) → (
    ∀ M49 : zM, M49 = va_up M37 (o0 + 13) (upd (M37 (o0 + 13)) (0 : Int32).toNatClampNeg x16) →
    ∀ M50 : zM, M50 = va_up M49 (o0 + 13) (upd (M49 (o0 + 13)) (1 : Int32).toNatClampNeg x36) →
    ∀ x51 : Int32, x51 = x36 + (1 : Int32) →
    lpX8_findsBest_84 o0 r14 x16 K84_165 fu84 (0 : Int32) x51 M50)))))))))))
def lpX8_findsBest_73 (o0 : Nat) (r13 : Int32) (r14 : Int32) (K73_171 : Int32 → Int32 → zM → Prop) : Nat → Int32 → Int32 → zM → Prop
  | 0, _, _, _ => False
  | fu73 + 1, x15, x16, M17 =>
    ((r13 < x16) → (
    K73_171 x15 x16 M17)) ∧
    ((¬ r13 < x16) → (
    ∃ fu84 : Nat, lpX8_findsBest_84 o0 r14 x16 (fun x38 x39 M40 =>
    ∀ x41 : Int32, x41 = x16 + (1 : Int32) →
    lpX8_findsBest_73 o0 r13 r14 K73_171 fu73 x38 x41 M40) fu84 x15 (-r14) M17))
def lpX8_findsBest_6 (o0 : Nat) (K6_39 : Int32 → Int32 → zM → Prop) : Nat → Int32 → Int32 → zM → Prop
  | 0, _, _, _ => False
  | fu6 + 1, x3, x4, M5 =>
    ((x4 ≤ x3) → (
    K6_39 x3 x4 M5)) ∧
    ((¬ x4 ≤ x3) → (
    wX8_reckons M5 o0 ((x3 + x4) / (2 : Int32)) (fun r52 M53 =>
    (((1000000000 : Int32) ≤ r52) → (
    lpX8_findsBest_6 o0 K6_39 fu6 (((x3 + x4) / (2 : Int32)) + (1 : Int32)) x4 M53)) ∧
    ((¬ (1000000000 : Int32) ≤ r52) → (
    lpX8_findsBest_6 o0 K6_39 fu6 x3 ((x3 + x4) / (2 : Int32)) M53)))))
def wX8_findsBest (M : zM) (o0 : Nat) (Q : zM → Prop) : Prop :=
    ∃ fu6 : Nat, lpX8_findsBest_6 o0 (fun x6 x7 M8 =>
    ∀ M9 : zM, M9 = va_up M8 o0 (upd (M8 o0) 9 x6) →
    wX8_reckons M9 o0 x6 (fun r10 M11 =>
    ∀ M12 : zM, M12 = va_up M11 o0 (upd (M11 o0) 10 r10) →
    wX8_reachAt M12 o0 (0 : Int32) (fun r13 =>
    wX8_reachAt M12 o0 (1 : Int32) (fun r14 =>
    ∃ fu73 : Nat, lpX8_findsBest_73 o0 r13 r14 (fun x18 x19 M20 =>
    ∃ fu174 : Nat, lpX8_findsBest_174 o0 x6 Q fu174 (0 : Int32) M20) fu73 (1 : Int32) (-r13) M12)))) fu6 (0 : Int32) (4100 : Int32) M
set_option maxHeartbeats 4000000 in
set_option maxRecDepth 100000 in
theorem kX8_findsBest {l : Launch} {D : va_G} {Y : zY} {ad kd : Nat → Nat} {RL : List Nat} {M : zM} {J : zL} {o0 : Nat} (h_o0 : kd o0 = 8) {Q : zM → Prop} (hq : wX8_findsBest M o0 Q) : zCv l yX8_findsBest wsX8_findsBest rmX8_findsBest [.ref (ad o0)] D Y ad kd RL M J (fun M' J' => Q M' ∧ J = J') := by
  refine z_metv (cc := cX8_findsBest) (maxL := 11) (ret := none) (by decide) rfl (Nat.le_of_ble_eq_true rfl) ?_
  intro p e s m below meth c ls A ar QE hQE hx hb hr hml hown hts hlk hw hl
  have hown : s.vm.findClass RX8 = some m.cls := hown
  have hl : lv_has ls 11 [(0, .ref (ad o0))] := hl
  have hC := hw.2.2.2.2.2.1
  have g8 : ∀ w ∈ wsX80, w.before ar s = true := (fun w h => hts w (List.mem_cons_of_mem _ (List.mem_append_right _ h)))
  have q1 := hts _ (List.mem_of_getElem? (i := 1) rfl)
  have q2 := hts _ (List.mem_of_getElem? (i := 2) rfl)
  have q3 := hts _ (List.mem_of_getElem? (i := 3) rfl)
  have q4 := hts _ (List.mem_of_getElem? (i := 4) rfl)
  have q5 := hts _ (List.mem_of_getElem? (i := 5) rfl)
  have q6 := hts _ (List.mem_of_getElem? (i := 6) rfl)
  unfold wX8_findsBest at hq
  refine lv_iconst (v := (0 : Int32)) hx hb dX8_findsBest_0 (by decide) ?_
  refine lv_istore_n (lv' := [(1, .int (0 : Int32)), (0, .ref (ad o0))]) hx hb dX8_findsBest_1 rfl hl (by decide) rfl (fun ls hl => ?_)
  refine lv_sipush (v := (4100 : Int32)) hx hb dX8_findsBest_2 (by decide) ?_
  refine lv_istore_n (lv' := [(2, .int (4100 : Int32)), (1, .int (0 : Int32)), (0, .ref (ad o0))]) hx hb dX8_findsBest_5 rfl hl (by decide) rfl (fun ls hl => ?_)
  have ex6_39 : ∀ (x6 : Int32) (x7 : Int32) (M8 : zM) (H : Heap) (locs : List Loc) (ls : Array Slot), (∀ M9 : zM, M9 = va_up M8 o0 (upd (M8 o0) 9 x6) → wX8_reckons M9 o0 x6 (fun r10 M11 => ∀ M12 : zM, M12 = va_up M11 o0 (upd (M11 o0) 10 r10) → wX8_reachAt M12 o0 (0 : Int32) (fun r13 => wX8_reachAt M12 o0 (1 : Int32) (fun r14 => ∃ fu73 : Nat, lpX8_findsBest_73 o0 r13 r14 (fun x18 x19 M20 => ∃ fu174 : Nat, lpX8_findsBest_174 o0 x6 Q fu174 (0 : Int32) M20) fu73 (1 : Int32) (-r13) M12)))) → zH D Y ad kd RL M8 J A s.heap H locs s → lv_has ls 11 [(0, .ref (ad o0)), (1, .int x6)] → W p l e rmX8_findsBest s m ar below meth c H locs 0 0 QE (F0 m 39 ls []) := by
    intro x6 x7 M8 H locs ls hq hw hl
    refine lv_aload_n hx hb dX8_findsBest_39 rfl (lv_at hl 0 rfl) ?_
    refine lv_iload_n hx hb dX8_findsBest_40 rfl (lv_at hl 1 rfl) ?_
    refine zp8_bestWorst hx hb g8 hown hw h_o0 q2 dX8_findsBest_41 (fun H locs hw => ?_)
    obtain ⟨M9, e_M9⟩ : ∃ y : zM, y = va_up M8 o0 (upd (M8 o0) 9 x6) := ⟨_, rfl⟩
    rw [← e_M9] at hw
    have hq := hq M9 e_M9
    refine lv_aload_n hx hb dX8_findsBest_44 rfl (lv_at hl 0 rfl) ?_
    refine lv_aload_n hx hb dX8_findsBest_45 rfl (lv_at hl 0 rfl) ?_
    refine lv_iload_n hx hb dX8_findsBest_46 rfl (lv_at hl 1 rfl) ?_
    refine z_cvi ⟨hx, hb, hml, hown, hts⟩ hw h_o0 (kX8_reckons h_o0 hq) (by decide) rfl (cwV 1 hts gX8_findsBest_X8_reckons rfl rfl rfl (by decide +kernel) ⟨Nat.le_of_ble_eq_true rfl, Nat.le_of_ble_eq_true rfl⟩) rfl hl.1 rfl (Nat.le_of_ble_eq_true rfl) dX8_findsBest_47 ⟨Nat.zero_le _, Nat.zero_le _⟩ (fun r10 M11 J0 H locs hq hw => ?_)
    obtain ⟨hq, rfl⟩ := hq
    refine zp8_bestCost hx hb g8 hown hw h_o0 q3 dX8_findsBest_50 (fun H locs hw => ?_)
    obtain ⟨M12, e_M12⟩ : ∃ y : zM, y = va_up M11 o0 (upd (M11 o0) 10 r10) := ⟨_, rfl⟩
    rw [← e_M12] at hw
    have hq := hq M12 e_M12
    refine lv_aload_n hx hb dX8_findsBest_53 rfl (lv_at hl 0 rfl) ?_
    refine lv_iconst (v := (0 : Int32)) hx hb dX8_findsBest_54 (by decide) ?_
    refine z_cvi ⟨hx, hb, hml, hown, hts⟩ hw h_o0 (kX8_reachAt h_o0 hq) (by decide) rfl (cwV 1 hts gX8_findsBest_X8_reachAt rfl rfl rfl (by decide +kernel) ⟨Nat.le_of_ble_eq_true rfl, Nat.le_of_ble_eq_true rfl⟩) rfl hl.1 rfl (Nat.le_of_ble_eq_true rfl) dX8_findsBest_55 ⟨Nat.zero_le _, Nat.zero_le _⟩ (fun r13 M0 J0 H locs hq hw => ?_)
    obtain ⟨hq, rfl, rfl⟩ := hq
    refine lv_istore_n (lv' := [(3, .int r13), (0, .ref (ad o0)), (1, .int x6)]) hx hb dX8_findsBest_58 rfl hl (by decide) rfl (fun ls hl => ?_)
    refine lv_aload_n hx hb dX8_findsBest_59 rfl (lv_at hl 1 rfl) ?_
    refine lv_iconst (v := (1 : Int32)) hx hb dX8_findsBest_60 (by decide) ?_
    refine z_cvi ⟨hx, hb, hml, hown, hts⟩ hw h_o0 (kX8_reachAt h_o0 hq) (by decide) rfl (cwV 1 hts gX8_findsBest_X8_reachAt rfl rfl rfl (by decide +kernel) ⟨Nat.le_of_ble_eq_true rfl, Nat.le_of_ble_eq_true rfl⟩) rfl hl.1 rfl (Nat.le_of_ble_eq_true rfl) dX8_findsBest_61 ⟨Nat.zero_le _, Nat.zero_le _⟩ (fun r14 M0 J0 H locs hq hw => ?_)
    obtain ⟨hq, rfl, rfl⟩ := hq
    refine lv_istore (lv' := [(4, .int r14), (3, .int r13), (0, .ref (ad o0)), (1, .int x6)]) hx hb dX8_findsBest_64 hl (by decide) rfl (fun ls hl => ?_)
    refine lv_iconst (v := (1 : Int32)) hx hb dX8_findsBest_66 (by decide) ?_
    refine lv_istore (lv' := [(5, .int (1 : Int32)), (4, .int r14), (3, .int r13), (0, .ref (ad o0)), (1, .int x6)]) hx hb dX8_findsBest_67 hl (by decide) rfl (fun ls hl => ?_)
    refine lv_iload_n hx hb dX8_findsBest_69 rfl (lv_at hl 2 rfl) ?_
    refine lv_ineg hx hb dX8_findsBest_70 ?_
    refine lv_istore (lv' := [(6, .int (-r13)), (5, .int (1 : Int32)), (4, .int r14), (3, .int r13), (0, .ref (ad o0)), (1, .int x6)]) hx hb dX8_findsBest_71 hl (by decide) rfl (fun ls hl => ?_)
    have ex73_171 : ∀ (x18 : Int32) (x19 : Int32) (M20 : zM) (H : Heap) (locs : List Loc) (ls : Array Slot), (∃ fu174 : Nat, lpX8_findsBest_174 o0 x6 Q fu174 (0 : Int32) M20) → zH D Y ad kd RL M20 J A s.heap H locs s → lv_has ls 11 [(0, .ref (ad o0)), (1, .int x6)] → W p l e rmX8_findsBest s m ar below meth c H locs 0 0 QE (F0 m 171 ls []) := by
      intro x18 x19 M20 H locs ls hq hw hl
      refine lv_iconst (v := (0 : Int32)) hx hb dX8_findsBest_171 (by decide) ?_
      refine lv_istore (lv' := [(6, .int (0 : Int32)), (0, .ref (ad o0)), (1, .int x6)]) hx hb dX8_findsBest_172 hl (by decide) rfl (fun ls hl => ?_)
      obtain ⟨fu174, hq⟩ := hq
      have lp174 : ∀ (fu174 : Nat) (x21 : Int32) (M22 : zM) (H : Heap) (locs : List Loc) (ls : Array Slot), lpX8_findsBest_174 o0 x6 Q fu174 x21 M22 → zH D Y ad kd RL M22 J A s.heap H locs s → lv_has ls 11 [(0, .ref (ad o0)), (1, .int x6), (6, .int x21)] → W p l e rmX8_findsBest s m ar below meth c H locs 0 0 QE (F0 m 174 ls []) := by
        intro fu174
        induction fu174 with
        | zero => intro x21 M22 H locs ls hq; exact hq.elim
        | succ fu174 ih174 =>
          intro x21 M22 H locs ls hq hw hl
          unfold lpX8_findsBest_174 at hq
          refine lv_iload hx hb dX8_findsBest_174 (lv_at hl 2 rfl) ?_
          refine lv_iconst (v := (2 : Int32)) hx hb dX8_findsBest_176 (by decide) ?_
          refine lv_iadd hx hb dX8_findsBest_177 ?_
          refine lv_aload_n hx hb dX8_findsBest_178 rfl (lv_at hl 0 rfl) ?_
          refine zg8_now hx hb g8 hown hw h_o0 q6 dX8_findsBest_179 ?_
          refine lv_iconst (v := (0 : Int32)) hx hb dX8_findsBest_182 (by decide) ?_
          have hi : vp_in (0 : Int32) 50 := by unfold vp_in; decide
          refine z_iald (n := 50) hx hb hw (zk_8_6 hC h_o0) hi dX8_findsBest_183 ?_
          refine lv_icmp_ge (tgt := 295) hx hb dX8_findsBest_184 (by decide) (fun hc => ?_) (fun hc => ?_)
          · have hq := hq.1 hc
            exact z_vret hQE hx hb hr hlk hw dX8_findsBest_295 ⟨hq, rfl⟩
          · have hq := hq.2 hc
            refine lv_iload hx hb dX8_findsBest_187 (lv_at hl 2 rfl) ?_
            have jn205 : ∀ (x24 : Int32) (H : Heap) (locs : List Loc) (ls : Array Slot), jnX8_findsBest_205 o0 x6 x21 M22 (lpX8_findsBest_174 o0 x6 Q fu174) x24 → zH D Y ad kd RL M22 J A s.heap H locs s → lv_has ls 11 [(0, .ref (ad o0)), (1, .int x6), (6, .int x21)] → W p l e rmX8_findsBest s m ar below meth c H locs 0 0 QE (F0 m 205 ls [.int x24]) := by
              intro x24 H locs ls hq hw hl
              unfold jnX8_findsBest_205 at hq
              refine lv_istore (lv' := [(7, .int x24), (0, .ref (ad o0)), (1, .int x6), (6, .int x21)]) hx hb dX8_findsBest_205 hl (by decide) rfl (fun ls hl => ?_)
              refine lv_aload_n hx hb dX8_findsBest_207 rfl (lv_at hl 1 rfl) ?_
              refine zg8_bestSlews hx hb g8 hown hw h_o0 q5 dX8_findsBest_208 ?_
              refine lv_iload hx hb dX8_findsBest_211 (lv_at hl 3 rfl) ?_
              obtain ⟨hi, hq⟩ := hq
              refine z_iald (n := 12) hx hb hw (zk_8_13 hC h_o0) hi dX8_findsBest_213 ?_
              refine lv_istore (lv' := [(8, .int (M22 (o0 + 13) x21.toNatClampNeg)), (7, .int x24), (0, .ref (ad o0)), (1, .int x6), (6, .int x21)]) hx hb dX8_findsBest_214 hl (by decide) rfl (fun ls hl => ?_)
              refine lv_aload_n hx hb dX8_findsBest_216 rfl (lv_at hl 2 rfl) ?_
              refine zg8_bestSlews hx hb g8 hown hw h_o0 q5 dX8_findsBest_217 ?_
              refine lv_iload hx hb dX8_findsBest_220 (lv_at hl 4 rfl) ?_
              refine lv_iconst (v := (1 : Int32)) hx hb dX8_findsBest_222 (by decide) ?_
              refine lv_iadd hx hb dX8_findsBest_223 ?_
              obtain ⟨hi, hq⟩ := hq
              refine z_iald (n := 12) hx hb hw (zk_8_13 hC h_o0) hi dX8_findsBest_224 ?_
              refine lv_topi (fun x25 e_x25 => ?_)
              have hq := hq x25 e_x25
              refine lv_istore (lv' := [(9, .int x25), (8, .int (M22 (o0 + 13) x21.toNatClampNeg)), (7, .int x24), (0, .ref (ad o0)), (1, .int x6), (6, .int x21)]) hx hb dX8_findsBest_225 hl (by decide) rfl (fun ls hl => ?_)
              refine lv_aload_n hx hb dX8_findsBest_227 rfl (lv_at hl 3 rfl) ?_
              refine lv_iload hx hb dX8_findsBest_228 (lv_at hl 5 rfl) ?_
              refine lv_iconst (v := (2 : Int32)) hx hb dX8_findsBest_230 (by decide) ?_
              refine lv_iadd hx hb dX8_findsBest_231 ?_
              refine z_cvi ⟨hx, hb, hml, hown, hts⟩ hw h_o0 (kX8_reachAt h_o0 hq) (by decide) rfl (cwV 1 hts gX8_findsBest_X8_reachAt rfl rfl rfl (by decide +kernel) ⟨Nat.le_of_ble_eq_true rfl, Nat.le_of_ble_eq_true rfl⟩) rfl hl.1 rfl (Nat.le_of_ble_eq_true rfl) dX8_findsBest_232 ⟨Nat.zero_le _, Nat.zero_le _⟩ (fun r26 M0 J0 H locs hq hw => ?_)
              obtain ⟨hq, rfl, rfl⟩ := hq
              refine lv_ineg hx hb dX8_findsBest_235 ?_
              refine lv_istore (lv' := [(10, .int (-r26)), (9, .int x25), (8, .int (M22 (o0 + 13) x21.toNatClampNeg)), (7, .int x24), (0, .ref (ad o0)), (1, .int x6), (6, .int x21)]) hx hb dX8_findsBest_236 hl (by decide) rfl (fun ls hl => ?_)
              have ex238_278 : ∀ (x28 : Int32) (H : Heap) (locs : List Loc) (ls : Array Slot), (vp_in (x21 + (2 : Int32)) 12 ∧ ∀ M29 : zM, M29 = va_up M22 (o0 + 13) (upd (M22 (o0 + 13)) (x21 + (2 : Int32)).toNatClampNeg x28) → ∀ x30 : Int32, x30 = x21 + (1 : Int32) → lpX8_findsBest_174 o0 x6 Q fu174 x30 M29) → zH D Y ad kd RL M22 J A s.heap H locs s → lv_has ls 11 [(0, .ref (ad o0)), (1, .int x6), (6, .int x21), (10, .int x28)] → W p l e rmX8_findsBest s m ar below meth c H locs 0 0 QE (F0 m 278 ls []) := by
                intro x28 H locs ls hq hw hl
                refine lv_aload_n hx hb dX8_findsBest_278 rfl (lv_at hl 0 rfl) ?_
                refine zg8_bestSlews hx hb g8 hown hw h_o0 q5 dX8_findsBest_279 ?_
                refine lv_iload hx hb dX8_findsBest_282 (lv_at hl 2 rfl) ?_
                refine lv_iconst (v := (2 : Int32)) hx hb dX8_findsBest_284 (by decide) ?_
                refine lv_iadd hx hb dX8_findsBest_285 ?_
                refine lv_iload hx hb dX8_findsBest_286 (lv_at hl 3 rfl) ?_
                obtain ⟨hi, hq⟩ := hq
                refine z_iast (n := 12) hx hb hw (zk_8_13 hC h_o0) hi dX8_findsBest_288 (fun H locs hw => ?_)
                obtain ⟨M29, e_M29⟩ : ∃ y : zM, y = va_up M22 (o0 + 13) (upd (M22 (o0 + 13)) (x21 + (2 : Int32)).toNatClampNeg x28) := ⟨_, rfl⟩
                rw [← e_M29] at hw
                have hq := hq M29 e_M29
                obtain ⟨x30, e_x30⟩ : ∃ y : Int32, y = x21 + (1 : Int32) := ⟨_, rfl⟩
                have hq := hq x30 e_x30
                refine lv_iinc (v := x30) (lv' := [(6, .int x30), (0, .ref (ad o0)), (1, .int x6), (10, .int x28)]) hx hb dX8_findsBest_289 hl (k := 2) rfl (by rw [e_x30]; rfl) (by decide) rfl (fun ls hl => ?_)
                refine lv_goto (tgt := 174) hx hb dX8_findsBest_292 (by decide) ?_
                exact ih174 x30 M29 _ _ _ hq hw (lv_sub hl [1, 2, 0] rfl)
              obtain ⟨fu238, hq⟩ := hq
              have lp238 : ∀ (fu238 : Nat) (x27 : Int32) (H : Heap) (locs : List Loc) (ls : Array Slot), lpX8_findsBest_238 o0 x6 x21 M22 x24 x25 (fun x28 => vp_in (x21 + (2 : Int32)) 12 ∧ ∀ M29 : zM, M29 = va_up M22 (o0 + 13) (upd (M22 (o0 + 13)) (x21 + (2 : Int32)).toNatClampNeg x28) → ∀ x30 : Int32, x30 = x21 + (1 : Int32) → lpX8_findsBest_174 o0 x6 Q fu174 x30 M29) fu238 x27 → zH D Y ad kd RL M22 J A s.heap H locs s → lv_has ls 11 [(0, .ref (ad o0)), (1, .int x6), (6, .int x21), (7, .int x24), (8, .int (M22 (o0 + 13) x21.toNatClampNeg)), (9, .int x25), (10, .int x27)] → W p l e rmX8_findsBest s m ar below meth c H locs 0 0 QE (F0 m 238 ls []) := by
                intro fu238
                induction fu238 with
                | zero => intro x27 H locs ls hq; exact hq.elim
                | succ fu238 ih238 =>
                  intro x27 H locs ls hq hw hl
                  unfold lpX8_findsBest_238 at hq
                  refine lv_aload_n hx hb dX8_findsBest_238 rfl (lv_at hl 0 rfl) ?_
                  refine lv_iload hx hb dX8_findsBest_239 (lv_at hl 2 rfl) ?_
                  refine lv_iload hx hb dX8_findsBest_241 (lv_at hl 3 rfl) ?_
                  refine lv_iload hx hb dX8_findsBest_243 (lv_at hl 4 rfl) ?_
                  refine lv_iload hx hb dX8_findsBest_245 (lv_at hl 5 rfl) ?_
                  refine lv_iload hx hb dX8_findsBest_247 (lv_at hl 6 rfl) ?_
                  refine lv_iload_n hx hb dX8_findsBest_249 rfl (lv_at hl 1 rfl) ?_
                  refine z_cvi ⟨hx, hb, hml, hown, hts⟩ hw h_o0 (kX8_costBy h_o0 hq) (by decide) rfl (cwV 6 hts gX8_findsBest_X8_costBy rfl rfl rfl (by decide +kernel) ⟨Nat.le_of_ble_eq_true rfl, Nat.le_of_ble_eq_true rfl⟩) rfl hl.1 rfl (Nat.le_of_ble_eq_true rfl) dX8_findsBest_250 ⟨Nat.zero_le _, Nat.zero_le _⟩ (fun r31 M0 J0 H locs hq hw => ?_)
                  obtain ⟨hq, rfl, rfl⟩ := hq
                  refine lv_aload_n hx hb dX8_findsBest_253 rfl (lv_at hl 0 rfl) ?_
                  refine zg8_least hx hb g8 hown hw h_o0 q4 dX8_findsBest_254 ?_
                  refine lv_iload hx hb dX8_findsBest_257 (lv_at hl 2 rfl) ?_
                  refine lv_iload hx hb dX8_findsBest_259 (lv_at hl 3 rfl) ?_
                  refine lv_iload hx hb dX8_findsBest_261 (lv_at hl 4 rfl) ?_
                  refine lv_iload hx hb dX8_findsBest_263 (lv_at hl 5 rfl) ?_
                  refine z_csi ⟨hx, hb, hml, hown, hts⟩ hw (kX8_place  hq) (va_cwS 4 hts gX8_findsBest_X8_place rfl rfl rfl (by decide +kernel) ⟨Nat.le_of_ble_eq_true rfl, Nat.le_of_ble_eq_true rfl⟩) rfl hl.1 rfl (Nat.le_of_ble_eq_true rfl) dX8_findsBest_265 ⟨Nat.zero_le _, Nat.zero_le _⟩ (fun r32 M0 J0 H locs hq hw => ?_)
                  obtain ⟨hq, rfl, rfl⟩ := hq
                  obtain ⟨hi, hq⟩ := hq
                  refine z_iald (n := 4116) hx hb hw (zk_8_12 hC h_o0) hi dX8_findsBest_268 ?_
                  refine lv_icmp_eq (tgt := 278) hx hb dX8_findsBest_269 (by decide) (fun hc => ?_) (fun hc => ?_)
                  · have hq := hq.1 hc
                    exact ex238_278 x27 _ _ _ hq hw (lv_sub hl [0, 1, 2, 6] rfl)
                  · have hq := hq.2 hc
                    obtain ⟨x33, e_x33⟩ : ∃ y : Int32, y = x27 + (1 : Int32) := ⟨_, rfl⟩
                    have hq := hq x33 e_x33
                    refine lv_iinc (v := x33) (lv' := [(10, .int x33), (0, .ref (ad o0)), (1, .int x6), (6, .int x21), (7, .int x24), (8, .int (M22 (o0 + 13) x21.toNatClampNeg)), (9, .int x25)]) hx hb dX8_findsBest_272 hl (k := 6) rfl (by rw [e_x33]; rfl) (by decide) rfl (fun ls hl => ?_)
                    refine lv_goto (tgt := 238) hx hb dX8_findsBest_275 (by decide) ?_
                    exact ih238 x33 _ _ _ hq hw (lv_sub hl [1, 2, 3, 4, 5, 6, 0] rfl)
              exact lp238 fu238 (-r26) _ _ _ hq hw (lv_sub hl [4, 5, 6, 3, 2, 1, 0] rfl)
            refine lv_if_le (tgt := 204) hx hb dX8_findsBest_189 (by decide) (fun hc => ?_) (fun hc => ?_)
            · have hq := hq.1 hc
              refine lv_iconst (v := (0 : Int32)) hx hb dX8_findsBest_204 (by decide) ?_
              exact jn205 (0 : Int32) _ _ _ hq hw (lv_sub hl [0, 1, 2] rfl)
            · have hq := hq.2 hc
              refine lv_aload_n hx hb dX8_findsBest_192 rfl (lv_at hl 0 rfl) ?_
              refine zg8_bestSlews hx hb g8 hown hw h_o0 q5 dX8_findsBest_193 ?_
              refine lv_iload hx hb dX8_findsBest_196 (lv_at hl 2 rfl) ?_
              refine lv_iconst (v := (1 : Int32)) hx hb dX8_findsBest_198 (by decide) ?_
              refine lv_isub hx hb dX8_findsBest_199 ?_
              obtain ⟨hi, hq⟩ := hq
              refine z_iald (n := 12) hx hb hw (zk_8_13 hC h_o0) hi dX8_findsBest_200 ?_
              refine lv_topi (fun x34 e_x34 => ?_)
              have hq := hq x34 e_x34
              refine lv_goto (tgt := 205) hx hb dX8_findsBest_201 (by decide) ?_
              exact jn205 x34 _ _ _ hq hw (lv_sub hl [0, 1, 2] rfl)
      exact lp174 fu174 (0 : Int32) M20 _ _ _ hq hw (lv_sub hl [1, 2, 0] rfl)
    obtain ⟨fu73, hq⟩ := hq
    have lp73 : ∀ (fu73 : Nat) (x15 : Int32) (x16 : Int32) (M17 : zM) (H : Heap) (locs : List Loc) (ls : Array Slot), lpX8_findsBest_73 o0 r13 r14 (fun x18 x19 M20 => ∃ fu174 : Nat, lpX8_findsBest_174 o0 x6 Q fu174 (0 : Int32) M20) fu73 x15 x16 M17 → zH D Y ad kd RL M17 J A s.heap H locs s → lv_has ls 11 [(0, .ref (ad o0)), (1, .int x6), (3, .int r13), (4, .int r14), (5, .int x15), (6, .int x16)] → W p l e rmX8_findsBest s m ar below meth c H locs 0 0 QE (F0 m 73 ls []) := by
      intro fu73
      induction fu73 with
      | zero => intro x15 x16 M17 H locs ls hq; exact hq.elim
      | succ fu73 ih73 =>
        intro x15 x16 M17 H locs ls hq hw hl
        unfold lpX8_findsBest_73 at hq
        refine lv_iload hx hb dX8_findsBest_73 (lv_at hl 5 rfl) ?_
        refine lv_iload_n hx hb dX8_findsBest_75 rfl (lv_at hl 2 rfl) ?_
        refine lv_icmp_gt (tgt := 171) hx hb dX8_findsBest_76 (by decide) (fun hc => ?_) (fun hc => ?_)
        · have hq := hq.1 hc
          exact ex73_171 x15 x16 M17 _ _ _ hq hw (lv_sub hl [0, 1] rfl)
        · have hq := hq.2 hc
          refine lv_iload hx hb dX8_findsBest_79 (lv_at hl 3 rfl) ?_
          refine lv_ineg hx hb dX8_findsBest_81 ?_
          refine lv_istore (lv' := [(7, .int (-r14)), (0, .ref (ad o0)), (1, .int x6), (3, .int r13), (4, .int r14), (5, .int x15), (6, .int x16)]) hx hb dX8_findsBest_82 hl (by decide) rfl (fun ls hl => ?_)
          have ex84_165 : ∀ (x38 : Int32) (x39 : Int32) (M40 : zM) (H : Heap) (locs : List Loc) (ls : Array Slot), (∀ x41 : Int32, x41 = x16 + (1 : Int32) → lpX8_findsBest_73 o0 r13 r14 (fun x18 x19 M20 => ∃ fu174 : Nat, lpX8_findsBest_174 o0 x6 Q fu174 (0 : Int32) M20) fu73 x38 x41 M40) → zH D Y ad kd RL M40 J A s.heap H locs s → lv_has ls 11 [(0, .ref (ad o0)), (1, .int x6), (3, .int r13), (4, .int r14), (5, .int x38), (6, .int x16)] → W p l e rmX8_findsBest s m ar below meth c H locs 0 0 QE (F0 m 165 ls []) := by
            intro x38 x39 M40 H locs ls hq hw hl
            obtain ⟨x41, e_x41⟩ : ∃ y : Int32, y = x16 + (1 : Int32) := ⟨_, rfl⟩
            have hq := hq x41 e_x41
            refine lv_iinc (v := x41) (lv' := [(6, .int x41), (0, .ref (ad o0)), (1, .int x6), (3, .int r13), (4, .int r14), (5, .int x38)]) hx hb dX8_findsBest_165 hl (k := 5) rfl (by rw [e_x41]; rfl) (by decide) rfl (fun ls hl => ?_)
            refine lv_goto (tgt := 73) hx hb dX8_findsBest_168 (by decide) ?_
            exact ih73 x38 x41 M40 _ _ _ hq hw (lv_sub hl [1, 2, 3, 4, 5, 0] rfl)
          obtain ⟨fu84, hq⟩ := hq
          have lp84 : ∀ (fu84 : Nat) (x35 : Int32) (x36 : Int32) (M37 : zM) (H : Heap) (locs : List Loc) (ls : Array Slot), lpX8_findsBest_84 o0 r14 x16 (fun x38 x39 M40 => ∀ x41 : Int32, x41 = x16 + (1 : Int32) → lpX8_findsBest_73 o0 r13 r14 (fun x18 x19 M20 => ∃ fu174 : Nat, lpX8_findsBest_174 o0 x6 Q fu174 (0 : Int32) M20) fu73 x38 x41 M40) fu84 x35 x36 M37 → zH D Y ad kd RL M37 J A s.heap H locs s → lv_has ls 11 [(0, .ref (ad o0)), (1, .int x6), (3, .int r13), (4, .int r14), (5, .int x35), (6, .int x16), (7, .int x36)] → W p l e rmX8_findsBest s m ar below meth c H locs 0 0 QE (F0 m 84 ls []) := by
            intro fu84
            induction fu84 with
            | zero => intro x35 x36 M37 H locs ls hq; exact hq.elim
            | succ fu84 ih84 =>
              intro x35 x36 M37 H locs ls hq hw hl
              unfold lpX8_findsBest_84 at hq
              refine lv_iload hx hb dX8_findsBest_84 (lv_at hl 6 rfl) ?_
              refine lv_iload hx hb dX8_findsBest_86 (lv_at hl 3 rfl) ?_
              refine lv_icmp_gt (tgt := 165) hx hb dX8_findsBest_88 (by decide) (fun hc => ?_) (fun hc => ?_)
              · have hq := hq.1 hc
                exact ex84_165 x35 x36 M37 _ _ _ hq hw (lv_sub hl [0, 1, 2, 3, 4, 5] rfl)
              · have hq := hq.2 hc
                refine lv_aload_n hx hb dX8_findsBest_91 rfl (lv_at hl 0 rfl) ?_
                refine zg8_least hx hb g8 hown hw h_o0 q4 dX8_findsBest_92 ?_
                refine lv_iconst (v := (0 : Int32)) hx hb dX8_findsBest_95 (by decide) ?_
                refine lv_iconst (v := (0 : Int32)) hx hb dX8_findsBest_96 (by decide) ?_
                refine lv_iload hx hb dX8_findsBest_97 (lv_at hl 5 rfl) ?_
                refine lv_iload hx hb dX8_findsBest_99 (lv_at hl 6 rfl) ?_
                refine z_csi ⟨hx, hb, hml, hown, hts⟩ hw (kX8_place  hq) (va_cwS 4 hts gX8_findsBest_X8_place rfl rfl rfl (by decide +kernel) ⟨Nat.le_of_ble_eq_true rfl, Nat.le_of_ble_eq_true rfl⟩) rfl hl.1 rfl (Nat.le_of_ble_eq_true rfl) dX8_findsBest_101 ⟨Nat.zero_le _, Nat.zero_le _⟩ (fun r42 M0 J0 H locs hq hw => ?_)
                obtain ⟨hq, rfl, rfl⟩ := hq
                obtain ⟨hi, hq⟩ := hq
                refine z_iald (n := 4116) hx hb hw (zk_8_12 hC h_o0) hi dX8_findsBest_104 ?_
                refine lv_istore (lv' := [(8, .int (M37 (o0 + 12) r42.toNatClampNeg)), (0, .ref (ad o0)), (1, .int x6), (3, .int r13), (4, .int r14), (5, .int x35), (6, .int x16), (7, .int x36)]) hx hb dX8_findsBest_105 hl (by decide) rfl (fun ls hl => ?_)
                refine lv_iload hx hb dX8_findsBest_107 (lv_at hl 5 rfl) ?_
                refine lv_if_eq (tgt := 159) hx hb dX8_findsBest_109 (by decide) (fun hc => ?_) (fun hc => ?_)
                · have hq := hq.1 hc
                  obtain ⟨x43, e_x43⟩ : ∃ y : Int32, y = x36 + (1 : Int32) := ⟨_, rfl⟩
                  have hq := hq x43 e_x43
                  refine lv_iinc (v := x43) (lv' := [(7, .int x43), (8, .int (M37 (o0 + 12) r42.toNatClampNeg)), (0, .ref (ad o0)), (1, .int x6), (3, .int r13), (4, .int r14), (5, .int x35), (6, .int x16)]) hx hb dX8_findsBest_159 hl (k := 7) rfl (by rw [e_x43]; rfl) (by decide) rfl (fun ls hl => ?_)
                  refine lv_goto (tgt := 84) hx hb dX8_findsBest_162 (by decide) ?_
                  exact ih84 x35 x43 M37 _ _ _ hq hw (lv_sub hl [2, 3, 4, 5, 6, 7, 0] rfl)
                · have hq := hq.2 hc
                  refine lv_iload hx hb dX8_findsBest_112 (lv_at hl 0 rfl) ?_
                  refine lv_ldc (v := (1000000000 : Int32)) hx hb hown q1 dX8_findsBest_114 ?_
                  refine lv_icmp_ge (tgt := 159) hx hb dX8_findsBest_116 (by decide) (fun hc => ?_) (fun hc => ?_)
                  · have hq := hq.1 hc
                    obtain ⟨x44, e_x44⟩ : ∃ y : Int32, y = x36 + (1 : Int32) := ⟨_, rfl⟩
                    have hq := hq x44 e_x44
                    refine lv_iinc (v := x44) (lv' := [(7, .int x44), (8, .int (M37 (o0 + 12) r42.toNatClampNeg)), (0, .ref (ad o0)), (1, .int x6), (3, .int r13), (4, .int r14), (5, .int x35), (6, .int x16)]) hx hb dX8_findsBest_159 hl (k := 7) rfl (by rw [e_x44]; rfl) (by decide) rfl (fun ls hl => ?_)
                    refine lv_goto (tgt := 84) hx hb dX8_findsBest_162 (by decide) ?_
                    exact ih84 x35 x44 M37 _ _ _ hq hw (lv_sub hl [2, 3, 4, 5, 6, 7, 0] rfl)
                  · have hq := hq.2 hc
                    refine lv_iload hx hb dX8_findsBest_119 (lv_at hl 0 rfl) ?_
                    refine lv_iload hx hb dX8_findsBest_121 (lv_at hl 6 rfl) ?_
                    refine z_csi ⟨hx, hb, hml, hown, hts⟩ hw (kX8_size  hq) (va_cwS 1 hts gX8_findsBest_X8_size rfl rfl rfl (by decide +kernel) ⟨Nat.le_of_ble_eq_true rfl, Nat.le_of_ble_eq_true rfl⟩) rfl hl.1 rfl (Nat.le_of_ble_eq_true rfl) dX8_findsBest_123 ⟨Nat.zero_le _, Nat.zero_le _⟩ (fun r45 M0 J0 H locs hq hw => ?_)
                    obtain ⟨hq, rfl, rfl⟩ := hq
                    refine lv_iadd hx hb dX8_findsBest_126 ?_
                    refine lv_iload hx hb dX8_findsBest_127 (lv_at hl 7 rfl) ?_
                    refine z_csi ⟨hx, hb, hml, hown, hts⟩ hw (kX8_size  hq) (va_cwS 1 hts gX8_findsBest_X8_size rfl rfl rfl (by decide +kernel) ⟨Nat.le_of_ble_eq_true rfl, Nat.le_of_ble_eq_true rfl⟩) rfl hl.1 rfl (Nat.le_of_ble_eq_true rfl) dX8_findsBest_129 ⟨Nat.zero_le _, Nat.zero_le _⟩ (fun r46 M0 J0 H locs hq hw => ?_)
                    obtain ⟨hq, rfl, rfl⟩ := hq
                    refine lv_iadd hx hb dX8_findsBest_132 ?_
                    refine lv_topi (fun x47 e_x47 => ?_)
                    have hq := hq x47 e_x47
                    refine lv_aload_n hx hb dX8_findsBest_133 rfl (lv_at hl 1 rfl) ?_
                    refine zg8_bestCost hx hb g8 hown hw h_o0 q3 dX8_findsBest_134 ?_
                    refine lv_icmp_ne (tgt := 159) hx hb dX8_findsBest_137 (by decide) (fun hc => ?_) (fun hc => ?_)
                    · have hq := hq.1 hc
                      obtain ⟨x48, e_x48⟩ : ∃ y : Int32, y = x36 + (1 : Int32) := ⟨_, rfl⟩
                      have hq := hq x48 e_x48
                      refine lv_iinc (v := x48) (lv' := [(7, .int x48), (8, .int (M37 (o0 + 12) r42.toNatClampNeg)), (0, .ref (ad o0)), (1, .int x6), (3, .int r13), (4, .int r14), (5, .int x35), (6, .int x16)]) hx hb dX8_findsBest_159 hl (k := 7) rfl (by rw [e_x48]; rfl) (by decide) rfl (fun ls hl => ?_)
                      refine lv_goto (tgt := 84) hx hb dX8_findsBest_162 (by decide) ?_
                      exact ih84 x35 x48 M37 _ _ _ hq hw (lv_sub hl [2, 3, 4, 5, 6, 7, 0] rfl)
                    · have hq := hq.2 hc
                      refine lv_aload_n hx hb dX8_findsBest_140 rfl (lv_at hl 1 rfl) ?_
                      refine zg8_bestSlews hx hb g8 hown hw h_o0 q5 dX8_findsBest_141 ?_
                      refine lv_iconst (v := (0 : Int32)) hx hb dX8_findsBest_144 (by decide) ?_
                      refine lv_iload hx hb dX8_findsBest_145 (lv_at hl 6 rfl) ?_
                      have hi : vp_in (0 : Int32) 12 := by unfold vp_in; decide
                      refine z_iast (n := 12) hx hb hw (zk_8_13 hC h_o0) hi dX8_findsBest_147 (fun H locs hw => ?_)
                      obtain ⟨M49, e_M49⟩ : ∃ y : zM, y = va_up M37 (o0 + 13) (upd (M37 (o0 + 13)) (0 : Int32).toNatClampNeg x16) := ⟨_, rfl⟩
                      rw [← e_M49] at hw
                      have hq := hq M49 e_M49
                      refine lv_aload_n hx hb dX8_findsBest_148 rfl (lv_at hl 1 rfl) ?_
                      refine zg8_bestSlews hx hb g8 hown hw h_o0 q5 dX8_findsBest_149 ?_
                      refine lv_iconst (v := (1 : Int32)) hx hb dX8_findsBest_152 (by decide) ?_
                      refine lv_iload hx hb dX8_findsBest_153 (lv_at hl 7 rfl) ?_
                      have hi : vp_in (1 : Int32) 12 := by unfold vp_in; decide
                      refine z_iast (n := 12) hx hb hw (zk_8_13 hC h_o0) hi dX8_findsBest_155 (fun H locs hw => ?_)
                      obtain ⟨M50, e_M50⟩ : ∃ y : zM, y = va_up M49 (o0 + 13) (upd (M49 (o0 + 13)) (1 : Int32).toNatClampNeg x36) := ⟨_, rfl⟩
                      rw [← e_M50] at hw
                      have hq := hq M50 e_M50
                      refine lv_iconst (v := (0 : Int32)) hx hb dX8_findsBest_156 (by decide) ?_
                      refine lv_istore (lv' := [(5, .int (0 : Int32)), (8, .int (M37 (o0 + 12) r42.toNatClampNeg)), (0, .ref (ad o0)), (1, .int x6), (3, .int r13), (4, .int r14), (6, .int x16), (7, .int x36)]) hx hb dX8_findsBest_157 hl (by decide) rfl (fun ls hl => ?_)
                      obtain ⟨x51, e_x51⟩ : ∃ y : Int32, y = x36 + (1 : Int32) := ⟨_, rfl⟩
                      have hq := hq x51 e_x51
                      refine lv_iinc (v := x51) (lv' := [(7, .int x51), (5, .int (0 : Int32)), (8, .int (M37 (o0 + 12) r42.toNatClampNeg)), (0, .ref (ad o0)), (1, .int x6), (3, .int r13), (4, .int r14), (6, .int x16)]) hx hb dX8_findsBest_159 hl (k := 7) rfl (by rw [e_x51]; rfl) (by decide) rfl (fun ls hl => ?_)
                      refine lv_goto (tgt := 84) hx hb dX8_findsBest_162 (by decide) ?_
                      exact ih84 (0 : Int32) x51 M50 _ _ _ hq hw (lv_sub hl [3, 4, 5, 6, 1, 7, 0] rfl)
          exact lp84 fu84 x15 (-r14) M17 _ _ _ hq hw (lv_sub hl [1, 2, 3, 4, 5, 6, 0] rfl)
    exact lp73 fu73 (1 : Int32) (-r13) M12 _ _ _ hq hw (lv_sub hl [4, 5, 3, 2, 1, 0] rfl)
  obtain ⟨fu6, hq⟩ := hq
  have lp6 : ∀ (fu6 : Nat) (x3 : Int32) (x4 : Int32) (M5 : zM) (H : Heap) (locs : List Loc) (ls : Array Slot), lpX8_findsBest_6 o0 (fun x6 x7 M8 => ∀ M9 : zM, M9 = va_up M8 o0 (upd (M8 o0) 9 x6) → wX8_reckons M9 o0 x6 (fun r10 M11 => ∀ M12 : zM, M12 = va_up M11 o0 (upd (M11 o0) 10 r10) → wX8_reachAt M12 o0 (0 : Int32) (fun r13 => wX8_reachAt M12 o0 (1 : Int32) (fun r14 => ∃ fu73 : Nat, lpX8_findsBest_73 o0 r13 r14 (fun x18 x19 M20 => ∃ fu174 : Nat, lpX8_findsBest_174 o0 x6 Q fu174 (0 : Int32) M20) fu73 (1 : Int32) (-r13) M12)))) fu6 x3 x4 M5 → zH D Y ad kd RL M5 J A s.heap H locs s → lv_has ls 11 [(0, .ref (ad o0)), (1, .int x3), (2, .int x4)] → W p l e rmX8_findsBest s m ar below meth c H locs 0 0 QE (F0 m 6 ls []) := by
    intro fu6
    induction fu6 with
    | zero => intro x3 x4 M5 H locs ls hq; exact hq.elim
    | succ fu6 ih6 =>
      intro x3 x4 M5 H locs ls hq hw hl
      unfold lpX8_findsBest_6 at hq
      refine lv_iload_n hx hb dX8_findsBest_6 rfl (lv_at hl 1 rfl) ?_
      refine lv_iload_n hx hb dX8_findsBest_7 rfl (lv_at hl 2 rfl) ?_
      refine lv_icmp_ge (tgt := 39) hx hb dX8_findsBest_8 (by decide) (fun hc => ?_) (fun hc => ?_)
      · have hq := hq.1 hc
        exact ex6_39 x3 x4 M5 _ _ _ hq hw (lv_sub hl [0, 1] rfl)
      · have hq := hq.2 hc
        refine lv_iload_n hx hb dX8_findsBest_11 rfl (lv_at hl 1 rfl) ?_
        refine lv_iload_n hx hb dX8_findsBest_12 rfl (lv_at hl 2 rfl) ?_
        refine lv_iadd hx hb dX8_findsBest_13 ?_
        refine lv_iconst (v := (2 : Int32)) hx hb dX8_findsBest_14 (by decide) ?_
        refine lv_idiv hx hb dX8_findsBest_15 (by decide) ?_
        refine lv_istore_n (lv' := [(3, .int ((x3 + x4) / (2 : Int32))), (0, .ref (ad o0)), (1, .int x3), (2, .int x4)]) hx hb dX8_findsBest_16 rfl hl (by decide) rfl (fun ls hl => ?_)
        refine lv_aload_n hx hb dX8_findsBest_17 rfl (lv_at hl 1 rfl) ?_
        refine lv_iload_n hx hb dX8_findsBest_18 rfl (lv_at hl 0 rfl) ?_
        refine z_cvi ⟨hx, hb, hml, hown, hts⟩ hw h_o0 (kX8_reckons h_o0 hq) (by decide) rfl (cwV 1 hts gX8_findsBest_X8_reckons rfl rfl rfl (by decide +kernel) ⟨Nat.le_of_ble_eq_true rfl, Nat.le_of_ble_eq_true rfl⟩) rfl hl.1 rfl (Nat.le_of_ble_eq_true rfl) dX8_findsBest_19 ⟨Nat.zero_le _, Nat.zero_le _⟩ (fun r52 M53 J0 H locs hq hw => ?_)
        obtain ⟨hq, rfl⟩ := hq
        refine lv_ldc (v := (1000000000 : Int32)) hx hb hown q1 dX8_findsBest_22 ?_
        refine lv_icmp_ge (tgt := 32) hx hb dX8_findsBest_24 (by decide) (fun hc => ?_) (fun hc => ?_)
        · have hq := hq.1 hc
          refine lv_iload_n hx hb dX8_findsBest_32 rfl (lv_at hl 0 rfl) ?_
          refine lv_iconst (v := (1 : Int32)) hx hb dX8_findsBest_33 (by decide) ?_
          refine lv_iadd hx hb dX8_findsBest_34 ?_
          refine lv_istore_n (lv' := [(1, .int (((x3 + x4) / (2 : Int32)) + (1 : Int32))), (3, .int ((x3 + x4) / (2 : Int32))), (0, .ref (ad o0)), (2, .int x4)]) hx hb dX8_findsBest_35 rfl hl (by decide) rfl (fun ls hl => ?_)
          refine lv_goto (tgt := 6) hx hb dX8_findsBest_36 (by decide) ?_
          exact ih6 (((x3 + x4) / (2 : Int32)) + (1 : Int32)) x4 M53 _ _ _ hq hw (lv_sub hl [2, 0, 3] rfl)
        · have hq := hq.2 hc
          refine lv_iload_n hx hb dX8_findsBest_27 rfl (lv_at hl 0 rfl) ?_
          refine lv_istore_n (lv' := [(2, .int ((x3 + x4) / (2 : Int32))), (3, .int ((x3 + x4) / (2 : Int32))), (0, .ref (ad o0)), (1, .int x3)]) hx hb dX8_findsBest_28 rfl hl (by decide) rfl (fun ls hl => ?_)
          refine lv_goto (tgt := 36) hx hb dX8_findsBest_29 (by decide) ?_
          refine lv_goto (tgt := 6) hx hb dX8_findsBest_36 (by decide) ?_
          exact ih6 x3 ((x3 + x4) / (2 : Int32)) M53 _ _ _ hq hw (lv_sub hl [2, 3, 0] rfl)
  exact lp6 fu6 (0 : Int32) (4100 : Int32) M _ _ _ hq hw (lv_sub hl [2, 1, 0] rfl)
set_option maxRecDepth 20000 in
theorem ggX8_best_X8_isRail : GoodIn wsX8_best wsX8_isRail := goodIn_r _ [11, 2, 49, 50, 51, 52, 53, 54, 55, 56, 57, 58, 59, 60, 61, 62, 63, 64, 65, 66, 67, 68, 69, 70, 71, 72, 73, 74] (by decide +kernel) (by decide +kernel)
set_option maxRecDepth 20000 in
theorem gX8_best_X8_isRail : GoodIn wsX8_best (wsV RX8 173 RX8 yX8_isRail wsX8_isRail) := goodIn_app (goodIn_of _ (by decide +kernel)) ggX8_best_X8_isRail
set_option maxRecDepth 20000 in
theorem ggX8_best_X8_in : GoodIn wsX8_best wsX8_in := goodIn_r _ [14] (by decide +kernel) (by decide +kernel)
set_option maxRecDepth 20000 in
theorem gX8_best_X8_in : GoodIn wsX8_best (va_wsS RX8 59 yX8_in wsX8_in) := goodIn_app (goodIn_of _ (by decide +kernel)) ggX8_best_X8_in
set_option maxRecDepth 20000 in
theorem ggX8_best_X8_findsBest : GoodIn wsX8_best wsX8_findsBest := goodIn_r _ [18, 19, 5, 6, 20, 4, 2, 21, 22, 23, 10, 24, 25, 26, 27, 28, 12, 13, 14, 29, 30, 31, 32, 33, 34, 35, 36, 37, 38, 39, 40, 41, 42, 43, 44, 45, 46, 47, 48, 49, 50, 51, 52, 53, 54, 55, 56, 57, 58, 59, 60, 61, 62, 63, 64, 65, 66, 67, 68, 69, 70, 71, 72, 73, 74] (by decide +kernel) (by decide +kernel)
set_option maxRecDepth 20000 in
theorem gX8_best_X8_findsBest : GoodIn wsX8_best (wsV RX8 227 RX8 yX8_findsBest wsX8_findsBest) := goodIn_app (goodIn_of _ (by decide +kernel)) ggX8_best_X8_findsBest
theorem dX8_best_0 : decode cX8_best 0 = .ok (.aload_n 0, 1) := by decide +kernel
theorem dX8_best_1 : decode cX8_best 1 = .ok (.invokevirtual 173, 3) := by decide +kernel
theorem dX8_best_4 : decode cX8_best 4 = .ok (.ifCond .ne 6, 3) := by decide +kernel
theorem dX8_best_7 : decode cX8_best 7 = .ok (.ldc 169, 2) := by decide +kernel
theorem dX8_best_9 : decode cX8_best 9 = .ok (.ireturn, 1) := by decide +kernel
theorem dX8_best_10 : decode cX8_best 10 = .ok (.iload_n 1, 1) := by decide +kernel
theorem dX8_best_11 : decode cX8_best 11 = .ok (.bipush 10, 2) := by decide +kernel
theorem dX8_best_13 : decode cX8_best 13 = .ok (.bipush 9, 2) := by decide +kernel
theorem dX8_best_15 : decode cX8_best 15 = .ok (.aload_n 0, 1) := by decide +kernel
theorem dX8_best_16 : decode cX8_best 16 = .ok (.getfield 25, 3) := by decide +kernel
theorem dX8_best_19 : decode cX8_best 19 = .ok (.iconst 0, 1) := by decide +kernel
theorem dX8_best_20 : decode cX8_best 20 = .ok (.iaload, 1) := by decide +kernel
theorem dX8_best_21 : decode cX8_best 21 = .ok (.iadd, 1) := by decide +kernel
theorem dX8_best_22 : decode cX8_best 22 = .ok (.invokestatic 59, 3) := by decide +kernel
theorem dX8_best_25 : decode cX8_best 25 = .ok (.istore_n 2, 1) := by decide +kernel
theorem dX8_best_26 : decode cX8_best 26 = .ok (.iload_n 2, 1) := by decide +kernel
theorem dX8_best_27 : decode cX8_best 27 = .ok (.ifCond .ne 15, 3) := by decide +kernel
theorem dX8_best_30 : decode cX8_best 30 = .ok (.iload_n 1, 1) := by decide +kernel
theorem dX8_best_31 : decode cX8_best 31 = .ok (.iconst 0, 1) := by decide +kernel
theorem dX8_best_32 : decode cX8_best 32 = .ok (.iconst 2, 1) := by decide +kernel
theorem dX8_best_33 : decode cX8_best 33 = .ok (.invokestatic 59, 3) := by decide +kernel
theorem dX8_best_36 : decode cX8_best 36 = .ok (.ifCond .ne 6, 3) := by decide +kernel
theorem dX8_best_39 : decode cX8_best 39 = .ok (.ldc 67, 2) := by decide +kernel
theorem dX8_best_41 : decode cX8_best 41 = .ok (.ireturn, 1) := by decide +kernel
theorem dX8_best_42 : decode cX8_best 42 = .ok (.aload_n 0, 1) := by decide +kernel
theorem dX8_best_43 : decode cX8_best 43 = .ok (.invokevirtual 227, 3) := by decide +kernel
theorem dX8_best_46 : decode cX8_best 46 = .ok (.iload_n 2, 1) := by decide +kernel
theorem dX8_best_47 : decode cX8_best 47 = .ok (.ifCond .eq 15, 3) := by decide +kernel
theorem dX8_best_50 : decode cX8_best 50 = .ok (.aload_n 0, 1) := by decide +kernel
theorem dX8_best_51 : decode cX8_best 51 = .ok (.getfield 47, 3) := by decide +kernel
theorem dX8_best_54 : decode cX8_best 54 = .ok (.iload_n 1, 1) := by decide +kernel
theorem dX8_best_55 : decode cX8_best 55 = .ok (.bipush 10, 2) := by decide +kernel
theorem dX8_best_57 : decode cX8_best 57 = .ok (.isub, 1) := by decide +kernel
theorem dX8_best_58 : decode cX8_best 58 = .ok (.iaload, 1) := by decide +kernel
theorem dX8_best_59 : decode cX8_best 59 = .ok (.goto 38, 3) := by decide +kernel
theorem dX8_best_62 : decode cX8_best 62 = .ok (.iload_n 1, 1) := by decide +kernel
theorem dX8_best_63 : decode cX8_best 63 = .ok (.ifCond .ne 10, 3) := by decide +kernel
theorem dX8_best_66 : decode cX8_best 66 = .ok (.aload_n 0, 1) := by decide +kernel
theorem dX8_best_67 : decode cX8_best 67 = .ok (.getfield 221, 3) := by decide +kernel
theorem dX8_best_70 : decode cX8_best 70 = .ok (.goto 27, 3) := by decide +kernel
theorem dX8_best_73 : decode cX8_best 73 = .ok (.iload_n 1, 1) := by decide +kernel
theorem dX8_best_74 : decode cX8_best 74 = .ok (.iconst 1, 1) := by decide +kernel
theorem dX8_best_75 : decode cX8_best 75 = .ok (.if_icmp .ne 14, 3) := by decide +kernel
theorem dX8_best_78 : decode cX8_best 78 = .ok (.aload_n 0, 1) := by decide +kernel
theorem dX8_best_79 : decode cX8_best 79 = .ok (.getfield 224, 3) := by decide +kernel
theorem dX8_best_82 : decode cX8_best 82 = .ok (.sipush 1000, 3) := by decide +kernel
theorem dX8_best_85 : decode cX8_best 85 = .ok (.idiv, 1) := by decide +kernel
theorem dX8_best_86 : decode cX8_best 86 = .ok (.goto 11, 3) := by decide +kernel
theorem dX8_best_89 : decode cX8_best 89 = .ok (.aload_n 0, 1) := by decide +kernel
theorem dX8_best_90 : decode cX8_best 90 = .ok (.getfield 224, 3) := by decide +kernel
theorem dX8_best_93 : decode cX8_best 93 = .ok (.sipush 1000, 3) := by decide +kernel
theorem dX8_best_96 : decode cX8_best 96 = .ok (.irem, 1) := by decide +kernel
theorem dX8_best_97 : decode cX8_best 97 = .ok (.ireturn, 1) := by decide +kernel
def rmX8_best : Room := { frames := 5, cells := 0, slots := 0, locals := 139 }
def jnX8_best_42 (M : zM) (o0 : Nat) (x1 : Int32) (r6 : Int32) (Q : Int32 → zM → Prop)  : Prop :=
    wX8_findsBest M o0 (fun M8 =>
    ((r6 = 0) → (
    ((¬ x1 = 0) → (
    ((¬ x1 = (1 : Int32)) → (
    ∀ x9 : Int32, x9 = ((M8 o0 10) - (M8 o0 10) / (1000 : Int32) * (1000 : Int32)) →
    Q x9 M8)) ∧
    ((x1 = (1 : Int32)) → (
    Q ((M8 o0 10) / (1000 : Int32)) M8)))) ∧
    ((x1 = 0) → (
    Q (M8 o0 9) M8)))) ∧
    ((¬ r6 = 0) → (
    vp_in (x1 - (10 : Int32)) 12 ∧
    ∀ x10 : Int32, x10 = (M8 (o0 + 13) (x1 - (10 : Int32)).toNatClampNeg) →
    Q x10 M8)))
def wX8_best (M : zM) (o0 : Nat) (x1 : Int32) (Q : Int32 → zM → Prop) : Prop :=
    wX8_isRail M o0 (fun r4 =>
    ((¬ r4 = 0) → (
    ∀ x5 : Int32, x5 = ((9 : Int32) + (M (o0 + 6) (0 : Int32).toNatClampNeg)) →
    wX8_in M x1 (10 : Int32) x5 (fun r6 =>
    ((¬ r6 = 0) → (
    jnX8_best_42 M o0 x1 r6 Q )) ∧
    ((r6 = 0) → (
    wX8_in M x1 (0 : Int32) (2 : Int32) (fun r11 =>
    ((¬ r11 = 0) → (
    jnX8_best_42 M o0 x1 r6 Q )) ∧
    ((r11 = 0) → (
    Q (-1000001 : Int32) M)))))))) ∧
    ((r4 = 0) → (
    Q (-1000002 : Int32) M)))
set_option maxHeartbeats 4000000 in
set_option maxRecDepth 100000 in
theorem kX8_best {l : Launch} {D : va_G} {Y : zY} {ad kd : Nat → Nat} {RL : List Nat} {M : zM} {J : zL} {o0 : Nat} {x1 : Int32} (h_o0 : kd o0 = 8) {Q : Int32 → zM → Prop} (hq : wX8_best M o0 x1 Q) : zCi l yX8_best wsX8_best rmX8_best [.ref (ad o0), .int x1] D Y ad kd RL M J (fun r M' J' => Q r M' ∧ J = J') := by
  refine z_meti (cc := cX8_best) (maxL := 3) (ret := (some .int)) (by decide) rfl (Nat.le_of_ble_eq_true rfl) ?_
  intro p e s m below meth c ls A ar QE hQE hx hb hr hml hown hts hlk hw hl
  have hown : s.vm.findClass RX8 = some m.cls := hown
  have hl : lv_has ls 3 [(0, .ref (ad o0)), (1, .int x1)] := hl
  have hC := hw.2.2.2.2.2.1
  have g8 : ∀ w ∈ wsX80, w.before ar s = true := (fun w h => hts w (List.mem_cons_of_mem _ (List.mem_append_right _ h)))
  have q1 := hts _ (List.mem_of_getElem? (i := 1) rfl)
  have q2 := hts _ (List.mem_of_getElem? (i := 2) rfl)
  have q3 := hts _ (List.mem_of_getElem? (i := 3) rfl)
  have q4 := hts _ (List.mem_of_getElem? (i := 4) rfl)
  have q5 := hts _ (List.mem_of_getElem? (i := 5) rfl)
  have q6 := hts _ (List.mem_of_getElem? (i := 6) rfl)
  unfold wX8_best at hq
  refine lv_aload_n hx hb dX8_best_0 rfl (lv_at hl 0 rfl) ?_
  refine z_cvi ⟨hx, hb, hml, hown, hts⟩ hw h_o0 (kX8_isRail h_o0 hq) (by decide) rfl (cwV 0 hts gX8_best_X8_isRail rfl rfl rfl (by decide +kernel) ⟨Nat.le_of_ble_eq_true rfl, Nat.le_of_ble_eq_true rfl⟩) rfl hl.1 rfl (Nat.le_of_ble_eq_true rfl) dX8_best_1 ⟨Nat.zero_le _, Nat.zero_le _⟩ (fun r4 M0 J0 H locs hq hw => ?_)
  obtain ⟨hq, rfl, rfl⟩ := hq
  refine lv_if_ne (tgt := 10) hx hb dX8_best_4 (by decide) (fun hc => ?_) (fun hc => ?_)
  · have hq := hq.1 hc
    refine lv_iload_n hx hb dX8_best_10 rfl (lv_at hl 1 rfl) ?_
    refine lv_bipush (v := (10 : Int32)) hx hb dX8_best_11 (by decide) ?_
    refine lv_bipush (v := (9 : Int32)) hx hb dX8_best_13 (by decide) ?_
    refine lv_aload_n hx hb dX8_best_15 rfl (lv_at hl 0 rfl) ?_
    refine zg8_now hx hb g8 hown hw h_o0 q2 dX8_best_16 ?_
    refine lv_iconst (v := (0 : Int32)) hx hb dX8_best_19 (by decide) ?_
    have hi : vp_in (0 : Int32) 50 := by unfold vp_in; decide
    refine z_iald (n := 50) hx hb hw (zk_8_6 hC h_o0) hi dX8_best_20 ?_
    refine lv_iadd hx hb dX8_best_21 ?_
    refine lv_topi (fun x5 e_x5 => ?_)
    have hq := hq x5 e_x5
    refine z_csi ⟨hx, hb, hml, hown, hts⟩ hw (kX8_in  hq) (va_cwS 3 hts gX8_best_X8_in rfl rfl rfl (by decide +kernel) ⟨Nat.le_of_ble_eq_true rfl, Nat.le_of_ble_eq_true rfl⟩) rfl hl.1 rfl (Nat.le_of_ble_eq_true rfl) dX8_best_22 ⟨Nat.zero_le _, Nat.zero_le _⟩ (fun r6 M0 J0 H locs hq hw => ?_)
    obtain ⟨hq, rfl, rfl⟩ := hq
    refine lv_istore_n (lv' := [(2, .int r6), (0, .ref (ad o0)), (1, .int x1)]) hx hb dX8_best_25 rfl hl (by decide) rfl (fun ls hl => ?_)
    refine lv_iload_n hx hb dX8_best_26 rfl (lv_at hl 0 rfl) ?_
    have jn42 : ∀ (H : Heap) (locs : List Loc) (ls : Array Slot), jnX8_best_42 M o0 x1 r6 Q  → zH D Y ad kd RL M J A s.heap H locs s → lv_has ls 3 [(0, .ref (ad o0)), (1, .int x1), (2, .int r6)] → W p l e rmX8_best s m ar below meth c H locs 0 0 QE (F0 m 42 ls []) := by
      intro  H locs ls hq hw hl
      unfold jnX8_best_42 at hq
      refine lv_aload_n hx hb dX8_best_42 rfl (lv_at hl 0 rfl) ?_
      refine z_cvv ⟨hx, hb, hml, hown, hts⟩ hw h_o0 (kX8_findsBest h_o0 hq) (by decide) rfl (cwV 0 hts gX8_best_X8_findsBest rfl rfl rfl (by decide +kernel) ⟨Nat.le_of_ble_eq_true rfl, Nat.le_of_ble_eq_true rfl⟩) rfl hl.1 rfl (Nat.le_of_ble_eq_true rfl) dX8_best_43 ⟨Nat.zero_le _, Nat.zero_le _⟩ (fun M8 J0 H locs hq hw => ?_)
      obtain ⟨hq, rfl⟩ := hq
      refine lv_iload_n hx hb dX8_best_46 rfl (lv_at hl 2 rfl) ?_
      refine lv_if_eq (tgt := 62) hx hb dX8_best_47 (by decide) (fun hc => ?_) (fun hc => ?_)
      · have hq := hq.1 hc
        refine lv_iload_n hx hb dX8_best_62 rfl (lv_at hl 1 rfl) ?_
        refine lv_if_ne (tgt := 73) hx hb dX8_best_63 (by decide) (fun hc => ?_) (fun hc => ?_)
        · have hq := hq.1 hc
          refine lv_iload_n hx hb dX8_best_73 rfl (lv_at hl 1 rfl) ?_
          refine lv_iconst (v := (1 : Int32)) hx hb dX8_best_74 (by decide) ?_
          refine lv_icmp_ne (tgt := 89) hx hb dX8_best_75 (by decide) (fun hc => ?_) (fun hc => ?_)
          · have hq := hq.1 hc
            refine lv_aload_n hx hb dX8_best_89 rfl (lv_at hl 0 rfl) ?_
            refine zg8_bestCost hx hb g8 hown hw h_o0 q6 dX8_best_90 ?_
            refine lv_sipush (v := (1000 : Int32)) hx hb dX8_best_93 (by decide) ?_
            refine lv_irem hx hb dX8_best_96 (by decide) ?_
            refine lv_topi (fun x9 e_x9 => ?_)
            have hq := hq x9 e_x9
            exact z_iret hQE hx hb hr hlk hw dX8_best_97 ⟨hq, rfl⟩
          · have hq := hq.2 hc
            refine lv_aload_n hx hb dX8_best_78 rfl (lv_at hl 0 rfl) ?_
            refine zg8_bestCost hx hb g8 hown hw h_o0 q6 dX8_best_79 ?_
            refine lv_sipush (v := (1000 : Int32)) hx hb dX8_best_82 (by decide) ?_
            refine lv_idiv hx hb dX8_best_85 (by decide) ?_
            refine lv_goto (tgt := 97) hx hb dX8_best_86 (by decide) ?_
            exact z_iret hQE hx hb hr hlk hw dX8_best_97 ⟨hq, rfl⟩
        · have hq := hq.2 hc
          refine lv_aload_n hx hb dX8_best_66 rfl (lv_at hl 0 rfl) ?_
          refine zg8_bestWorst hx hb g8 hown hw h_o0 q5 dX8_best_67 ?_
          refine lv_goto (tgt := 97) hx hb dX8_best_70 (by decide) ?_
          exact z_iret hQE hx hb hr hlk hw dX8_best_97 ⟨hq, rfl⟩
      · have hq := hq.2 hc
        refine lv_aload_n hx hb dX8_best_50 rfl (lv_at hl 0 rfl) ?_
        refine zg8_bestSlews hx hb g8 hown hw h_o0 q4 dX8_best_51 ?_
        refine lv_iload_n hx hb dX8_best_54 rfl (lv_at hl 1 rfl) ?_
        refine lv_bipush (v := (10 : Int32)) hx hb dX8_best_55 (by decide) ?_
        refine lv_isub hx hb dX8_best_57 ?_
        obtain ⟨hi, hq⟩ := hq
        refine z_iald (n := 12) hx hb hw (zk_8_13 hC h_o0) hi dX8_best_58 ?_
        refine lv_topi (fun x10 e_x10 => ?_)
        have hq := hq x10 e_x10
        refine lv_goto (tgt := 97) hx hb dX8_best_59 (by decide) ?_
        exact z_iret hQE hx hb hr hlk hw dX8_best_97 ⟨hq, rfl⟩
    refine lv_if_ne (tgt := 42) hx hb dX8_best_27 (by decide) (fun hc => ?_) (fun hc => ?_)
    · have hq := hq.1 hc
      exact jn42  _ _ _ hq hw (lv_sub hl [1, 2, 0] rfl)
    · have hq := hq.2 hc
      refine lv_iload_n hx hb dX8_best_30 rfl (lv_at hl 2 rfl) ?_
      refine lv_iconst (v := (0 : Int32)) hx hb dX8_best_31 (by decide) ?_
      refine lv_iconst (v := (2 : Int32)) hx hb dX8_best_32 (by decide) ?_
      refine z_csi ⟨hx, hb, hml, hown, hts⟩ hw (kX8_in  hq) (va_cwS 3 hts gX8_best_X8_in rfl rfl rfl (by decide +kernel) ⟨Nat.le_of_ble_eq_true rfl, Nat.le_of_ble_eq_true rfl⟩) rfl hl.1 rfl (Nat.le_of_ble_eq_true rfl) dX8_best_33 ⟨Nat.zero_le _, Nat.zero_le _⟩ (fun r11 M0 J0 H locs hq hw => ?_)
      obtain ⟨hq, rfl, rfl⟩ := hq
      refine lv_if_ne (tgt := 42) hx hb dX8_best_36 (by decide) (fun hc => ?_) (fun hc => ?_)
      · have hq := hq.1 hc
        exact jn42  _ _ _ hq hw (lv_sub hl [1, 2, 0] rfl)
      · have hq := hq.2 hc
        refine lv_ldc (v := (-1000001 : Int32)) hx hb hown q3 dX8_best_39 ?_
        exact z_iret hQE hx hb hr hlk hw dX8_best_41 ⟨hq, rfl⟩
  · have hq := hq.2 hc
    refine lv_ldc (v := (-1000002 : Int32)) hx hb hown q1 dX8_best_7 ?_
    exact z_iret hQE hx hb hr hlk hw dX8_best_9 ⟨hq, rfl⟩
set_option maxRecDepth 20000 in
theorem ggX8_wrong_X8_isRail : GoodIn wsX8_wrong wsX8_isRail := goodIn_r _ [10, 3, 35, 36, 37, 38, 39, 40, 41, 42, 43, 44, 45, 46, 47, 48, 49, 50, 51, 52, 53, 54, 55, 56, 57, 58, 59, 60] (by decide +kernel) (by decide +kernel)
set_option maxRecDepth 20000 in
theorem gX8_wrong_X8_isRail : GoodIn wsX8_wrong (wsV RX8 173 RX8 yX8_isRail wsX8_isRail) := goodIn_app (goodIn_of _ (by decide +kernel)) ggX8_wrong_X8_isRail
set_option maxRecDepth 20000 in
theorem ggX8_wrong_X8_in : GoodIn wsX8_wrong wsX8_in := goodIn_r _ [13] (by decide +kernel) (by decide +kernel)
set_option maxRecDepth 20000 in
theorem gX8_wrong_X8_in : GoodIn wsX8_wrong (va_wsS RX8 59 yX8_in wsX8_in) := goodIn_app (goodIn_of _ (by decide +kernel)) ggX8_wrong_X8_in
set_option maxRecDepth 20000 in
theorem ggX8_wrong_X8_copies : GoodIn wsX8_wrong wsX8_copies := goodIn_r _ [16] (by decide +kernel) (by decide +kernel)
set_option maxRecDepth 20000 in
theorem gX8_wrong_X8_copies : GoodIn wsX8_wrong (va_wsS RX8 135 yX8_copies wsX8_copies) := goodIn_app (goodIn_of _ (by decide +kernel)) ggX8_wrong_X8_copies
set_option maxRecDepth 20000 in
theorem ggX8_wrong_X8_uneven : GoodIn wsX8_wrong wsX8_uneven := goodIn_r _ [19, 20, 21, 9, 22, 23, 24, 25, 26, 27, 28, 29, 30, 31, 11, 12, 13, 32, 33, 34] (by decide +kernel) (by decide +kernel)
set_option maxRecDepth 20000 in
theorem gX8_wrong_X8_uneven : GoodIn wsX8_wrong (va_wsS RX8 197 yX8_uneven wsX8_uneven) := goodIn_app (goodIn_of _ (by decide +kernel)) ggX8_wrong_X8_uneven
theorem dX8_wrong_0 : decode cX8_wrong 0 = .ok (.aload_n 0, 1) := by decide +kernel
theorem dX8_wrong_1 : decode cX8_wrong 1 = .ok (.invokevirtual 173, 3) := by decide +kernel
theorem dX8_wrong_4 : decode cX8_wrong 4 = .ok (.ifCond .ne 6, 3) := by decide +kernel
theorem dX8_wrong_7 : decode cX8_wrong 7 = .ok (.ldc 169, 2) := by decide +kernel
theorem dX8_wrong_9 : decode cX8_wrong 9 = .ok (.ireturn, 1) := by decide +kernel
theorem dX8_wrong_10 : decode cX8_wrong 10 = .ok (.iload_n 1, 1) := by decide +kernel
theorem dX8_wrong_11 : decode cX8_wrong 11 = .ok (.iconst 0, 1) := by decide +kernel
theorem dX8_wrong_12 : decode cX8_wrong 12 = .ok (.iconst 1, 1) := by decide +kernel
theorem dX8_wrong_13 : decode cX8_wrong 13 = .ok (.invokestatic 59, 3) := by decide +kernel
theorem dX8_wrong_16 : decode cX8_wrong 16 = .ok (.ifCond .ne 6, 3) := by decide +kernel
theorem dX8_wrong_19 : decode cX8_wrong 19 = .ok (.ldc 67, 2) := by decide +kernel
theorem dX8_wrong_21 : decode cX8_wrong 21 = .ok (.ireturn, 1) := by decide +kernel
theorem dX8_wrong_22 : decode cX8_wrong 22 = .ok (.aload_n 0, 1) := by decide +kernel
theorem dX8_wrong_23 : decode cX8_wrong 23 = .ok (.getfield 25, 3) := by decide +kernel
theorem dX8_wrong_26 : decode cX8_wrong 26 = .ok (.iconst 0, 1) := by decide +kernel
theorem dX8_wrong_27 : decode cX8_wrong 27 = .ok (.aload_n 0, 1) := by decide +kernel
theorem dX8_wrong_28 : decode cX8_wrong 28 = .ok (.getfield 31, 3) := by decide +kernel
theorem dX8_wrong_31 : decode cX8_wrong 31 = .ok (.iconst 0, 1) := by decide +kernel
theorem dX8_wrong_32 : decode cX8_wrong 32 = .ok (.invokestatic 135, 3) := by decide +kernel
theorem dX8_wrong_35 : decode cX8_wrong 35 = .ok (.iconst 0, 1) := by decide +kernel
theorem dX8_wrong_36 : decode cX8_wrong 36 = .ok (.istore_n 2, 1) := by decide +kernel
theorem dX8_wrong_37 : decode cX8_wrong 37 = .ok (.iload_n 2, 1) := by decide +kernel
theorem dX8_wrong_38 : decode cX8_wrong 38 = .ok (.aload_n 0, 1) := by decide +kernel
theorem dX8_wrong_39 : decode cX8_wrong 39 = .ok (.getfield 25, 3) := by decide +kernel
theorem dX8_wrong_42 : decode cX8_wrong 42 = .ok (.iconst 0, 1) := by decide +kernel
theorem dX8_wrong_43 : decode cX8_wrong 43 = .ok (.iaload, 1) := by decide +kernel
theorem dX8_wrong_44 : decode cX8_wrong 44 = .ok (.if_icmp .ge 22, 3) := by decide +kernel
theorem dX8_wrong_47 : decode cX8_wrong 47 = .ok (.aload_n 0, 1) := by decide +kernel
theorem dX8_wrong_48 : decode cX8_wrong 48 = .ok (.getfield 31, 3) := by decide +kernel
theorem dX8_wrong_51 : decode cX8_wrong 51 = .ok (.iconst 2, 1) := by decide +kernel
theorem dX8_wrong_52 : decode cX8_wrong 52 = .ok (.iconst 4, 1) := by decide +kernel
theorem dX8_wrong_53 : decode cX8_wrong 53 = .ok (.iload_n 2, 1) := by decide +kernel
theorem dX8_wrong_54 : decode cX8_wrong 54 = .ok (.imul, 1) := by decide +kernel
theorem dX8_wrong_55 : decode cX8_wrong 55 = .ok (.iadd, 1) := by decide +kernel
theorem dX8_wrong_56 : decode cX8_wrong 56 = .ok (.iconst 3, 1) := by decide +kernel
theorem dX8_wrong_57 : decode cX8_wrong 57 = .ok (.iadd, 1) := by decide +kernel
theorem dX8_wrong_58 : decode cX8_wrong 58 = .ok (.iconst 0, 1) := by decide +kernel
theorem dX8_wrong_59 : decode cX8_wrong 59 = .ok (.iastore, 1) := by decide +kernel
theorem dX8_wrong_60 : decode cX8_wrong 60 = .ok (.iinc 2 1, 3) := by decide +kernel
theorem dX8_wrong_63 : decode cX8_wrong 63 = .ok (.goto (-26), 3) := by decide +kernel
theorem dX8_wrong_66 : decode cX8_wrong 66 = .ok (.aload_n 0, 1) := by decide +kernel
theorem dX8_wrong_67 : decode cX8_wrong 67 = .ok (.getfield 31, 3) := by decide +kernel
theorem dX8_wrong_70 : decode cX8_wrong 70 = .ok (.invokestatic 197, 3) := by decide +kernel
theorem dX8_wrong_73 : decode cX8_wrong 73 = .ok (.istore_n 2, 1) := by decide +kernel
theorem dX8_wrong_74 : decode cX8_wrong 74 = .ok (.ldc 53, 2) := by decide +kernel
theorem dX8_wrong_76 : decode cX8_wrong 76 = .ok (.istore_n 3, 1) := by decide +kernel
theorem dX8_wrong_77 : decode cX8_wrong 77 = .ok (.ldc 53, 2) := by decide +kernel
theorem dX8_wrong_79 : decode cX8_wrong 79 = .ok (.istore 4, 2) := by decide +kernel
theorem dX8_wrong_81 : decode cX8_wrong 81 = .ok (.iconst 0, 1) := by decide +kernel
theorem dX8_wrong_82 : decode cX8_wrong 82 = .ok (.istore 5, 2) := by decide +kernel
theorem dX8_wrong_84 : decode cX8_wrong 84 = .ok (.iload 5, 2) := by decide +kernel
theorem dX8_wrong_86 : decode cX8_wrong 86 = .ok (.aload_n 0, 1) := by decide +kernel
theorem dX8_wrong_87 : decode cX8_wrong 87 = .ok (.getfield 25, 3) := by decide +kernel
theorem dX8_wrong_90 : decode cX8_wrong 90 = .ok (.iconst 0, 1) := by decide +kernel
theorem dX8_wrong_91 : decode cX8_wrong 91 = .ok (.iaload, 1) := by decide +kernel
theorem dX8_wrong_92 : decode cX8_wrong 92 = .ok (.if_icmp .ge 83, 3) := by decide +kernel
theorem dX8_wrong_95 : decode cX8_wrong 95 = .ok (.iconst 2, 1) := by decide +kernel
theorem dX8_wrong_96 : decode cX8_wrong 96 = .ok (.iconst 4, 1) := by decide +kernel
theorem dX8_wrong_97 : decode cX8_wrong 97 = .ok (.iload 5, 2) := by decide +kernel
theorem dX8_wrong_99 : decode cX8_wrong 99 = .ok (.imul, 1) := by decide +kernel
theorem dX8_wrong_100 : decode cX8_wrong 100 = .ok (.iadd, 1) := by decide +kernel
theorem dX8_wrong_101 : decode cX8_wrong 101 = .ok (.iconst 1, 1) := by decide +kernel
theorem dX8_wrong_102 : decode cX8_wrong 102 = .ok (.iadd, 1) := by decide +kernel
theorem dX8_wrong_103 : decode cX8_wrong 103 = .ok (.istore 6, 2) := by decide +kernel
theorem dX8_wrong_105 : decode cX8_wrong 105 = .ok (.iconst 0, 1) := by decide +kernel
theorem dX8_wrong_106 : decode cX8_wrong 106 = .ok (.istore 7, 2) := by decide +kernel
theorem dX8_wrong_108 : decode cX8_wrong 108 = .ok (.iload 7, 2) := by decide +kernel
theorem dX8_wrong_110 : decode cX8_wrong 110 = .ok (.bipush 61, 2) := by decide +kernel
theorem dX8_wrong_112 : decode cX8_wrong 112 = .ok (.if_icmp .ge 43, 3) := by decide +kernel
theorem dX8_wrong_115 : decode cX8_wrong 115 = .ok (.aload_n 0, 1) := by decide +kernel
theorem dX8_wrong_116 : decode cX8_wrong 116 = .ok (.getfield 31, 3) := by decide +kernel
theorem dX8_wrong_119 : decode cX8_wrong 119 = .ok (.iload 6, 2) := by decide +kernel
theorem dX8_wrong_121 : decode cX8_wrong 121 = .ok (.iload 7, 2) := by decide +kernel
theorem dX8_wrong_123 : decode cX8_wrong 123 = .ok (.iastore, 1) := by decide +kernel
theorem dX8_wrong_124 : decode cX8_wrong 124 = .ok (.aload_n 0, 1) := by decide +kernel
theorem dX8_wrong_125 : decode cX8_wrong 125 = .ok (.getfield 31, 3) := by decide +kernel
theorem dX8_wrong_128 : decode cX8_wrong 128 = .ok (.invokestatic 197, 3) := by decide +kernel
theorem dX8_wrong_131 : decode cX8_wrong 131 = .ok (.istore 8, 2) := by decide +kernel
theorem dX8_wrong_133 : decode cX8_wrong 133 = .ok (.iload 8, 2) := by decide +kernel
theorem dX8_wrong_135 : decode cX8_wrong 135 = .ok (.iload_n 2, 1) := by decide +kernel
theorem dX8_wrong_136 : decode cX8_wrong 136 = .ok (.if_icmp .ge 13, 3) := by decide +kernel
theorem dX8_wrong_139 : decode cX8_wrong 139 = .ok (.iload 8, 2) := by decide +kernel
theorem dX8_wrong_141 : decode cX8_wrong 141 = .ok (.istore_n 2, 1) := by decide +kernel
theorem dX8_wrong_142 : decode cX8_wrong 142 = .ok (.iload 5, 2) := by decide +kernel
theorem dX8_wrong_144 : decode cX8_wrong 144 = .ok (.istore_n 3, 1) := by decide +kernel
theorem dX8_wrong_145 : decode cX8_wrong 145 = .ok (.iload 7, 2) := by decide +kernel
theorem dX8_wrong_147 : decode cX8_wrong 147 = .ok (.istore 4, 2) := by decide +kernel
theorem dX8_wrong_149 : decode cX8_wrong 149 = .ok (.iinc 7 1, 3) := by decide +kernel
theorem dX8_wrong_152 : decode cX8_wrong 152 = .ok (.goto (-44), 3) := by decide +kernel
theorem dX8_wrong_155 : decode cX8_wrong 155 = .ok (.aload_n 0, 1) := by decide +kernel
theorem dX8_wrong_156 : decode cX8_wrong 156 = .ok (.getfield 31, 3) := by decide +kernel
theorem dX8_wrong_159 : decode cX8_wrong 159 = .ok (.iload 6, 2) := by decide +kernel
theorem dX8_wrong_161 : decode cX8_wrong 161 = .ok (.aload_n 0, 1) := by decide +kernel
theorem dX8_wrong_162 : decode cX8_wrong 162 = .ok (.getfield 25, 3) := by decide +kernel
theorem dX8_wrong_165 : decode cX8_wrong 165 = .ok (.iload 6, 2) := by decide +kernel
theorem dX8_wrong_167 : decode cX8_wrong 167 = .ok (.iaload, 1) := by decide +kernel
theorem dX8_wrong_168 : decode cX8_wrong 168 = .ok (.iastore, 1) := by decide +kernel
theorem dX8_wrong_169 : decode cX8_wrong 169 = .ok (.iinc 5 1, 3) := by decide +kernel
theorem dX8_wrong_172 : decode cX8_wrong 172 = .ok (.goto (-88), 3) := by decide +kernel
theorem dX8_wrong_175 : decode cX8_wrong 175 = .ok (.iload_n 1, 1) := by decide +kernel
theorem dX8_wrong_176 : decode cX8_wrong 176 = .ok (.ifCond .ne 7, 3) := by decide +kernel
theorem dX8_wrong_179 : decode cX8_wrong 179 = .ok (.iload_n 3, 1) := by decide +kernel
theorem dX8_wrong_180 : decode cX8_wrong 180 = .ok (.goto 5, 3) := by decide +kernel
theorem dX8_wrong_183 : decode cX8_wrong 183 = .ok (.iload 4, 2) := by decide +kernel
theorem dX8_wrong_185 : decode cX8_wrong 185 = .ok (.ireturn, 1) := by decide +kernel
def rmX8_wrong : Room := { frames := 5, cells := 0, slots := 0, locals := 107 }
def lpX8_wrong_108 (o0 : Nat) (x15 : Int32) (x22 : Int32) (K108_155 : Int32 → Int32 → Int32 → Int32 → zM → Prop) : Nat → Int32 → Int32 → Int32 → Int32 → zM → Prop
  | 0, _, _, _, _, _ => False
  | fu108 + 1, x23, x24, x25, x26, M27 =>
    (((61 : Int32) ≤ x26) → (
    K108_155 x23 x24 x25 x26 M27)) ∧
    ((¬ (61 : Int32) ≤ x26) → (
    vp_in x22 50 ∧
    ∀ M35 : zM, M35 = va_up M27 (o0 + 8) (upd (M27 (o0 + 8)) x22.toNatClampNeg x26) →
    wX8_uneven M35 (o0 + 8) 50 (fun r36 =>
    ((x23 ≤ r36) → (
    ∀ x37 : Int32, x37 = x26 + (1 : Int32) →
    lpX8_wrong_108 o0 x15 x22 K108_155 fu108 x23 x24 x25 x37 M35)) ∧
    ((¬ x23 ≤ r36) → (
    ∀ x38 : Int32, x38 = x26 + (1 : Int32) →
    lpX8_wrong_108 o0 x15 x22 K108_155 fu108 r36 x15 x26 x38 M35)))))
def lpX8_wrong_84 (o0 : Nat) (K84_175 : Int32 → Int32 → Int32 → Int32 → zM → Prop) : Nat → Int32 → Int32 → Int32 → Int32 → zM → Prop
  | 0, _, _, _, _, _ => False
  | fu84 + 1, x12, x13, x14, x15, M16 =>
    (((M16 (o0 + 6) (0 : Int32).toNatClampNeg) ≤ x15) → (
    K84_175 x12 x13 x14 x15 M16)) ∧
    ((¬ (M16 (o0 + 6) (0 : Int32).toNatClampNeg) ≤ x15) → (
    ∀ x22 : Int32, x22 = (((2 : Int32) + ((4 : Int32) * x15)) + (1 : Int32)) →
    ∃ fu108 : Nat, lpX8_wrong_108 o0 x15 x22 (fun x28 x29 x30 x31 M32 =>
    vp_in x22 50 ∧
    vp_in x22 50 ∧
    ∀ M33 : zM, M33 = va_up M32 (o0 + 8) (upd (M32 (o0 + 8)) x22.toNatClampNeg (M32 (o0 + 6) x22.toNatClampNeg)) →
    ∀ x34 : Int32, x34 = x15 + (1 : Int32) →
    lpX8_wrong_84 o0 K84_175 fu84 x28 x29 x30 x34 M33) fu108 x12 x13 x14 (0 : Int32) M16))
def lpX8_wrong_37 (o0 : Nat) (K37_66 : Int32 → zM → Prop) : Nat → Int32 → zM → Prop
  | 0, _, _ => False
  | fu37 + 1, x7, M8 =>
    (((M8 (o0 + 6) (0 : Int32).toNatClampNeg) ≤ x7) → (
    K37_66 x7 M8)) ∧
    ((¬ (M8 (o0 + 6) (0 : Int32).toNatClampNeg) ≤ x7) → (
    ∀ x39 : Int32, x39 = (((2 : Int32) + ((4 : Int32) * x7)) + (3 : Int32)) →
    vp_in x39 50 ∧
    ∀ M40 : zM, M40 = va_up M8 (o0 + 8) (upd (M8 (o0 + 8)) x39.toNatClampNeg (0 : Int32)) →
    ∀ x41 : Int32, x41 = x7 + (1 : Int32) →
    lpX8_wrong_37 o0 K37_66 fu37 x41 M40))
def wX8_wrong (M : zM) (o0 : Nat) (x1 : Int32) (Q : Int32 → zM → Prop) : Prop :=
    wX8_isRail M o0 (fun r4 =>
    ((¬ r4 = 0) → (
    wX8_in M x1 (0 : Int32) (1 : Int32) (fun r5 =>
    ((¬ r5 = 0) → (
    wX8_copies M (o0 + 6) 50 (0 : Int32) (o0 + 8) 50 (0 : Int32) (fun M6 =>
    ∃ fu37 : Nat, lpX8_wrong_37 o0 (fun x9 M10 =>
    wX8_uneven M10 (o0 + 8) 50 (fun r11 =>
    ∃ fu84 : Nat, lpX8_wrong_84 o0 (fun x17 x18 x19 x20 M21 =>
    ((¬ x1 = 0) → (
    Q x19 M21)) ∧
    ((x1 = 0) → (
    Q x18 M21))) fu84 r11 (-1000000 : Int32) (-1000000 : Int32) (0 : Int32) M10)) fu37 (0 : Int32) M6))) ∧
    ((r5 = 0) → (
    Q (-1000001 : Int32) M))))) ∧
    ((r4 = 0) → (
    Q (-1000002 : Int32) M)))
set_option maxHeartbeats 4000000 in
set_option maxRecDepth 100000 in
theorem kX8_wrong {l : Launch} {D : va_G} {Y : zY} {ad kd : Nat → Nat} {RL : List Nat} {M : zM} {J : zL} {o0 : Nat} {x1 : Int32} (h_o0 : kd o0 = 8) {Q : Int32 → zM → Prop} (hq : wX8_wrong M o0 x1 Q) : zCi l yX8_wrong wsX8_wrong rmX8_wrong [.ref (ad o0), .int x1] D Y ad kd RL M J (fun r M' J' => Q r M' ∧ J = J') := by
  refine z_meti (cc := cX8_wrong) (maxL := 9) (ret := (some .int)) (by decide) rfl (Nat.le_of_ble_eq_true rfl) ?_
  intro p e s m below meth c ls A ar QE hQE hx hb hr hml hown hts hlk hw hl
  have hown : s.vm.findClass RX8 = some m.cls := hown
  have hl : lv_has ls 9 [(0, .ref (ad o0)), (1, .int x1)] := hl
  have hC := hw.2.2.2.2.2.1
  have g8 : ∀ w ∈ wsX80, w.before ar s = true := (fun w h => hts w (List.mem_cons_of_mem _ (List.mem_append_right _ h)))
  have q1 := hts _ (List.mem_of_getElem? (i := 1) rfl)
  have q2 := hts _ (List.mem_of_getElem? (i := 2) rfl)
  have q3 := hts _ (List.mem_of_getElem? (i := 3) rfl)
  have q4 := hts _ (List.mem_of_getElem? (i := 4) rfl)
  have q5 := hts _ (List.mem_of_getElem? (i := 5) rfl)
  unfold wX8_wrong at hq
  refine lv_aload_n hx hb dX8_wrong_0 rfl (lv_at hl 0 rfl) ?_
  refine z_cvi ⟨hx, hb, hml, hown, hts⟩ hw h_o0 (kX8_isRail h_o0 hq) (by decide) rfl (cwV 0 hts gX8_wrong_X8_isRail rfl rfl rfl (by decide +kernel) ⟨Nat.le_of_ble_eq_true rfl, Nat.le_of_ble_eq_true rfl⟩) rfl hl.1 rfl (Nat.le_of_ble_eq_true rfl) dX8_wrong_1 ⟨Nat.zero_le _, Nat.zero_le _⟩ (fun r4 M0 J0 H locs hq hw => ?_)
  obtain ⟨hq, rfl, rfl⟩ := hq
  refine lv_if_ne (tgt := 10) hx hb dX8_wrong_4 (by decide) (fun hc => ?_) (fun hc => ?_)
  · have hq := hq.1 hc
    refine lv_iload_n hx hb dX8_wrong_10 rfl (lv_at hl 1 rfl) ?_
    refine lv_iconst (v := (0 : Int32)) hx hb dX8_wrong_11 (by decide) ?_
    refine lv_iconst (v := (1 : Int32)) hx hb dX8_wrong_12 (by decide) ?_
    refine z_csi ⟨hx, hb, hml, hown, hts⟩ hw (kX8_in  hq) (va_cwS 3 hts gX8_wrong_X8_in rfl rfl rfl (by decide +kernel) ⟨Nat.le_of_ble_eq_true rfl, Nat.le_of_ble_eq_true rfl⟩) rfl hl.1 rfl (Nat.le_of_ble_eq_true rfl) dX8_wrong_13 ⟨Nat.zero_le _, Nat.zero_le _⟩ (fun r5 M0 J0 H locs hq hw => ?_)
    obtain ⟨hq, rfl, rfl⟩ := hq
    refine lv_if_ne (tgt := 22) hx hb dX8_wrong_16 (by decide) (fun hc => ?_) (fun hc => ?_)
    · have hq := hq.1 hc
      refine lv_aload_n hx hb dX8_wrong_22 rfl (lv_at hl 0 rfl) ?_
      refine zg8_now hx hb g8 hown hw h_o0 q3 dX8_wrong_23 ?_
      refine lv_iconst (v := (0 : Int32)) hx hb dX8_wrong_26 (by decide) ?_
      refine lv_aload_n hx hb dX8_wrong_27 rfl (lv_at hl 0 rfl) ?_
      refine zg8_tried hx hb g8 hown hw h_o0 q4 dX8_wrong_28 ?_
      refine lv_iconst (v := (0 : Int32)) hx hb dX8_wrong_31 (by decide) ?_
      refine z_csv ⟨hx, hb, hml, hown, hts⟩ hw (kX8_copies (zk_8_6 hC h_o0) (zk_8_8 hC h_o0) hq) (va_cwS 4 hts gX8_wrong_X8_copies rfl rfl rfl (by decide +kernel) ⟨Nat.le_of_ble_eq_true rfl, Nat.le_of_ble_eq_true rfl⟩) rfl hl.1 rfl (Nat.le_of_ble_eq_true rfl) dX8_wrong_32 ⟨Nat.zero_le _, Nat.zero_le _⟩ (fun M6 J0 H locs hq hw => ?_)
      obtain ⟨hq, rfl⟩ := hq
      refine lv_iconst (v := (0 : Int32)) hx hb dX8_wrong_35 (by decide) ?_
      refine lv_istore_n (lv' := [(2, .int (0 : Int32)), (0, .ref (ad o0)), (1, .int x1)]) hx hb dX8_wrong_36 rfl hl (by decide) rfl (fun ls hl => ?_)
      have ex37_66 : ∀ (x9 : Int32) (M10 : zM) (H : Heap) (locs : List Loc) (ls : Array Slot), (wX8_uneven M10 (o0 + 8) 50 (fun r11 => ∃ fu84 : Nat, lpX8_wrong_84 o0 (fun x17 x18 x19 x20 M21 => ((¬ x1 = 0) → ( Q x19 M21)) ∧ ((x1 = 0) → ( Q x18 M21))) fu84 r11 (-1000000 : Int32) (-1000000 : Int32) (0 : Int32) M10)) → zH D Y ad kd RL M10 J A s.heap H locs s → lv_has ls 9 [(0, .ref (ad o0)), (1, .int x1)] → W p l e rmX8_wrong s m ar below meth c H locs 0 0 QE (F0 m 66 ls []) := by
        intro x9 M10 H locs ls hq hw hl
        refine lv_aload_n hx hb dX8_wrong_66 rfl (lv_at hl 0 rfl) ?_
        refine zg8_tried hx hb g8 hown hw h_o0 q4 dX8_wrong_67 ?_
        refine z_csi ⟨hx, hb, hml, hown, hts⟩ hw (kX8_uneven (zk_8_8 hC h_o0) hq) (va_cwS 1 hts gX8_wrong_X8_uneven rfl rfl rfl (by decide +kernel) ⟨Nat.le_of_ble_eq_true rfl, Nat.le_of_ble_eq_true rfl⟩) rfl hl.1 rfl (Nat.le_of_ble_eq_true rfl) dX8_wrong_70 ⟨Nat.zero_le _, Nat.zero_le _⟩ (fun r11 M0 J0 H locs hq hw => ?_)
        obtain ⟨hq, rfl, rfl⟩ := hq
        refine lv_istore_n (lv' := [(2, .int r11), (0, .ref (ad o0)), (1, .int x1)]) hx hb dX8_wrong_73 rfl hl (by decide) rfl (fun ls hl => ?_)
        refine lv_ldc (v := (-1000000 : Int32)) hx hb hown q5 dX8_wrong_74 ?_
        refine lv_istore_n (lv' := [(3, .int (-1000000 : Int32)), (2, .int r11), (0, .ref (ad o0)), (1, .int x1)]) hx hb dX8_wrong_76 rfl hl (by decide) rfl (fun ls hl => ?_)
        refine lv_ldc (v := (-1000000 : Int32)) hx hb hown q5 dX8_wrong_77 ?_
        refine lv_istore (lv' := [(4, .int (-1000000 : Int32)), (3, .int (-1000000 : Int32)), (2, .int r11), (0, .ref (ad o0)), (1, .int x1)]) hx hb dX8_wrong_79 hl (by decide) rfl (fun ls hl => ?_)
        refine lv_iconst (v := (0 : Int32)) hx hb dX8_wrong_81 (by decide) ?_
        refine lv_istore (lv' := [(5, .int (0 : Int32)), (4, .int (-1000000 : Int32)), (3, .int (-1000000 : Int32)), (2, .int r11), (0, .ref (ad o0)), (1, .int x1)]) hx hb dX8_wrong_82 hl (by decide) rfl (fun ls hl => ?_)
        have ex84_175 : ∀ (x17 : Int32) (x18 : Int32) (x19 : Int32) (x20 : Int32) (M21 : zM) (H : Heap) (locs : List Loc) (ls : Array Slot), (((¬ x1 = 0) → ( Q x19 M21)) ∧ ((x1 = 0) → ( Q x18 M21))) → zH D Y ad kd RL M21 J A s.heap H locs s → lv_has ls 9 [(1, .int x1), (3, .int x18), (4, .int x19)] → W p l e rmX8_wrong s m ar below meth c H locs 0 0 QE (F0 m 175 ls []) := by
          intro x17 x18 x19 x20 M21 H locs ls hq hw hl
          refine lv_iload_n hx hb dX8_wrong_175 rfl (lv_at hl 0 rfl) ?_
          refine lv_if_ne (tgt := 183) hx hb dX8_wrong_176 (by decide) (fun hc => ?_) (fun hc => ?_)
          · have hq := hq.1 hc
            refine lv_iload hx hb dX8_wrong_183 (lv_at hl 2 rfl) ?_
            exact z_iret hQE hx hb hr hlk hw dX8_wrong_185 ⟨hq, rfl⟩
          · have hq := hq.2 hc
            refine lv_iload_n hx hb dX8_wrong_179 rfl (lv_at hl 1 rfl) ?_
            refine lv_goto (tgt := 185) hx hb dX8_wrong_180 (by decide) ?_
            exact z_iret hQE hx hb hr hlk hw dX8_wrong_185 ⟨hq, rfl⟩
        obtain ⟨fu84, hq⟩ := hq
        have lp84 : ∀ (fu84 : Nat) (x12 : Int32) (x13 : Int32) (x14 : Int32) (x15 : Int32) (M16 : zM) (H : Heap) (locs : List Loc) (ls : Array Slot), lpX8_wrong_84 o0 (fun x17 x18 x19 x20 M21 => ((¬ x1 = 0) → ( Q x19 M21)) ∧ ((x1 = 0) → ( Q x18 M21))) fu84 x12 x13 x14 x15 M16 → zH D Y ad kd RL M16 J A s.heap H locs s → lv_has ls 9 [(0, .ref (ad o0)), (1, .int x1), (2, .int x12), (3, .int x13), (4, .int x14), (5, .int x15)] → W p l e rmX8_wrong s m ar below meth c H locs 0 0 QE (F0 m 84 ls []) := by
          intro fu84
          induction fu84 with
          | zero => intro x12 x13 x14 x15 M16 H locs ls hq; exact hq.elim
          | succ fu84 ih84 =>
            intro x12 x13 x14 x15 M16 H locs ls hq hw hl
            unfold lpX8_wrong_84 at hq
            refine lv_iload hx hb dX8_wrong_84 (lv_at hl 5 rfl) ?_
            refine lv_aload_n hx hb dX8_wrong_86 rfl (lv_at hl 0 rfl) ?_
            refine zg8_now hx hb g8 hown hw h_o0 q3 dX8_wrong_87 ?_
            refine lv_iconst (v := (0 : Int32)) hx hb dX8_wrong_90 (by decide) ?_
            have hi : vp_in (0 : Int32) 50 := by unfold vp_in; decide
            refine z_iald (n := 50) hx hb hw (zk_8_6 hC h_o0) hi dX8_wrong_91 ?_
            refine lv_icmp_ge (tgt := 175) hx hb dX8_wrong_92 (by decide) (fun hc => ?_) (fun hc => ?_)
            · have hq := hq.1 hc
              exact ex84_175 x12 x13 x14 x15 M16 _ _ _ hq hw (lv_sub hl [1, 3, 4] rfl)
            · have hq := hq.2 hc
              refine lv_iconst (v := (2 : Int32)) hx hb dX8_wrong_95 (by decide) ?_
              refine lv_iconst (v := (4 : Int32)) hx hb dX8_wrong_96 (by decide) ?_
              refine lv_iload hx hb dX8_wrong_97 (lv_at hl 5 rfl) ?_
              refine lv_imul hx hb dX8_wrong_99 ?_
              refine lv_iadd hx hb dX8_wrong_100 ?_
              refine lv_iconst (v := (1 : Int32)) hx hb dX8_wrong_101 (by decide) ?_
              refine lv_iadd hx hb dX8_wrong_102 ?_
              refine lv_topi (fun x22 e_x22 => ?_)
              have hq := hq x22 e_x22
              refine lv_istore (lv' := [(6, .int x22), (0, .ref (ad o0)), (1, .int x1), (2, .int x12), (3, .int x13), (4, .int x14), (5, .int x15)]) hx hb dX8_wrong_103 hl (by decide) rfl (fun ls hl => ?_)
              refine lv_iconst (v := (0 : Int32)) hx hb dX8_wrong_105 (by decide) ?_
              refine lv_istore (lv' := [(7, .int (0 : Int32)), (6, .int x22), (0, .ref (ad o0)), (1, .int x1), (2, .int x12), (3, .int x13), (4, .int x14), (5, .int x15)]) hx hb dX8_wrong_106 hl (by decide) rfl (fun ls hl => ?_)
              have ex108_155 : ∀ (x28 : Int32) (x29 : Int32) (x30 : Int32) (x31 : Int32) (M32 : zM) (H : Heap) (locs : List Loc) (ls : Array Slot), (vp_in x22 50 ∧ vp_in x22 50 ∧ ∀ M33 : zM, M33 = va_up M32 (o0 + 8) (upd (M32 (o0 + 8)) x22.toNatClampNeg (M32 (o0 + 6) x22.toNatClampNeg)) → ∀ x34 : Int32, x34 = x15 + (1 : Int32) → lpX8_wrong_84 o0 (fun x17 x18 x19 x20 M21 => ((¬ x1 = 0) → ( Q x19 M21)) ∧ ((x1 = 0) → ( Q x18 M21))) fu84 x28 x29 x30 x34 M33) → zH D Y ad kd RL M32 J A s.heap H locs s → lv_has ls 9 [(0, .ref (ad o0)), (1, .int x1), (2, .int x28), (3, .int x29), (4, .int x30), (5, .int x15), (6, .int x22)] → W p l e rmX8_wrong s m ar below meth c H locs 0 0 QE (F0 m 155 ls []) := by
                intro x28 x29 x30 x31 M32 H locs ls hq hw hl
                refine lv_aload_n hx hb dX8_wrong_155 rfl (lv_at hl 0 rfl) ?_
                refine zg8_tried hx hb g8 hown hw h_o0 q4 dX8_wrong_156 ?_
                refine lv_iload hx hb dX8_wrong_159 (lv_at hl 6 rfl) ?_
                refine lv_aload_n hx hb dX8_wrong_161 rfl (lv_at hl 0 rfl) ?_
                refine zg8_now hx hb g8 hown hw h_o0 q3 dX8_wrong_162 ?_
                refine lv_iload hx hb dX8_wrong_165 (lv_at hl 6 rfl) ?_
                obtain ⟨hi, hq⟩ := hq
                refine z_iald (n := 50) hx hb hw (zk_8_6 hC h_o0) hi dX8_wrong_167 ?_
                obtain ⟨hi, hq⟩ := hq
                refine z_iast (n := 50) hx hb hw (zk_8_8 hC h_o0) hi dX8_wrong_168 (fun H locs hw => ?_)
                obtain ⟨M33, e_M33⟩ : ∃ y : zM, y = va_up M32 (o0 + 8) (upd (M32 (o0 + 8)) x22.toNatClampNeg (M32 (o0 + 6) x22.toNatClampNeg)) := ⟨_, rfl⟩
                rw [← e_M33] at hw
                have hq := hq M33 e_M33
                obtain ⟨x34, e_x34⟩ : ∃ y : Int32, y = x15 + (1 : Int32) := ⟨_, rfl⟩
                have hq := hq x34 e_x34
                refine lv_iinc (v := x34) (lv' := [(5, .int x34), (0, .ref (ad o0)), (1, .int x1), (2, .int x28), (3, .int x29), (4, .int x30), (6, .int x22)]) hx hb dX8_wrong_169 hl (k := 5) rfl (by rw [e_x34]; rfl) (by decide) rfl (fun ls hl => ?_)
                refine lv_goto (tgt := 84) hx hb dX8_wrong_172 (by decide) ?_
                exact ih84 x28 x29 x30 x34 M33 _ _ _ hq hw (lv_sub hl [1, 2, 3, 4, 5, 0] rfl)
              obtain ⟨fu108, hq⟩ := hq
              have lp108 : ∀ (fu108 : Nat) (x23 : Int32) (x24 : Int32) (x25 : Int32) (x26 : Int32) (M27 : zM) (H : Heap) (locs : List Loc) (ls : Array Slot), lpX8_wrong_108 o0 x15 x22 (fun x28 x29 x30 x31 M32 => vp_in x22 50 ∧ vp_in x22 50 ∧ ∀ M33 : zM, M33 = va_up M32 (o0 + 8) (upd (M32 (o0 + 8)) x22.toNatClampNeg (M32 (o0 + 6) x22.toNatClampNeg)) → ∀ x34 : Int32, x34 = x15 + (1 : Int32) → lpX8_wrong_84 o0 (fun x17 x18 x19 x20 M21 => ((¬ x1 = 0) → ( Q x19 M21)) ∧ ((x1 = 0) → ( Q x18 M21))) fu84 x28 x29 x30 x34 M33) fu108 x23 x24 x25 x26 M27 → zH D Y ad kd RL M27 J A s.heap H locs s → lv_has ls 9 [(0, .ref (ad o0)), (1, .int x1), (2, .int x23), (3, .int x24), (4, .int x25), (5, .int x15), (6, .int x22), (7, .int x26)] → W p l e rmX8_wrong s m ar below meth c H locs 0 0 QE (F0 m 108 ls []) := by
                intro fu108
                induction fu108 with
                | zero => intro x23 x24 x25 x26 M27 H locs ls hq; exact hq.elim
                | succ fu108 ih108 =>
                  intro x23 x24 x25 x26 M27 H locs ls hq hw hl
                  unfold lpX8_wrong_108 at hq
                  refine lv_iload hx hb dX8_wrong_108 (lv_at hl 7 rfl) ?_
                  refine lv_bipush (v := (61 : Int32)) hx hb dX8_wrong_110 (by decide) ?_
                  refine lv_icmp_ge (tgt := 155) hx hb dX8_wrong_112 (by decide) (fun hc => ?_) (fun hc => ?_)
                  · have hq := hq.1 hc
                    exact ex108_155 x23 x24 x25 x26 M27 _ _ _ hq hw (lv_sub hl [0, 1, 2, 3, 4, 5, 6] rfl)
                  · have hq := hq.2 hc
                    refine lv_aload_n hx hb dX8_wrong_115 rfl (lv_at hl 0 rfl) ?_
                    refine zg8_tried hx hb g8 hown hw h_o0 q4 dX8_wrong_116 ?_
                    refine lv_iload hx hb dX8_wrong_119 (lv_at hl 6 rfl) ?_
                    refine lv_iload hx hb dX8_wrong_121 (lv_at hl 7 rfl) ?_
                    obtain ⟨hi, hq⟩ := hq
                    refine z_iast (n := 50) hx hb hw (zk_8_8 hC h_o0) hi dX8_wrong_123 (fun H locs hw => ?_)
                    obtain ⟨M35, e_M35⟩ : ∃ y : zM, y = va_up M27 (o0 + 8) (upd (M27 (o0 + 8)) x22.toNatClampNeg x26) := ⟨_, rfl⟩
                    rw [← e_M35] at hw
                    have hq := hq M35 e_M35
                    refine lv_aload_n hx hb dX8_wrong_124 rfl (lv_at hl 0 rfl) ?_
                    refine zg8_tried hx hb g8 hown hw h_o0 q4 dX8_wrong_125 ?_
                    refine z_csi ⟨hx, hb, hml, hown, hts⟩ hw (kX8_uneven (zk_8_8 hC h_o0) hq) (va_cwS 1 hts gX8_wrong_X8_uneven rfl rfl rfl (by decide +kernel) ⟨Nat.le_of_ble_eq_true rfl, Nat.le_of_ble_eq_true rfl⟩) rfl hl.1 rfl (Nat.le_of_ble_eq_true rfl) dX8_wrong_128 ⟨Nat.zero_le _, Nat.zero_le _⟩ (fun r36 M0 J0 H locs hq hw => ?_)
                    obtain ⟨hq, rfl, rfl⟩ := hq
                    refine lv_istore (lv' := [(8, .int r36), (0, .ref (ad o0)), (1, .int x1), (2, .int x23), (3, .int x24), (4, .int x25), (5, .int x15), (6, .int x22), (7, .int x26)]) hx hb dX8_wrong_131 hl (by decide) rfl (fun ls hl => ?_)
                    refine lv_iload hx hb dX8_wrong_133 (lv_at hl 0 rfl) ?_
                    refine lv_iload_n hx hb dX8_wrong_135 rfl (lv_at hl 3 rfl) ?_
                    refine lv_icmp_ge (tgt := 149) hx hb dX8_wrong_136 (by decide) (fun hc => ?_) (fun hc => ?_)
                    · have hq := hq.1 hc
                      obtain ⟨x37, e_x37⟩ : ∃ y : Int32, y = x26 + (1 : Int32) := ⟨_, rfl⟩
                      have hq := hq x37 e_x37
                      refine lv_iinc (v := x37) (lv' := [(7, .int x37), (8, .int r36), (0, .ref (ad o0)), (1, .int x1), (2, .int x23), (3, .int x24), (4, .int x25), (5, .int x15), (6, .int x22)]) hx hb dX8_wrong_149 hl (k := 8) rfl (by rw [e_x37]; rfl) (by decide) rfl (fun ls hl => ?_)
                      refine lv_goto (tgt := 108) hx hb dX8_wrong_152 (by decide) ?_
                      exact ih108 x23 x24 x25 x37 M35 _ _ _ hq hw (lv_sub hl [2, 3, 4, 5, 6, 7, 8, 0] rfl)
                    · have hq := hq.2 hc
                      refine lv_iload hx hb dX8_wrong_139 (lv_at hl 0 rfl) ?_
                      refine lv_istore_n (lv' := [(2, .int r36), (8, .int r36), (0, .ref (ad o0)), (1, .int x1), (3, .int x24), (4, .int x25), (5, .int x15), (6, .int x22), (7, .int x26)]) hx hb dX8_wrong_141 rfl hl (by decide) rfl (fun ls hl => ?_)
                      refine lv_iload hx hb dX8_wrong_142 (lv_at hl 6 rfl) ?_
                      refine lv_istore_n (lv' := [(3, .int x15), (2, .int r36), (8, .int r36), (0, .ref (ad o0)), (1, .int x1), (4, .int x25), (5, .int x15), (6, .int x22), (7, .int x26)]) hx hb dX8_wrong_144 rfl hl (by decide) rfl (fun ls hl => ?_)
                      refine lv_iload hx hb dX8_wrong_145 (lv_at hl 8 rfl) ?_
                      refine lv_istore (lv' := [(4, .int x26), (3, .int x15), (2, .int r36), (8, .int r36), (0, .ref (ad o0)), (1, .int x1), (5, .int x15), (6, .int x22), (7, .int x26)]) hx hb dX8_wrong_147 hl (by decide) rfl (fun ls hl => ?_)
                      obtain ⟨x38, e_x38⟩ : ∃ y : Int32, y = x26 + (1 : Int32) := ⟨_, rfl⟩
                      have hq := hq x38 e_x38
                      refine lv_iinc (v := x38) (lv' := [(7, .int x38), (4, .int x26), (3, .int x15), (2, .int r36), (8, .int r36), (0, .ref (ad o0)), (1, .int x1), (5, .int x15), (6, .int x22)]) hx hb dX8_wrong_149 hl (k := 8) rfl (by rw [e_x38]; rfl) (by decide) rfl (fun ls hl => ?_)
                      refine lv_goto (tgt := 108) hx hb dX8_wrong_152 (by decide) ?_
                      exact ih108 r36 x15 x26 x38 M35 _ _ _ hq hw (lv_sub hl [5, 6, 3, 2, 1, 7, 8, 0] rfl)
              exact lp108 fu108 x12 x13 x14 (0 : Int32) M16 _ _ _ hq hw (lv_sub hl [2, 3, 4, 5, 6, 7, 1, 0] rfl)
        exact lp84 fu84 r11 (-1000000 : Int32) (-1000000 : Int32) (0 : Int32) M10 _ _ _ hq hw (lv_sub hl [4, 5, 3, 2, 1, 0] rfl)
      obtain ⟨fu37, hq⟩ := hq
      have lp37 : ∀ (fu37 : Nat) (x7 : Int32) (M8 : zM) (H : Heap) (locs : List Loc) (ls : Array Slot), lpX8_wrong_37 o0 (fun x9 M10 => wX8_uneven M10 (o0 + 8) 50 (fun r11 => ∃ fu84 : Nat, lpX8_wrong_84 o0 (fun x17 x18 x19 x20 M21 => ((¬ x1 = 0) → ( Q x19 M21)) ∧ ((x1 = 0) → ( Q x18 M21))) fu84 r11 (-1000000 : Int32) (-1000000 : Int32) (0 : Int32) M10)) fu37 x7 M8 → zH D Y ad kd RL M8 J A s.heap H locs s → lv_has ls 9 [(0, .ref (ad o0)), (1, .int x1), (2, .int x7)] → W p l e rmX8_wrong s m ar below meth c H locs 0 0 QE (F0 m 37 ls []) := by
        intro fu37
        induction fu37 with
        | zero => intro x7 M8 H locs ls hq; exact hq.elim
        | succ fu37 ih37 =>
          intro x7 M8 H locs ls hq hw hl
          unfold lpX8_wrong_37 at hq
          refine lv_iload_n hx hb dX8_wrong_37 rfl (lv_at hl 2 rfl) ?_
          refine lv_aload_n hx hb dX8_wrong_38 rfl (lv_at hl 0 rfl) ?_
          refine zg8_now hx hb g8 hown hw h_o0 q3 dX8_wrong_39 ?_
          refine lv_iconst (v := (0 : Int32)) hx hb dX8_wrong_42 (by decide) ?_
          have hi : vp_in (0 : Int32) 50 := by unfold vp_in; decide
          refine z_iald (n := 50) hx hb hw (zk_8_6 hC h_o0) hi dX8_wrong_43 ?_
          refine lv_icmp_ge (tgt := 66) hx hb dX8_wrong_44 (by decide) (fun hc => ?_) (fun hc => ?_)
          · have hq := hq.1 hc
            exact ex37_66 x7 M8 _ _ _ hq hw (lv_sub hl [0, 1] rfl)
          · have hq := hq.2 hc
            refine lv_aload_n hx hb dX8_wrong_47 rfl (lv_at hl 0 rfl) ?_
            refine zg8_tried hx hb g8 hown hw h_o0 q4 dX8_wrong_48 ?_
            refine lv_iconst (v := (2 : Int32)) hx hb dX8_wrong_51 (by decide) ?_
            refine lv_iconst (v := (4 : Int32)) hx hb dX8_wrong_52 (by decide) ?_
            refine lv_iload_n hx hb dX8_wrong_53 rfl (lv_at hl 2 rfl) ?_
            refine lv_imul hx hb dX8_wrong_54 ?_
            refine lv_iadd hx hb dX8_wrong_55 ?_
            refine lv_iconst (v := (3 : Int32)) hx hb dX8_wrong_56 (by decide) ?_
            refine lv_iadd hx hb dX8_wrong_57 ?_
            refine lv_topi (fun x39 e_x39 => ?_)
            have hq := hq x39 e_x39
            refine lv_iconst (v := (0 : Int32)) hx hb dX8_wrong_58 (by decide) ?_
            obtain ⟨hi, hq⟩ := hq
            refine z_iast (n := 50) hx hb hw (zk_8_8 hC h_o0) hi dX8_wrong_59 (fun H locs hw => ?_)
            obtain ⟨M40, e_M40⟩ : ∃ y : zM, y = va_up M8 (o0 + 8) (upd (M8 (o0 + 8)) x39.toNatClampNeg (0 : Int32)) := ⟨_, rfl⟩
            rw [← e_M40] at hw
            have hq := hq M40 e_M40
            obtain ⟨x41, e_x41⟩ : ∃ y : Int32, y = x7 + (1 : Int32) := ⟨_, rfl⟩
            have hq := hq x41 e_x41
            refine lv_iinc (v := x41) (lv' := [(2, .int x41), (0, .ref (ad o0)), (1, .int x1)]) hx hb dX8_wrong_60 hl (k := 2) rfl (by rw [e_x41]; rfl) (by decide) rfl (fun ls hl => ?_)
            refine lv_goto (tgt := 37) hx hb dX8_wrong_63 (by decide) ?_
            exact ih37 x41 M40 _ _ _ hq hw (lv_sub hl [1, 2, 0] rfl)
      exact lp37 fu37 (0 : Int32) M6 _ _ _ hq hw (lv_sub hl [1, 2, 0] rfl)
    · have hq := hq.2 hc
      refine lv_ldc (v := (-1000001 : Int32)) hx hb hown q2 dX8_wrong_19 ?_
      exact z_iret hQE hx hb hr hlk hw dX8_wrong_21 ⟨hq, rfl⟩
  · have hq := hq.2 hc
    refine lv_ldc (v := (-1000002 : Int32)) hx hb hown q1 dX8_wrong_7 ?_
    exact z_iret hQE hx hb hr hlk hw dX8_wrong_9 ⟨hq, rfl⟩
theorem dX8_isInt_0 : decode cX8_isInt 0 = .ok (.lload_n 0, 1) := by decide +kernel
theorem dX8_isInt_1 : decode cX8_isInt 1 = .ok (.ldc2_w 230, 3) := by decide +kernel
theorem dX8_isInt_4 : decode cX8_isInt 4 = .ok (.lcmp, 1) := by decide +kernel
theorem dX8_isInt_5 : decode cX8_isInt 5 = .ok (.ifCond .lt 15, 3) := by decide +kernel
theorem dX8_isInt_8 : decode cX8_isInt 8 = .ok (.lload_n 0, 1) := by decide +kernel
theorem dX8_isInt_9 : decode cX8_isInt 9 = .ok (.ldc2_w 232, 3) := by decide +kernel
theorem dX8_isInt_12 : decode cX8_isInt 12 = .ok (.lcmp, 1) := by decide +kernel
theorem dX8_isInt_13 : decode cX8_isInt 13 = .ok (.ifCond .gt 7, 3) := by decide +kernel
theorem dX8_isInt_16 : decode cX8_isInt 16 = .ok (.iconst 1, 1) := by decide +kernel
theorem dX8_isInt_17 : decode cX8_isInt 17 = .ok (.goto 4, 3) := by decide +kernel
theorem dX8_isInt_20 : decode cX8_isInt 20 = .ok (.iconst 0, 1) := by decide +kernel
theorem dX8_isInt_21 : decode cX8_isInt 21 = .ok (.ireturn, 1) := by decide +kernel
def rmX8_isInt : Room := { frames := 0, cells := 0, slots := 0, locals := 0 }
def wX8_isInt (M : zM) (y0 : Int64) (Q : Int32 → Prop) : Prop :=
    (((lg_cmp y0 (-2147483648 : Int64)) < 0) → (
    Q (0 : Int32))) ∧
    ((¬ (lg_cmp y0 (-2147483648 : Int64)) < 0) → (
    ((0 < (lg_cmp y0 (2147483647 : Int64))) → (
    Q (0 : Int32))) ∧
    ((¬ 0 < (lg_cmp y0 (2147483647 : Int64))) → (
    Q (1 : Int32)))))
set_option maxHeartbeats 4000000 in
set_option maxRecDepth 100000 in
theorem kX8_isInt {l : Launch} {D : va_G} {Y : zY} {ad kd : Nat → Nat} {RL : List Nat} {M : zM} {J : zL} {y0 : Int64}  {Q : Int32 → Prop} (hq : wX8_isInt M y0 Q) : zCi l yX8_isInt wsX8_isInt rmX8_isInt [.long y0] D Y ad kd RL M J (fun r M' J' => Q r ∧ M = M' ∧ J = J') := by
  refine z_meti (cc := cX8_isInt) (maxL := 2) (ret := (some .boolean)) (by decide) rfl (Nat.le_of_ble_eq_true rfl) ?_
  intro p e s m below meth c ls A ar QE hQE hx hb hr hml hown hts hlk hw hl
  have hown : s.vm.findClass RX8 = some m.cls := hown
  have hl : lv_has ls 2 [(0, .long y0)] := hl
  have hC := hw.2.2.2.2.2.1
  have q1 := hts _ (List.mem_of_getElem? (i := 1) rfl)
  have q2 := hts _ (List.mem_of_getElem? (i := 2) rfl)
  unfold wX8_isInt at hq
  refine lv_lload_n hx hb dX8_isInt_0 rfl (lv_at hl 0 rfl) ?_
  refine lv_ldc2 (v := (-2147483648 : Int64)) hx hb hown q1 dX8_isInt_1 ?_
  refine W.lcmp hx hb dX8_isInt_4 ?_
  refine lv_if_lt (tgt := 20) hx hb dX8_isInt_5 (by decide) (fun hc => ?_) (fun hc => ?_)
  · have hq := hq.1 hc
    refine lv_iconst (v := (0 : Int32)) hx hb dX8_isInt_20 (by decide) ?_
    exact z_zret hQE hx hb hr hlk hw dX8_isInt_21 (by decide) ⟨hq, rfl, rfl⟩
  · have hq := hq.2 hc
    refine lv_lload_n hx hb dX8_isInt_8 rfl (lv_at hl 0 rfl) ?_
    refine lv_ldc2 (v := (2147483647 : Int64)) hx hb hown q2 dX8_isInt_9 ?_
    refine W.lcmp hx hb dX8_isInt_12 ?_
    refine lv_if_gt (tgt := 20) hx hb dX8_isInt_13 (by decide) (fun hc => ?_) (fun hc => ?_)
    · have hq := hq.1 hc
      refine lv_iconst (v := (0 : Int32)) hx hb dX8_isInt_20 (by decide) ?_
      exact z_zret hQE hx hb hr hlk hw dX8_isInt_21 (by decide) ⟨hq, rfl, rfl⟩
    · have hq := hq.2 hc
      refine lv_iconst (v := (1 : Int32)) hx hb dX8_isInt_16 (by decide) ?_
      refine lv_goto (tgt := 21) hx hb dX8_isInt_17 (by decide) ?_
      exact z_zret hQE hx hb hr hlk hw dX8_isInt_21 (by decide) ⟨hq, rfl, rfl⟩
set_option maxRecDepth 20000 in
theorem ggX8_moment_X8_isRail : GoodIn wsX8_moment wsX8_isRail := goodIn_r _ [7, 2, 32, 33, 34, 35, 36, 37, 38, 39, 40, 41, 42, 43, 44, 45, 46, 47, 48, 49, 50, 51, 52, 53, 54, 55, 56, 57] (by decide +kernel) (by decide +kernel)
set_option maxRecDepth 20000 in
theorem gX8_moment_X8_isRail : GoodIn wsX8_moment (wsV RX8 173 RX8 yX8_isRail wsX8_isRail) := goodIn_app (goodIn_of _ (by decide +kernel)) ggX8_moment_X8_isRail
set_option maxRecDepth 20000 in
theorem ggX8_moment_X8_nowOf : GoodIn wsX8_moment wsX8_nowOf := goodIn_r _ [10, 11, 12, 6, 13, 14, 15, 16] (by decide +kernel) (by decide +kernel)
set_option maxRecDepth 20000 in
theorem gX8_moment_X8_nowOf : GoodIn wsX8_moment (va_wsS RX8 150 yX8_nowOf wsX8_nowOf) := goodIn_app (goodIn_of _ (by decide +kernel)) ggX8_moment_X8_nowOf
set_option maxRecDepth 20000 in
theorem ggX8_moment_X8_isInt : GoodIn wsX8_moment wsX8_isInt := goodIn_r _ [19, 20, 21] (by decide +kernel) (by decide +kernel)
set_option maxRecDepth 20000 in
theorem gX8_moment_X8_isInt : GoodIn wsX8_moment (va_wsS RX8 234 yX8_isInt wsX8_isInt) := goodIn_app (goodIn_of _ (by decide +kernel)) ggX8_moment_X8_isInt
set_option maxRecDepth 20000 in
theorem ggX8_moment_X8_found : GoodIn wsX8_moment wsX8_found := goodIn_r _ [25, 26, 27, 32, 33, 34, 35, 36, 37, 38, 39, 40, 41, 42, 43, 44, 45, 46, 47, 48, 49, 50, 51, 52, 53, 54, 55, 56, 57] (by decide +kernel) (by decide +kernel)
set_option maxRecDepth 20000 in
theorem gX8_moment_X8_found : GoodIn wsX8_moment (wsV RX8 68 RX8 yX8_found wsX8_found) := goodIn_app (goodIn_of _ (by decide +kernel)) ggX8_moment_X8_found
set_option maxRecDepth 20000 in
theorem ggX8_moment_X8_well : GoodIn wsX8_moment wsX8_well := goodIn_r _ [31, 26, 32, 33, 34, 35, 36, 37, 38, 39, 40, 41, 42, 43, 44, 45, 46, 47, 48, 49, 50, 51, 52, 53, 54, 55, 56, 57] (by decide +kernel) (by decide +kernel)
set_option maxRecDepth 20000 in
theorem gX8_moment_X8_well : GoodIn wsX8_moment (wsV RX8 72 RX8 yX8_well wsX8_well) := goodIn_app (goodIn_of _ (by decide +kernel)) ggX8_moment_X8_well
theorem dX8_moment_0 : decode cX8_moment 0 = .ok (.aload_n 0, 1) := by decide +kernel
theorem dX8_moment_1 : decode cX8_moment 1 = .ok (.invokevirtual 173, 3) := by decide +kernel
theorem dX8_moment_4 : decode cX8_moment 4 = .ok (.ifCond .ne 6, 3) := by decide +kernel
theorem dX8_moment_7 : decode cX8_moment 7 = .ok (.ldc 169, 2) := by decide +kernel
theorem dX8_moment_9 : decode cX8_moment 9 = .ok (.ireturn, 1) := by decide +kernel
theorem dX8_moment_10 : decode cX8_moment 10 = .ok (.lconst 0, 1) := by decide +kernel
theorem dX8_moment_11 : decode cX8_moment 11 = .ok (.lstore_n 2, 1) := by decide +kernel
theorem dX8_moment_12 : decode cX8_moment 12 = .ok (.iconst 0, 1) := by decide +kernel
theorem dX8_moment_13 : decode cX8_moment 13 = .ok (.istore 4, 2) := by decide +kernel
theorem dX8_moment_15 : decode cX8_moment 15 = .ok (.iload 4, 2) := by decide +kernel
theorem dX8_moment_17 : decode cX8_moment 17 = .ok (.aload_n 0, 1) := by decide +kernel
theorem dX8_moment_18 : decode cX8_moment 18 = .ok (.getfield 25, 3) := by decide +kernel
theorem dX8_moment_21 : decode cX8_moment 21 = .ok (.iconst 0, 1) := by decide +kernel
theorem dX8_moment_22 : decode cX8_moment 22 = .ok (.iaload, 1) := by decide +kernel
theorem dX8_moment_23 : decode cX8_moment 23 = .ok (.if_icmp .ge 57, 3) := by decide +kernel
theorem dX8_moment_26 : decode cX8_moment 26 = .ok (.aload_n 0, 1) := by decide +kernel
theorem dX8_moment_27 : decode cX8_moment 27 = .ok (.getfield 25, 3) := by decide +kernel
theorem dX8_moment_30 : decode cX8_moment 30 = .ok (.iload 4, 2) := by decide +kernel
theorem dX8_moment_32 : decode cX8_moment 32 = .ok (.invokestatic 150, 3) := by decide +kernel
theorem dX8_moment_35 : decode cX8_moment 35 = .ok (.i2l, 1) := by decide +kernel
theorem dX8_moment_36 : decode cX8_moment 36 = .ok (.iload 4, 2) := by decide +kernel
theorem dX8_moment_38 : decode cX8_moment 38 = .ok (.iconst 1, 1) := by decide +kernel
theorem dX8_moment_39 : decode cX8_moment 39 = .ok (.iadd, 1) := by decide +kernel
theorem dX8_moment_40 : decode cX8_moment 40 = .ok (.i2l, 1) := by decide +kernel
theorem dX8_moment_41 : decode cX8_moment 41 = .ok (.lmul, 1) := by decide +kernel
theorem dX8_moment_42 : decode cX8_moment 42 = .ok (.iload_n 1, 1) := by decide +kernel
theorem dX8_moment_43 : decode cX8_moment 43 = .ok (.i2l, 1) := by decide +kernel
theorem dX8_moment_44 : decode cX8_moment 44 = .ok (.lmul, 1) := by decide +kernel
theorem dX8_moment_45 : decode cX8_moment 45 = .ok (.lstore 5, 2) := by decide +kernel
theorem dX8_moment_47 : decode cX8_moment 47 = .ok (.lload_n 2, 1) := by decide +kernel
theorem dX8_moment_48 : decode cX8_moment 48 = .ok (.lload 5, 2) := by decide +kernel
theorem dX8_moment_50 : decode cX8_moment 50 = .ok (.ladd, 1) := by decide +kernel
theorem dX8_moment_51 : decode cX8_moment 51 = .ok (.lstore_n 2, 1) := by decide +kernel
theorem dX8_moment_52 : decode cX8_moment 52 = .ok (.lload 5, 2) := by decide +kernel
theorem dX8_moment_54 : decode cX8_moment 54 = .ok (.invokestatic 234, 3) := by decide +kernel
theorem dX8_moment_57 : decode cX8_moment 57 = .ok (.ifCond .eq 10, 3) := by decide +kernel
theorem dX8_moment_60 : decode cX8_moment 60 = .ok (.lload_n 2, 1) := by decide +kernel
theorem dX8_moment_61 : decode cX8_moment 61 = .ok (.invokestatic 234, 3) := by decide +kernel
theorem dX8_moment_64 : decode cX8_moment 64 = .ok (.ifCond .ne 10, 3) := by decide +kernel
theorem dX8_moment_67 : decode cX8_moment 67 = .ok (.aload_n 0, 1) := by decide +kernel
theorem dX8_moment_68 : decode cX8_moment 68 = .ok (.bipush 6, 2) := by decide +kernel
theorem dX8_moment_70 : decode cX8_moment 70 = .ok (.invokevirtual 68, 3) := by decide +kernel
theorem dX8_moment_73 : decode cX8_moment 73 = .ok (.ireturn, 1) := by decide +kernel
theorem dX8_moment_74 : decode cX8_moment 74 = .ok (.iinc 4 1, 3) := by decide +kernel
theorem dX8_moment_77 : decode cX8_moment 77 = .ok (.goto (-62), 3) := by decide +kernel
theorem dX8_moment_80 : decode cX8_moment 80 = .ok (.aload_n 0, 1) := by decide +kernel
theorem dX8_moment_81 : decode cX8_moment 81 = .ok (.lload_n 2, 1) := by decide +kernel
theorem dX8_moment_82 : decode cX8_moment 82 = .ok (.l2i, 1) := by decide +kernel
theorem dX8_moment_83 : decode cX8_moment 83 = .ok (.invokevirtual 72, 3) := by decide +kernel
theorem dX8_moment_86 : decode cX8_moment 86 = .ok (.ireturn, 1) := by decide +kernel
def rmX8_moment : Room := { frames := 3, cells := 0, slots := 0, locals := 64 }
def lpX8_moment_15 (M : zM) (o0 : Nat) (x1 : Int32) (Q : Int32 → zM → Prop) : Nat → Int64 → Int32 → Prop
  | 0, _, _ => False
  | fu15 + 1, y5, x6 =>
    (((M (o0 + 6) (0 : Int32).toNatClampNeg) ≤ x6) → (
    wX8_well M o0 y5.toInt32 (fun r7 M8 =>
    Q r7 M8))) ∧
    ((¬ (M (o0 + 6) (0 : Int32).toNatClampNeg) ≤ x6) → (
    wX8_nowOf M (o0 + 6) 50 x6 (fun r9 =>
    ∀ y10 : Int64, y10 = ((r9.toInt64 * (x6 + (1 : Int32)).toInt64) * x1.toInt64) →
    wX8_isInt M y10 (fun r11 =>
    ((r11 = 0) → (
    wX8_found M o0 (6 : Int32) (fun r12 M13 =>
    Q r12 M13))) ∧
    ((¬ r11 = 0) → (
    wX8_isInt M (y5 + y10) (fun r14 =>
    ((¬ r14 = 0) → (
    ∀ x15 : Int32, x15 = x6 + (1 : Int32) →
    lpX8_moment_15 M o0 x1 Q fu15 (y5 + y10) x15)) ∧
    ((r14 = 0) → (
    wX8_found M o0 (6 : Int32) (fun r16 M17 =>
    Q r16 M17))))))))))
def wX8_moment (M : zM) (o0 : Nat) (x1 : Int32) (Q : Int32 → zM → Prop) : Prop :=
    wX8_isRail M o0 (fun r4 =>
    ((¬ r4 = 0) → (
    ∃ fu15 : Nat, lpX8_moment_15 M o0 x1 Q fu15 (0 : Int64) (0 : Int32))) ∧
    ((r4 = 0) → (
    Q (-1000002 : Int32) M)))
set_option maxHeartbeats 4000000 in
set_option maxRecDepth 100000 in
theorem kX8_moment {l : Launch} {D : va_G} {Y : zY} {ad kd : Nat → Nat} {RL : List Nat} {M : zM} {J : zL} {o0 : Nat} {x1 : Int32} (h_o0 : kd o0 = 8) {Q : Int32 → zM → Prop} (hq : wX8_moment M o0 x1 Q) : zCi l yX8_moment wsX8_moment rmX8_moment [.ref (ad o0), .int x1] D Y ad kd RL M J (fun r M' J' => Q r M' ∧ J = J') := by
  refine z_meti (cc := cX8_moment) (maxL := 7) (ret := (some .int)) (by decide) rfl (Nat.le_of_ble_eq_true rfl) ?_
  intro p e s m below meth c ls A ar QE hQE hx hb hr hml hown hts hlk hw hl
  have hown : s.vm.findClass RX8 = some m.cls := hown
  have hl : lv_has ls 7 [(0, .ref (ad o0)), (1, .int x1)] := hl
  have hC := hw.2.2.2.2.2.1
  have g8 : ∀ w ∈ wsX80, w.before ar s = true := (fun w h => hts w (List.mem_cons_of_mem _ (List.mem_append_right _ h)))
  have q1 := hts _ (List.mem_of_getElem? (i := 1) rfl)
  have q2 := hts _ (List.mem_of_getElem? (i := 2) rfl)
  unfold wX8_moment at hq
  refine lv_aload_n hx hb dX8_moment_0 rfl (lv_at hl 0 rfl) ?_
  refine z_cvi ⟨hx, hb, hml, hown, hts⟩ hw h_o0 (kX8_isRail h_o0 hq) (by decide) rfl (cwV 0 hts gX8_moment_X8_isRail rfl rfl rfl (by decide +kernel) ⟨Nat.le_of_ble_eq_true rfl, Nat.le_of_ble_eq_true rfl⟩) rfl hl.1 rfl (Nat.le_of_ble_eq_true rfl) dX8_moment_1 ⟨Nat.zero_le _, Nat.zero_le _⟩ (fun r4 M0 J0 H locs hq hw => ?_)
  obtain ⟨hq, rfl, rfl⟩ := hq
  refine lv_if_ne (tgt := 10) hx hb dX8_moment_4 (by decide) (fun hc => ?_) (fun hc => ?_)
  · have hq := hq.1 hc
    refine lv_lconst (v := (0 : Int64)) hx hb dX8_moment_10 (by decide) ?_
    refine lv_lstore_n (lv' := [(2, .long (0 : Int64)), (0, .ref (ad o0)), (1, .int x1)]) hx hb dX8_moment_11 rfl hl (by decide) rfl (fun ls hl => ?_)
    refine lv_iconst (v := (0 : Int32)) hx hb dX8_moment_12 (by decide) ?_
    refine lv_istore (lv' := [(4, .int (0 : Int32)), (2, .long (0 : Int64)), (0, .ref (ad o0)), (1, .int x1)]) hx hb dX8_moment_13 hl (by decide) rfl (fun ls hl => ?_)
    obtain ⟨fu15, hq⟩ := hq
    have lp15 : ∀ (fu15 : Nat) (y5 : Int64) (x6 : Int32) (H : Heap) (locs : List Loc) (ls : Array Slot), lpX8_moment_15 M o0 x1 Q fu15 y5 x6 → zH D Y ad kd RL M J A s.heap H locs s → lv_has ls 7 [(0, .ref (ad o0)), (1, .int x1), (2, .long y5), (4, .int x6)] → W p l e rmX8_moment s m ar below meth c H locs 0 0 QE (F0 m 15 ls []) := by
      intro fu15
      induction fu15 with
      | zero => intro y5 x6 H locs ls hq; exact hq.elim
      | succ fu15 ih15 =>
        intro y5 x6 H locs ls hq hw hl
        unfold lpX8_moment_15 at hq
        refine lv_iload hx hb dX8_moment_15 (lv_at hl 3 rfl) ?_
        refine lv_aload_n hx hb dX8_moment_17 rfl (lv_at hl 0 rfl) ?_
        refine zg8_now hx hb g8 hown hw h_o0 q2 dX8_moment_18 ?_
        refine lv_iconst (v := (0 : Int32)) hx hb dX8_moment_21 (by decide) ?_
        have hi : vp_in (0 : Int32) 50 := by unfold vp_in; decide
        refine z_iald (n := 50) hx hb hw (zk_8_6 hC h_o0) hi dX8_moment_22 ?_
        refine lv_icmp_ge (tgt := 80) hx hb dX8_moment_23 (by decide) (fun hc => ?_) (fun hc => ?_)
        · have hq := hq.1 hc
          refine lv_aload_n hx hb dX8_moment_80 rfl (lv_at hl 0 rfl) ?_
          refine lv_lload_n hx hb dX8_moment_81 rfl (lv_at hl 2 rfl) ?_
          refine lv_l2i hx hb dX8_moment_82 rfl ?_
          refine z_cvi ⟨hx, hb, hml, hown, hts⟩ hw h_o0 (kX8_well h_o0 hq) (by decide) rfl (cwV 1 hts gX8_moment_X8_well rfl rfl rfl (by decide +kernel) ⟨Nat.le_of_ble_eq_true rfl, Nat.le_of_ble_eq_true rfl⟩) rfl hl.1 rfl (Nat.le_of_ble_eq_true rfl) dX8_moment_83 ⟨Nat.zero_le _, Nat.zero_le _⟩ (fun r7 M8 J0 H locs hq hw => ?_)
          obtain ⟨hq, rfl⟩ := hq
          exact z_iret hQE hx hb hr hlk hw dX8_moment_86 ⟨hq, rfl⟩
        · have hq := hq.2 hc
          refine lv_aload_n hx hb dX8_moment_26 rfl (lv_at hl 0 rfl) ?_
          refine zg8_now hx hb g8 hown hw h_o0 q2 dX8_moment_27 ?_
          refine lv_iload hx hb dX8_moment_30 (lv_at hl 3 rfl) ?_
          refine z_csi ⟨hx, hb, hml, hown, hts⟩ hw (kX8_nowOf (zk_8_6 hC h_o0) hq) (va_cwS 2 hts gX8_moment_X8_nowOf rfl rfl rfl (by decide +kernel) ⟨Nat.le_of_ble_eq_true rfl, Nat.le_of_ble_eq_true rfl⟩) rfl hl.1 rfl (Nat.le_of_ble_eq_true rfl) dX8_moment_32 ⟨Nat.zero_le _, Nat.zero_le _⟩ (fun r9 M0 J0 H locs hq hw => ?_)
          obtain ⟨hq, rfl, rfl⟩ := hq
          refine lv_i2l hx hb dX8_moment_35 rfl ?_
          refine lv_iload hx hb dX8_moment_36 (lv_at hl 3 rfl) ?_
          refine lv_iconst (v := (1 : Int32)) hx hb dX8_moment_38 (by decide) ?_
          refine lv_iadd hx hb dX8_moment_39 ?_
          refine lv_i2l hx hb dX8_moment_40 rfl ?_
          refine lv_lmul hx hb dX8_moment_41 ?_
          refine lv_iload_n hx hb dX8_moment_42 rfl (lv_at hl 1 rfl) ?_
          refine lv_i2l hx hb dX8_moment_43 rfl ?_
          refine lv_lmul hx hb dX8_moment_44 ?_
          refine lv_topl (fun y10 e_y10 => ?_)
          have hq := hq y10 e_y10
          refine lv_lstore (lv' := [(5, .long y10), (0, .ref (ad o0)), (1, .int x1), (2, .long y5), (4, .int x6)]) hx hb dX8_moment_45 hl (by decide) rfl (fun ls hl => ?_)
          refine lv_lload_n hx hb dX8_moment_47 rfl (lv_at hl 3 rfl) ?_
          refine lv_lload hx hb dX8_moment_48 (lv_at hl 0 rfl) ?_
          refine lv_ladd hx hb dX8_moment_50 ?_
          refine lv_lstore_n (lv' := [(2, .long (y5 + y10)), (5, .long y10), (0, .ref (ad o0)), (1, .int x1), (4, .int x6)]) hx hb dX8_moment_51 rfl hl (by decide) rfl (fun ls hl => ?_)
          refine lv_lload hx hb dX8_moment_52 (lv_at hl 1 rfl) ?_
          refine z_csi ⟨hx, hb, hml, hown, hts⟩ hw (kX8_isInt  hq) (va_cwS 1 hts gX8_moment_X8_isInt rfl rfl rfl (by decide +kernel) ⟨Nat.le_of_ble_eq_true rfl, Nat.le_of_ble_eq_true rfl⟩) rfl hl.1 rfl (Nat.le_of_ble_eq_true rfl) dX8_moment_54 ⟨Nat.zero_le _, Nat.zero_le _⟩ (fun r11 M0 J0 H locs hq hw => ?_)
          obtain ⟨hq, rfl, rfl⟩ := hq
          refine lv_if_eq (tgt := 67) hx hb dX8_moment_57 (by decide) (fun hc => ?_) (fun hc => ?_)
          · have hq := hq.1 hc
            refine lv_aload_n hx hb dX8_moment_67 rfl (lv_at hl 2 rfl) ?_
            refine lv_bipush (v := (6 : Int32)) hx hb dX8_moment_68 (by decide) ?_
            refine z_cvi ⟨hx, hb, hml, hown, hts⟩ hw h_o0 (kX8_found h_o0 hq) (by decide) rfl (cwV 1 hts gX8_moment_X8_found rfl rfl rfl (by decide +kernel) ⟨Nat.le_of_ble_eq_true rfl, Nat.le_of_ble_eq_true rfl⟩) rfl hl.1 rfl (Nat.le_of_ble_eq_true rfl) dX8_moment_70 ⟨Nat.zero_le _, Nat.zero_le _⟩ (fun r12 M13 J0 H locs hq hw => ?_)
            obtain ⟨hq, rfl⟩ := hq
            exact z_iret hQE hx hb hr hlk hw dX8_moment_73 ⟨hq, rfl⟩
          · have hq := hq.2 hc
            refine lv_lload_n hx hb dX8_moment_60 rfl (lv_at hl 0 rfl) ?_
            refine z_csi ⟨hx, hb, hml, hown, hts⟩ hw (kX8_isInt  hq) (va_cwS 1 hts gX8_moment_X8_isInt rfl rfl rfl (by decide +kernel) ⟨Nat.le_of_ble_eq_true rfl, Nat.le_of_ble_eq_true rfl⟩) rfl hl.1 rfl (Nat.le_of_ble_eq_true rfl) dX8_moment_61 ⟨Nat.zero_le _, Nat.zero_le _⟩ (fun r14 M0 J0 H locs hq hw => ?_)
            obtain ⟨hq, rfl, rfl⟩ := hq
            refine lv_if_ne (tgt := 74) hx hb dX8_moment_64 (by decide) (fun hc => ?_) (fun hc => ?_)
            · have hq := hq.1 hc
              obtain ⟨x15, e_x15⟩ : ∃ y : Int32, y = x6 + (1 : Int32) := ⟨_, rfl⟩
              have hq := hq x15 e_x15
              refine lv_iinc (v := x15) (lv' := [(4, .int x15), (2, .long (y5 + y10)), (5, .long y10), (0, .ref (ad o0)), (1, .int x1)]) hx hb dX8_moment_74 hl (k := 4) rfl (by rw [e_x15]; rfl) (by decide) rfl (fun ls hl => ?_)
              refine lv_goto (tgt := 15) hx hb dX8_moment_77 (by decide) ?_
              exact ih15 (y5 + y10) x15 _ _ _ hq hw (lv_sub hl [3, 4, 1, 0] rfl)
            · have hq := hq.2 hc
              refine lv_aload_n hx hb dX8_moment_67 rfl (lv_at hl 2 rfl) ?_
              refine lv_bipush (v := (6 : Int32)) hx hb dX8_moment_68 (by decide) ?_
              refine z_cvi ⟨hx, hb, hml, hown, hts⟩ hw h_o0 (kX8_found h_o0 hq) (by decide) rfl (cwV 1 hts gX8_moment_X8_found rfl rfl rfl (by decide +kernel) ⟨Nat.le_of_ble_eq_true rfl, Nat.le_of_ble_eq_true rfl⟩) rfl hl.1 rfl (Nat.le_of_ble_eq_true rfl) dX8_moment_70 ⟨Nat.zero_le _, Nat.zero_le _⟩ (fun r16 M17 J0 H locs hq hw => ?_)
              obtain ⟨hq, rfl⟩ := hq
              exact z_iret hQE hx hb hr hlk hw dX8_moment_73 ⟨hq, rfl⟩
    exact lp15 fu15 (0 : Int64) (0 : Int32) _ _ _ hq hw (lv_sub hl [2, 3, 1, 0] rfl)
  · have hq := hq.2 hc
    refine lv_ldc (v := (-1000002 : Int32)) hx hb hown q1 dX8_moment_7 ?_
    exact z_iret hQE hx hb hr hlk hw dX8_moment_9 ⟨hq, rfl⟩
set_option maxRecDepth 20000 in
theorem ggX8_isSeen_X8_nowOf : GoodIn wsX8_isSeen wsX8_nowOf := goodIn_r _ [6, 7, 8, 5, 9, 10, 11, 12] (by decide +kernel) (by decide +kernel)
set_option maxRecDepth 20000 in
theorem gX8_isSeen_X8_nowOf : GoodIn wsX8_isSeen (va_wsS RX8 150 yX8_nowOf wsX8_nowOf) := goodIn_app (goodIn_of _ (by decide +kernel)) ggX8_isSeen_X8_nowOf
theorem dX8_isSeen_0 : decode cX8_isSeen 0 = .ok (.iconst 1, 1) := by decide +kernel
theorem dX8_isSeen_1 : decode cX8_isSeen 1 = .ok (.istore_n 3, 1) := by decide +kernel
theorem dX8_isSeen_2 : decode cX8_isSeen 2 = .ok (.iconst 0, 1) := by decide +kernel
theorem dX8_isSeen_3 : decode cX8_isSeen 3 = .ok (.istore 4, 2) := by decide +kernel
theorem dX8_isSeen_5 : decode cX8_isSeen 5 = .ok (.iload 4, 2) := by decide +kernel
theorem dX8_isSeen_7 : decode cX8_isSeen 7 = .ok (.iload_n 2, 1) := by decide +kernel
theorem dX8_isSeen_8 : decode cX8_isSeen 8 = .ok (.if_icmp .ge 43, 3) := by decide +kernel
theorem dX8_isSeen_11 : decode cX8_isSeen 11 = .ok (.iload_n 3, 1) := by decide +kernel
theorem dX8_isSeen_12 : decode cX8_isSeen 12 = .ok (.ifCond .eq 31, 3) := by decide +kernel
theorem dX8_isSeen_15 : decode cX8_isSeen 15 = .ok (.aload_n 0, 1) := by decide +kernel
theorem dX8_isSeen_16 : decode cX8_isSeen 16 = .ok (.getfield 31, 3) := by decide +kernel
theorem dX8_isSeen_19 : decode cX8_isSeen 19 = .ok (.iload 4, 2) := by decide +kernel
theorem dX8_isSeen_21 : decode cX8_isSeen 21 = .ok (.invokestatic 150, 3) := by decide +kernel
theorem dX8_isSeen_24 : decode cX8_isSeen 24 = .ok (.aload_n 0, 1) := by decide +kernel
theorem dX8_isSeen_25 : decode cX8_isSeen 25 = .ok (.getfield 16, 3) := by decide +kernel
theorem dX8_isSeen_28 : decode cX8_isSeen 28 = .ok (.bipush 40, 2) := by decide +kernel
theorem dX8_isSeen_30 : decode cX8_isSeen 30 = .ok (.iload_n 1, 1) := by decide +kernel
theorem dX8_isSeen_31 : decode cX8_isSeen 31 = .ok (.imul, 1) := by decide +kernel
theorem dX8_isSeen_32 : decode cX8_isSeen 32 = .ok (.iload 4, 2) := by decide +kernel
theorem dX8_isSeen_34 : decode cX8_isSeen 34 = .ok (.iadd, 1) := by decide +kernel
theorem dX8_isSeen_35 : decode cX8_isSeen 35 = .ok (.iaload, 1) := by decide +kernel
theorem dX8_isSeen_36 : decode cX8_isSeen 36 = .ok (.if_icmp .ne 7, 3) := by decide +kernel
theorem dX8_isSeen_39 : decode cX8_isSeen 39 = .ok (.iconst 1, 1) := by decide +kernel
theorem dX8_isSeen_40 : decode cX8_isSeen 40 = .ok (.goto 4, 3) := by decide +kernel
theorem dX8_isSeen_43 : decode cX8_isSeen 43 = .ok (.iconst 0, 1) := by decide +kernel
theorem dX8_isSeen_44 : decode cX8_isSeen 44 = .ok (.istore_n 3, 1) := by decide +kernel
theorem dX8_isSeen_45 : decode cX8_isSeen 45 = .ok (.iinc 4 1, 3) := by decide +kernel
theorem dX8_isSeen_48 : decode cX8_isSeen 48 = .ok (.goto (-43), 3) := by decide +kernel
theorem dX8_isSeen_51 : decode cX8_isSeen 51 = .ok (.iload_n 3, 1) := by decide +kernel
theorem dX8_isSeen_52 : decode cX8_isSeen 52 = .ok (.ireturn, 1) := by decide +kernel
def rmX8_isSeen : Room := { frames := 3, cells := 0, slots := 0, locals := 64 }
def lpX8_isSeen_5 (M : zM) (o0 : Nat) (x1 : Int32) (x2 : Int32) (Q : Int32 → Prop) : Nat → Int32 → Int32 → Prop
  | 0, _, _ => False
  | fu5 + 1, x5, x6 =>
    ((x2 ≤ x6) → (
    narrow .boolean (.int x5) = .int x5 ∧
    Q x5)) ∧
    ((¬ x2 ≤ x6) → (
    ((x5 = 0) → (
    ∀ x7 : Int32, x7 = x6 + (1 : Int32) →
    lpX8_isSeen_5 M o0 x1 x2 Q fu5 (0 : Int32) x7)) ∧
    ((¬ x5 = 0) → (
    wX8_nowOf M (o0 + 8) 50 x6 (fun r8 =>
    vp_in (((40 : Int32) * x1) + x6) 320 ∧
    ∀ x9 : Int32, x9 = (M (o0 + 3) (((40 : Int32) * x1) + x6).toNatClampNeg) →
    ((¬ r8 = x9) → (
    ∀ x10 : Int32, x10 = x6 + (1 : Int32) →
    lpX8_isSeen_5 M o0 x1 x2 Q fu5 (0 : Int32) x10)) ∧
    ((r8 = x9) → (
    ∀ x11 : Int32, x11 = x6 + (1 : Int32) →
    lpX8_isSeen_5 M o0 x1 x2 Q fu5 (1 : Int32) x11)))))))
def wX8_isSeen (M : zM) (o0 : Nat) (x1 : Int32) (x2 : Int32) (Q : Int32 → Prop) : Prop :=
    ∃ fu5 : Nat, lpX8_isSeen_5 M o0 x1 x2 Q fu5 (1 : Int32) (0 : Int32)
set_option maxHeartbeats 4000000 in
set_option maxRecDepth 100000 in
theorem kX8_isSeen {l : Launch} {D : va_G} {Y : zY} {ad kd : Nat → Nat} {RL : List Nat} {M : zM} {J : zL} {o0 : Nat} {x1 : Int32} {x2 : Int32} (h_o0 : kd o0 = 8) {Q : Int32 → Prop} (hq : wX8_isSeen M o0 x1 x2 Q) : zCi l yX8_isSeen wsX8_isSeen rmX8_isSeen [.ref (ad o0), .int x1, .int x2] D Y ad kd RL M J (fun r M' J' => Q r ∧ M = M' ∧ J = J') := by
  refine z_meti (cc := cX8_isSeen) (maxL := 5) (ret := (some .boolean)) (by decide) rfl (Nat.le_of_ble_eq_true rfl) ?_
  intro p e s m below meth c ls A ar QE hQE hx hb hr hml hown hts hlk hw hl
  have hown : s.vm.findClass RX8 = some m.cls := hown
  have hl : lv_has ls 5 [(0, .ref (ad o0)), (1, .int x1), (2, .int x2)] := hl
  have hC := hw.2.2.2.2.2.1
  have g8 : ∀ w ∈ wsX80, w.before ar s = true := (fun w h => hts w (List.mem_cons_of_mem _ (List.mem_append_right _ h)))
  have q1 := hts _ (List.mem_of_getElem? (i := 1) rfl)
  have q2 := hts _ (List.mem_of_getElem? (i := 2) rfl)
  unfold wX8_isSeen at hq
  refine lv_iconst (v := (1 : Int32)) hx hb dX8_isSeen_0 (by decide) ?_
  refine lv_istore_n (lv' := [(3, .int (1 : Int32)), (0, .ref (ad o0)), (1, .int x1), (2, .int x2)]) hx hb dX8_isSeen_1 rfl hl (by decide) rfl (fun ls hl => ?_)
  refine lv_iconst (v := (0 : Int32)) hx hb dX8_isSeen_2 (by decide) ?_
  refine lv_istore (lv' := [(4, .int (0 : Int32)), (3, .int (1 : Int32)), (0, .ref (ad o0)), (1, .int x1), (2, .int x2)]) hx hb dX8_isSeen_3 hl (by decide) rfl (fun ls hl => ?_)
  obtain ⟨fu5, hq⟩ := hq
  have lp5 : ∀ (fu5 : Nat) (x5 : Int32) (x6 : Int32) (H : Heap) (locs : List Loc) (ls : Array Slot), lpX8_isSeen_5 M o0 x1 x2 Q fu5 x5 x6 → zH D Y ad kd RL M J A s.heap H locs s → lv_has ls 5 [(0, .ref (ad o0)), (1, .int x1), (2, .int x2), (3, .int x5), (4, .int x6)] → W p l e rmX8_isSeen s m ar below meth c H locs 0 0 QE (F0 m 5 ls []) := by
    intro fu5
    induction fu5 with
    | zero => intro x5 x6 H locs ls hq; exact hq.elim
    | succ fu5 ih5 =>
      intro x5 x6 H locs ls hq hw hl
      unfold lpX8_isSeen_5 at hq
      refine lv_iload hx hb dX8_isSeen_5 (lv_at hl 4 rfl) ?_
      refine lv_iload_n hx hb dX8_isSeen_7 rfl (lv_at hl 2 rfl) ?_
      refine lv_icmp_ge (tgt := 51) hx hb dX8_isSeen_8 (by decide) (fun hc => ?_) (fun hc => ?_)
      · have hq := hq.1 hc
        refine lv_iload_n hx hb dX8_isSeen_51 rfl (lv_at hl 3 rfl) ?_
        obtain ⟨hn, hq⟩ := hq
        exact z_zret hQE hx hb hr hlk hw dX8_isSeen_52 hn ⟨hq, rfl, rfl⟩
      · have hq := hq.2 hc
        refine lv_iload_n hx hb dX8_isSeen_11 rfl (lv_at hl 3 rfl) ?_
        refine lv_if_eq (tgt := 43) hx hb dX8_isSeen_12 (by decide) (fun hc => ?_) (fun hc => ?_)
        · have hq := hq.1 hc
          refine lv_iconst (v := (0 : Int32)) hx hb dX8_isSeen_43 (by decide) ?_
          refine lv_istore_n (lv' := [(3, .int (0 : Int32)), (0, .ref (ad o0)), (1, .int x1), (2, .int x2), (4, .int x6)]) hx hb dX8_isSeen_44 rfl hl (by decide) rfl (fun ls hl => ?_)
          obtain ⟨x7, e_x7⟩ : ∃ y : Int32, y = x6 + (1 : Int32) := ⟨_, rfl⟩
          have hq := hq x7 e_x7
          refine lv_iinc (v := x7) (lv' := [(4, .int x7), (3, .int (0 : Int32)), (0, .ref (ad o0)), (1, .int x1), (2, .int x2)]) hx hb dX8_isSeen_45 hl (k := 4) rfl (by rw [e_x7]; rfl) (by decide) rfl (fun ls hl => ?_)
          refine lv_goto (tgt := 5) hx hb dX8_isSeen_48 (by decide) ?_
          exact ih5 (0 : Int32) x7 _ _ _ hq hw (lv_sub hl [2, 3, 4, 1, 0] rfl)
        · have hq := hq.2 hc
          refine lv_aload_n hx hb dX8_isSeen_15 rfl (lv_at hl 0 rfl) ?_
          refine zg8_tried hx hb g8 hown hw h_o0 q1 dX8_isSeen_16 ?_
          refine lv_iload hx hb dX8_isSeen_19 (lv_at hl 4 rfl) ?_
          refine z_csi ⟨hx, hb, hml, hown, hts⟩ hw (kX8_nowOf (zk_8_8 hC h_o0) hq) (va_cwS 2 hts gX8_isSeen_X8_nowOf rfl rfl rfl (by decide +kernel) ⟨Nat.le_of_ble_eq_true rfl, Nat.le_of_ble_eq_true rfl⟩) rfl hl.1 rfl (Nat.le_of_ble_eq_true rfl) dX8_isSeen_21 ⟨Nat.zero_le _, Nat.zero_le _⟩ (fun r8 M0 J0 H locs hq hw => ?_)
          obtain ⟨hq, rfl, rfl⟩ := hq
          refine lv_aload_n hx hb dX8_isSeen_24 rfl (lv_at hl 0 rfl) ?_
          refine zg8_items hx hb g8 hown hw h_o0 q2 dX8_isSeen_25 ?_
          refine lv_bipush (v := (40 : Int32)) hx hb dX8_isSeen_28 (by decide) ?_
          refine lv_iload_n hx hb dX8_isSeen_30 rfl (lv_at hl 1 rfl) ?_
          refine lv_imul hx hb dX8_isSeen_31 ?_
          refine lv_iload hx hb dX8_isSeen_32 (lv_at hl 4 rfl) ?_
          refine lv_iadd hx hb dX8_isSeen_34 ?_
          obtain ⟨hi, hq⟩ := hq
          refine z_iald (n := 320) hx hb hw (zk_8_3 hC h_o0) hi dX8_isSeen_35 ?_
          refine lv_topi (fun x9 e_x9 => ?_)
          have hq := hq x9 e_x9
          refine lv_icmp_ne (tgt := 43) hx hb dX8_isSeen_36 (by decide) (fun hc => ?_) (fun hc => ?_)
          · have hq := hq.1 hc
            refine lv_iconst (v := (0 : Int32)) hx hb dX8_isSeen_43 (by decide) ?_
            refine lv_istore_n (lv' := [(3, .int (0 : Int32)), (0, .ref (ad o0)), (1, .int x1), (2, .int x2), (4, .int x6)]) hx hb dX8_isSeen_44 rfl hl (by decide) rfl (fun ls hl => ?_)
            obtain ⟨x10, e_x10⟩ : ∃ y : Int32, y = x6 + (1 : Int32) := ⟨_, rfl⟩
            have hq := hq x10 e_x10
            refine lv_iinc (v := x10) (lv' := [(4, .int x10), (3, .int (0 : Int32)), (0, .ref (ad o0)), (1, .int x1), (2, .int x2)]) hx hb dX8_isSeen_45 hl (k := 4) rfl (by rw [e_x10]; rfl) (by decide) rfl (fun ls hl => ?_)
            refine lv_goto (tgt := 5) hx hb dX8_isSeen_48 (by decide) ?_
            exact ih5 (0 : Int32) x10 _ _ _ hq hw (lv_sub hl [2, 3, 4, 1, 0] rfl)
          · have hq := hq.2 hc
            refine lv_iconst (v := (1 : Int32)) hx hb dX8_isSeen_39 (by decide) ?_
            refine lv_goto (tgt := 44) hx hb dX8_isSeen_40 (by decide) ?_
            refine lv_istore_n (lv' := [(3, .int (1 : Int32)), (0, .ref (ad o0)), (1, .int x1), (2, .int x2), (4, .int x6)]) hx hb dX8_isSeen_44 rfl hl (by decide) rfl (fun ls hl => ?_)
            obtain ⟨x11, e_x11⟩ : ∃ y : Int32, y = x6 + (1 : Int32) := ⟨_, rfl⟩
            have hq := hq x11 e_x11
            refine lv_iinc (v := x11) (lv' := [(4, .int x11), (3, .int (1 : Int32)), (0, .ref (ad o0)), (1, .int x1), (2, .int x2)]) hx hb dX8_isSeen_45 hl (k := 4) rfl (by rw [e_x11]; rfl) (by decide) rfl (fun ls hl => ?_)
            refine lv_goto (tgt := 5) hx hb dX8_isSeen_48 (by decide) ?_
            exact ih5 (1 : Int32) x11 _ _ _ hq hw (lv_sub hl [2, 3, 4, 1, 0] rfl)
  exact lp5 fu5 (1 : Int32) (0 : Int32) _ _ _ hq hw (lv_sub hl [2, 3, 4, 1, 0] rfl)
set_option maxRecDepth 20000 in
theorem ggX8_fits_X8_isPeg : GoodIn wsX8_fits wsX8_isPeg := goodIn_r _ [9, 1, 10, 11, 8, 12, 53, 54, 55, 56, 57, 58, 59, 60, 61, 62, 63, 64, 65, 66, 67, 68, 69, 70, 71, 72, 73, 74, 75, 76, 77, 78] (by decide +kernel) (by decide +kernel)
set_option maxRecDepth 20000 in
theorem gX8_fits_X8_isPeg : GoodIn wsX8_fits (wsV RX8 163 RX8 yX8_isPeg wsX8_isPeg) := goodIn_app (goodIn_of _ (by decide +kernel)) ggX8_fits_X8_isPeg
set_option maxRecDepth 20000 in
theorem ggX8_fits_X8_isRow : GoodIn wsX8_fits wsX8_isRow := goodIn_r _ [15, 10, 11, 8, 12] (by decide +kernel) (by decide +kernel)
set_option maxRecDepth 20000 in
theorem gX8_fits_X8_isRow : GoodIn wsX8_fits (va_wsS RX8 63 yX8_isRow wsX8_isRow) := goodIn_app (goodIn_of _ (by decide +kernel)) ggX8_fits_X8_isRow
set_option maxRecDepth 20000 in
theorem ggX8_fits_X8_in : GoodIn wsX8_fits wsX8_in := goodIn_r _ [12] (by decide +kernel) (by decide +kernel)
set_option maxRecDepth 20000 in
theorem gX8_fits_X8_in : GoodIn wsX8_fits (va_wsS RX8 59 yX8_in wsX8_in) := goodIn_app (goodIn_of _ (by decide +kernel)) ggX8_fits_X8_in
set_option maxRecDepth 20000 in
theorem ggX8_fits_X8_isMissing : GoodIn wsX8_fits wsX8_isMissing := goodIn_r _ [19, 20, 4, 53, 54, 55, 56, 57, 58, 59, 60, 61, 62, 63, 64, 65, 66, 67, 68, 69, 70, 71, 72, 73, 74, 75, 76, 77, 78] (by decide +kernel) (by decide +kernel)
set_option maxRecDepth 20000 in
theorem gX8_fits_X8_isMissing : GoodIn wsX8_fits (wsV RX8 75 RX8 yX8_isMissing wsX8_isMissing) := goodIn_app (goodIn_of _ (by decide +kernel)) ggX8_fits_X8_isMissing
set_option maxRecDepth 20000 in
theorem ggX8_fits_X8_found : GoodIn wsX8_fits wsX8_found := goodIn_r _ [24, 25, 26, 53, 54, 55, 56, 57, 58, 59, 60, 61, 62, 63, 64, 65, 66, 67, 68, 69, 70, 71, 72, 73, 74, 75, 76, 77, 78] (by decide +kernel) (by decide +kernel)
set_option maxRecDepth 20000 in
theorem gX8_fits_X8_found : GoodIn wsX8_fits (wsV RX8 68 RX8 yX8_found wsX8_found) := goodIn_app (goodIn_of _ (by decide +kernel)) ggX8_fits_X8_found
set_option maxRecDepth 20000 in
theorem ggX8_fits_X8_isPart : GoodIn wsX8_fits wsX8_isPart := goodIn_r _ [30, 31, 53, 54, 55, 56, 57, 58, 59, 60, 61, 62, 63, 64, 65, 66, 67, 68, 69, 70, 71, 72, 73, 74, 75, 76, 77, 78] (by decide +kernel) (by decide +kernel)
set_option maxRecDepth 20000 in
theorem gX8_fits_X8_isPart : GoodIn wsX8_fits (wsV RX8 82 RX8 yX8_isPart wsX8_isPart) := goodIn_app (goodIn_of _ (by decide +kernel)) ggX8_fits_X8_isPart
set_option maxRecDepth 20000 in
theorem ggX8_fits_X8_copies : GoodIn wsX8_fits wsX8_copies := goodIn_r _ [34] (by decide +kernel) (by decide +kernel)
set_option maxRecDepth 20000 in
theorem gX8_fits_X8_copies : GoodIn wsX8_fits (va_wsS RX8 135 yX8_copies wsX8_copies) := goodIn_app (goodIn_of _ (by decide +kernel)) ggX8_fits_X8_copies
set_option maxRecDepth 20000 in
theorem ggX8_fits_X8_reach : GoodIn wsX8_fits wsX8_reach := goodIn_r _ [37] (by decide +kernel) (by decide +kernel)
set_option maxRecDepth 20000 in
theorem gX8_fits_X8_reach : GoodIn wsX8_fits (va_wsS RX8 166 yX8_reach wsX8_reach) := goodIn_app (goodIn_of _ (by decide +kernel)) ggX8_fits_X8_reach
set_option maxRecDepth 20000 in
theorem ggX8_fits_X8_isSeen : GoodIn wsX8_fits wsX8_isSeen := goodIn_r _ [41, 3, 42, 43, 44, 8, 45, 46, 47, 48, 10, 11, 12, 53, 54, 55, 56, 57, 58, 59, 60, 61, 62, 63, 64, 65, 66, 67, 68, 69, 70, 71, 72, 73, 74, 75, 76, 77, 78] (by decide +kernel) (by decide +kernel)
set_option maxRecDepth 20000 in
theorem gX8_fits_X8_isSeen : GoodIn wsX8_fits (wsV RX8 238 RX8 yX8_isSeen wsX8_isSeen) := goodIn_app (goodIn_of _ (by decide +kernel)) ggX8_fits_X8_isSeen
set_option maxRecDepth 20000 in
theorem ggX8_fits_X8_well : GoodIn wsX8_fits wsX8_well := goodIn_r _ [52, 25, 53, 54, 55, 56, 57, 58, 59, 60, 61, 62, 63, 64, 65, 66, 67, 68, 69, 70, 71, 72, 73, 74, 75, 76, 77, 78] (by decide +kernel) (by decide +kernel)
set_option maxRecDepth 20000 in
theorem gX8_fits_X8_well : GoodIn wsX8_fits (wsV RX8 72 RX8 yX8_well wsX8_well) := goodIn_app (goodIn_of _ (by decide +kernel)) ggX8_fits_X8_well
theorem dX8_fits_0 : decode cX8_fits 0 = .ok (.aload_n 0, 1) := by decide +kernel
theorem dX8_fits_1 : decode cX8_fits 1 = .ok (.iload_n 1, 1) := by decide +kernel
theorem dX8_fits_2 : decode cX8_fits 2 = .ok (.invokevirtual 163, 3) := by decide +kernel
theorem dX8_fits_5 : decode cX8_fits 5 = .ok (.ifCond .eq 34, 3) := by decide +kernel
theorem dX8_fits_8 : decode cX8_fits 8 = .ok (.iload_n 2, 1) := by decide +kernel
theorem dX8_fits_9 : decode cX8_fits 9 = .ok (.invokestatic 63, 3) := by decide +kernel
theorem dX8_fits_12 : decode cX8_fits 12 = .ok (.ifCond .eq 27, 3) := by decide +kernel
theorem dX8_fits_15 : decode cX8_fits 15 = .ok (.iload_n 3, 1) := by decide +kernel
theorem dX8_fits_16 : decode cX8_fits 16 = .ok (.iconst 1, 1) := by decide +kernel
theorem dX8_fits_17 : decode cX8_fits 17 = .ok (.aload_n 0, 1) := by decide +kernel
theorem dX8_fits_18 : decode cX8_fits 18 = .ok (.getfield 25, 3) := by decide +kernel
theorem dX8_fits_21 : decode cX8_fits 21 = .ok (.iconst 0, 1) := by decide +kernel
theorem dX8_fits_22 : decode cX8_fits 22 = .ok (.iaload, 1) := by decide +kernel
theorem dX8_fits_23 : decode cX8_fits 23 = .ok (.invokestatic 59, 3) := by decide +kernel
theorem dX8_fits_26 : decode cX8_fits 26 = .ok (.ifCond .eq 13, 3) := by decide +kernel
theorem dX8_fits_29 : decode cX8_fits 29 = .ok (.iload 4, 2) := by decide +kernel
theorem dX8_fits_31 : decode cX8_fits 31 = .ok (.iconst 0, 1) := by decide +kernel
theorem dX8_fits_32 : decode cX8_fits 32 = .ok (.iconst 2, 1) := by decide +kernel
theorem dX8_fits_33 : decode cX8_fits 33 = .ok (.invokestatic 59, 3) := by decide +kernel
theorem dX8_fits_36 : decode cX8_fits 36 = .ok (.ifCond .ne 6, 3) := by decide +kernel
theorem dX8_fits_39 : decode cX8_fits 39 = .ok (.ldc 67, 2) := by decide +kernel
theorem dX8_fits_41 : decode cX8_fits 41 = .ok (.ireturn, 1) := by decide +kernel
theorem dX8_fits_42 : decode cX8_fits 42 = .ok (.aload_n 0, 1) := by decide +kernel
theorem dX8_fits_43 : decode cX8_fits 43 = .ok (.iload_n 2, 1) := by decide +kernel
theorem dX8_fits_44 : decode cX8_fits 44 = .ok (.invokevirtual 75, 3) := by decide +kernel
theorem dX8_fits_47 : decode cX8_fits 47 = .ok (.ifCond .eq 9, 3) := by decide +kernel
theorem dX8_fits_50 : decode cX8_fits 50 = .ok (.aload_n 0, 1) := by decide +kernel
theorem dX8_fits_51 : decode cX8_fits 51 = .ok (.iconst 1, 1) := by decide +kernel
theorem dX8_fits_52 : decode cX8_fits 52 = .ok (.invokevirtual 68, 3) := by decide +kernel
theorem dX8_fits_55 : decode cX8_fits 55 = .ok (.ireturn, 1) := by decide +kernel
theorem dX8_fits_56 : decode cX8_fits 56 = .ok (.aload_n 0, 1) := by decide +kernel
theorem dX8_fits_57 : decode cX8_fits 57 = .ok (.iload_n 2, 1) := by decide +kernel
theorem dX8_fits_58 : decode cX8_fits 58 = .ok (.iconst 0, 1) := by decide +kernel
theorem dX8_fits_59 : decode cX8_fits 59 = .ok (.iload_n 3, 1) := by decide +kernel
theorem dX8_fits_60 : decode cX8_fits 60 = .ok (.invokevirtual 82, 3) := by decide +kernel
theorem dX8_fits_63 : decode cX8_fits 63 = .ok (.ifCond .ne 9, 3) := by decide +kernel
theorem dX8_fits_66 : decode cX8_fits 66 = .ok (.aload_n 0, 1) := by decide +kernel
theorem dX8_fits_67 : decode cX8_fits 67 = .ok (.iconst 2, 1) := by decide +kernel
theorem dX8_fits_68 : decode cX8_fits 68 = .ok (.invokevirtual 68, 3) := by decide +kernel
theorem dX8_fits_71 : decode cX8_fits 71 = .ok (.ireturn, 1) := by decide +kernel
theorem dX8_fits_72 : decode cX8_fits 72 = .ok (.aload_n 0, 1) := by decide +kernel
theorem dX8_fits_73 : decode cX8_fits 73 = .ok (.getfield 25, 3) := by decide +kernel
theorem dX8_fits_76 : decode cX8_fits 76 = .ok (.iconst 0, 1) := by decide +kernel
theorem dX8_fits_77 : decode cX8_fits 77 = .ok (.aload_n 0, 1) := by decide +kernel
theorem dX8_fits_78 : decode cX8_fits 78 = .ok (.getfield 31, 3) := by decide +kernel
theorem dX8_fits_81 : decode cX8_fits 81 = .ok (.iconst 0, 1) := by decide +kernel
theorem dX8_fits_82 : decode cX8_fits 82 = .ok (.invokestatic 135, 3) := by decide +kernel
theorem dX8_fits_85 : decode cX8_fits 85 = .ok (.iconst 2, 1) := by decide +kernel
theorem dX8_fits_86 : decode cX8_fits 86 = .ok (.iconst 4, 1) := by decide +kernel
theorem dX8_fits_87 : decode cX8_fits 87 = .ok (.iload_n 1, 1) := by decide +kernel
theorem dX8_fits_88 : decode cX8_fits 88 = .ok (.imul, 1) := by decide +kernel
theorem dX8_fits_89 : decode cX8_fits 89 = .ok (.iadd, 1) := by decide +kernel
theorem dX8_fits_90 : decode cX8_fits 90 = .ok (.iload 4, 2) := by decide +kernel
theorem dX8_fits_92 : decode cX8_fits 92 = .ok (.ifCond .ne 7, 3) := by decide +kernel
theorem dX8_fits_95 : decode cX8_fits 95 = .ok (.iconst 3, 1) := by decide +kernel
theorem dX8_fits_96 : decode cX8_fits 96 = .ok (.goto 4, 3) := by decide +kernel
theorem dX8_fits_99 : decode cX8_fits 99 = .ok (.iconst 1, 1) := by decide +kernel
theorem dX8_fits_100 : decode cX8_fits 100 = .ok (.iadd, 1) := by decide +kernel
theorem dX8_fits_101 : decode cX8_fits 101 = .ok (.istore 5, 2) := by decide +kernel
theorem dX8_fits_103 : decode cX8_fits 103 = .ok (.aload_n 0, 1) := by decide +kernel
theorem dX8_fits_104 : decode cX8_fits 104 = .ok (.getfield 25, 3) := by decide +kernel
theorem dX8_fits_107 : decode cX8_fits 107 = .ok (.iload_n 1, 1) := by decide +kernel
theorem dX8_fits_108 : decode cX8_fits 108 = .ok (.invokestatic 166, 3) := by decide +kernel
theorem dX8_fits_111 : decode cX8_fits 111 = .ok (.istore 6, 2) := by decide +kernel
theorem dX8_fits_113 : decode cX8_fits 113 = .ok (.iconst 0, 1) := by decide +kernel
theorem dX8_fits_114 : decode cX8_fits 114 = .ok (.istore 7, 2) := by decide +kernel
theorem dX8_fits_116 : decode cX8_fits 116 = .ok (.iconst 0, 1) := by decide +kernel
theorem dX8_fits_117 : decode cX8_fits 117 = .ok (.istore 8, 2) := by decide +kernel
theorem dX8_fits_119 : decode cX8_fits 119 = .ok (.ldc 53, 2) := by decide +kernel
theorem dX8_fits_121 : decode cX8_fits 121 = .ok (.istore 9, 2) := by decide +kernel
theorem dX8_fits_123 : decode cX8_fits 123 = .ok (.iload 4, 2) := by decide +kernel
theorem dX8_fits_125 : decode cX8_fits 125 = .ok (.ifCond .ne 8, 3) := by decide +kernel
theorem dX8_fits_128 : decode cX8_fits 128 = .ok (.iload 6, 2) := by decide +kernel
theorem dX8_fits_130 : decode cX8_fits 130 = .ok (.goto 5, 3) := by decide +kernel
theorem dX8_fits_133 : decode cX8_fits 133 = .ok (.bipush 60, 2) := by decide +kernel
theorem dX8_fits_135 : decode cX8_fits 135 = .ok (.istore 10, 2) := by decide +kernel
theorem dX8_fits_137 : decode cX8_fits 137 = .ok (.iload 10, 2) := by decide +kernel
theorem dX8_fits_139 : decode cX8_fits 139 = .ok (.iload 4, 2) := by decide +kernel
theorem dX8_fits_141 : decode cX8_fits 141 = .ok (.ifCond .ne 9, 3) := by decide +kernel
theorem dX8_fits_144 : decode cX8_fits 144 = .ok (.iload 6, 2) := by decide +kernel
theorem dX8_fits_146 : decode cX8_fits 146 = .ok (.ineg, 1) := by decide +kernel
theorem dX8_fits_147 : decode cX8_fits 147 = .ok (.goto 4, 3) := by decide +kernel
theorem dX8_fits_150 : decode cX8_fits 150 = .ok (.iconst 0, 1) := by decide +kernel
theorem dX8_fits_151 : decode cX8_fits 151 = .ok (.if_icmp .lt 54, 3) := by decide +kernel
theorem dX8_fits_154 : decode cX8_fits 154 = .ok (.aload_n 0, 1) := by decide +kernel
theorem dX8_fits_155 : decode cX8_fits 155 = .ok (.getfield 31, 3) := by decide +kernel
theorem dX8_fits_158 : decode cX8_fits 158 = .ok (.iload 5, 2) := by decide +kernel
theorem dX8_fits_160 : decode cX8_fits 160 = .ok (.iload 10, 2) := by decide +kernel
theorem dX8_fits_162 : decode cX8_fits 162 = .ok (.iastore, 1) := by decide +kernel
theorem dX8_fits_163 : decode cX8_fits 163 = .ok (.aload_n 0, 1) := by decide +kernel
theorem dX8_fits_164 : decode cX8_fits 164 = .ok (.iload_n 2, 1) := by decide +kernel
theorem dX8_fits_165 : decode cX8_fits 165 = .ok (.iload_n 3, 1) := by decide +kernel
theorem dX8_fits_166 : decode cX8_fits 166 = .ok (.invokevirtual 238, 3) := by decide +kernel
theorem dX8_fits_169 : decode cX8_fits 169 = .ok (.ifCond .eq 30, 3) := by decide +kernel
theorem dX8_fits_172 : decode cX8_fits 172 = .ok (.iload 7, 2) := by decide +kernel
theorem dX8_fits_174 : decode cX8_fits 174 = .ok (.iload 4, 2) := by decide +kernel
theorem dX8_fits_176 : decode cX8_fits 176 = .ok (.ifCond .ne 12, 3) := by decide +kernel
theorem dX8_fits_179 : decode cX8_fits 179 = .ok (.iconst 1, 1) := by decide +kernel
theorem dX8_fits_180 : decode cX8_fits 180 = .ok (.iload 10, 2) := by decide +kernel
theorem dX8_fits_182 : decode cX8_fits 182 = .ok (.iconst 3, 1) := by decide +kernel
theorem dX8_fits_183 : decode cX8_fits 183 = .ok (.iadd, 1) := by decide +kernel
theorem dX8_fits_184 : decode cX8_fits 184 = .ok (.ishl, 1) := by decide +kernel
theorem dX8_fits_185 : decode cX8_fits 185 = .ok (.goto 4, 3) := by decide +kernel
theorem dX8_fits_188 : decode cX8_fits 188 = .ok (.iconst 0, 1) := by decide +kernel
theorem dX8_fits_189 : decode cX8_fits 189 = .ok (.ior, 1) := by decide +kernel
theorem dX8_fits_190 : decode cX8_fits 190 = .ok (.istore 7, 2) := by decide +kernel
theorem dX8_fits_192 : decode cX8_fits 192 = .ok (.iinc 8 1, 3) := by decide +kernel
theorem dX8_fits_195 : decode cX8_fits 195 = .ok (.iload 10, 2) := by decide +kernel
theorem dX8_fits_197 : decode cX8_fits 197 = .ok (.istore 9, 2) := by decide +kernel
theorem dX8_fits_199 : decode cX8_fits 199 = .ok (.iinc 10 (-1), 3) := by decide +kernel
theorem dX8_fits_202 : decode cX8_fits 202 = .ok (.goto (-65), 3) := by decide +kernel
theorem dX8_fits_205 : decode cX8_fits 205 = .ok (.aload_n 0, 1) := by decide +kernel
theorem dX8_fits_206 : decode cX8_fits 206 = .ok (.iload 4, 2) := by decide +kernel
theorem dX8_fits_208 : decode cX8_fits 208 = .ok (.ifCond .ne 8, 3) := by decide +kernel
theorem dX8_fits_211 : decode cX8_fits 211 = .ok (.iload 7, 2) := by decide +kernel
theorem dX8_fits_213 : decode cX8_fits 213 = .ok (.goto 16, 3) := by decide +kernel
theorem dX8_fits_216 : decode cX8_fits 216 = .ok (.iload 4, 2) := by decide +kernel
theorem dX8_fits_218 : decode cX8_fits 218 = .ok (.iconst 1, 1) := by decide +kernel
theorem dX8_fits_219 : decode cX8_fits 219 = .ok (.if_icmp .ne 8, 3) := by decide +kernel
theorem dX8_fits_222 : decode cX8_fits 222 = .ok (.iload 8, 2) := by decide +kernel
theorem dX8_fits_224 : decode cX8_fits 224 = .ok (.goto 5, 3) := by decide +kernel
theorem dX8_fits_227 : decode cX8_fits 227 = .ok (.iload 9, 2) := by decide +kernel
theorem dX8_fits_229 : decode cX8_fits 229 = .ok (.invokevirtual 72, 3) := by decide +kernel
theorem dX8_fits_232 : decode cX8_fits 232 = .ok (.ireturn, 1) := by decide +kernel
def rmX8_fits : Room := { frames := 4, cells := 0, slots := 0, locals := 88 }
def jnX8_fits_189 (x17 : Int32) (x18 : Int32) (x20 : Int32) (M34 : zM) (B137 : Int32 → Int32 → Int32 → Int32 → zM → Prop) (x37 : Int32) : Prop :=
    ∀ x38 : Int32, x38 = x18 + (1 : Int32) →
    ∀ x39 : Int32, x39 = x20 + (-1 : Int32) →
    B137 (x17 ||| x37) x38 x20 x39 M34
def jnX8_fits_151 (o0 : Nat) (x1 : Int32) (x2 : Int32) (x3 : Int32) (x4 : Int32) (x14 : Int32) (x17 : Int32) (x18 : Int32) (x19 : Int32) (x20 : Int32) (M21 : zM) (B137 : Int32 → Int32 → Int32 → Int32 → zM → Prop) (K137_205 : Int32 → Int32 → Int32 → Int32 → zM → Prop) (x33 : Int32) : Prop :=
    ((x20 < x33) → (
    K137_205 x17 x18 x19 x20 M21)) ∧
    ((¬ x20 < x33) → (
    vp_in (((2 : Int32) + ((4 : Int32) * x1)) + x14) 50 ∧
    ∀ M34 : zM, M34 = va_up M21 (o0 + 8) (upd (M21 (o0 + 8)) (((2 : Int32) + ((4 : Int32) * x1)) + x14).toNatClampNeg x20) →
    wX8_isSeen M34 o0 x2 x3 (fun r35 =>
    ((r35 = 0) → (
    ∀ x36 : Int32, x36 = x20 + (-1 : Int32) →
    B137 x17 x18 x19 x36 M34)) ∧
    ((¬ r35 = 0) → (
    ((¬ x4 = 0) → (
    jnX8_fits_189 x17 x18 x20 M34 (B137) (0 : Int32))) ∧
    ((x4 = 0) → (
    jnX8_fits_189 x17 x18 x20 M34 (B137) ((1 : Int32) <<< ((x20 + (3 : Int32)) &&& 31)))))))))
def lpX8_fits_137 (o0 : Nat) (x1 : Int32) (x2 : Int32) (x3 : Int32) (x4 : Int32) (x14 : Int32) (r15 : Int32) (K137_205 : Int32 → Int32 → Int32 → Int32 → zM → Prop) : Nat → Int32 → Int32 → Int32 → Int32 → zM → Prop
  | 0, _, _, _, _, _ => False
  | fu137 + 1, x17, x18, x19, x20, M21 =>
    ((¬ x4 = 0) → (
    jnX8_fits_151 o0 x1 x2 x3 x4 x14 x17 x18 x19 x20 M21 (lpX8_fits_137 o0 x1 x2 x3 x4 x14 r15 K137_205 fu137) K137_205 (0 : Int32))) ∧
    ((x4 = 0) → (
    jnX8_fits_151 o0 x1 x2 x3 x4 x14 x17 x18 x19 x20 M21 (lpX8_fits_137 o0 x1 x2 x3 x4 x14 r15 K137_205 fu137) K137_205 (-r15)))
def jnX8_fits_135 (o0 : Nat) (x1 : Int32) (x2 : Int32) (x3 : Int32) (x4 : Int32) (M13 : zM) (x14 : Int32) (r15 : Int32) (Q : Int32 → zM → Prop) (x16 : Int32) : Prop :=
    ∃ fu137 : Nat, lpX8_fits_137 o0 x1 x2 x3 x4 x14 r15 (fun x22 x23 x24 x25 M26 =>
    ((¬ x4 = 0) → (
    ((¬ x4 = (1 : Int32)) → (
    wX8_well M26 o0 x24 (fun r27 M28 =>
    Q r27 M28))) ∧
    ((x4 = (1 : Int32)) → (
    wX8_well M26 o0 x23 (fun r29 M30 =>
    Q r29 M30))))) ∧
    ((x4 = 0) → (
    wX8_well M26 o0 x22 (fun r31 M32 =>
    Q r31 M32)))) fu137 (0 : Int32) (0 : Int32) (-1000000 : Int32) x16 M13
def jnX8_fits_100 (o0 : Nat) (x1 : Int32) (x2 : Int32) (x3 : Int32) (x4 : Int32) (M13 : zM) (Q : Int32 → zM → Prop) (x14 : Int32) : Prop :=
    wX8_reach M13 (o0 + 6) 50 x1 (fun r15 =>
    ((¬ x4 = 0) → (
    jnX8_fits_135 o0 x1 x2 x3 x4 M13 x14 r15 Q (60 : Int32))) ∧
    ((x4 = 0) → (
    jnX8_fits_135 o0 x1 x2 x3 x4 M13 x14 r15 Q r15)))
def wX8_fits (M : zM) (o0 : Nat) (x1 : Int32) (x2 : Int32) (x3 : Int32) (x4 : Int32) (Q : Int32 → zM → Prop) : Prop :=
    wX8_isPeg M o0 x1 (fun r7 =>
    ((r7 = 0) → (
    Q (-1000001 : Int32) M)) ∧
    ((¬ r7 = 0) → (
    wX8_isRow M x2 (fun r8 =>
    ((r8 = 0) → (
    Q (-1000001 : Int32) M)) ∧
    ((¬ r8 = 0) → (
    wX8_in M x3 (1 : Int32) (M (o0 + 6) (0 : Int32).toNatClampNeg) (fun r9 =>
    ((r9 = 0) → (
    Q (-1000001 : Int32) M)) ∧
    ((¬ r9 = 0) → (
    wX8_in M x4 (0 : Int32) (2 : Int32) (fun r10 =>
    ((¬ r10 = 0) → (
    wX8_isMissing M o0 x2 (fun r11 =>
    ((r11 = 0) → (
    wX8_isPart M o0 x2 (0 : Int32) x3 (fun r12 =>
    ((¬ r12 = 0) → (
    wX8_copies M (o0 + 6) 50 (0 : Int32) (o0 + 8) 50 (0 : Int32) (fun M13 =>
    ((¬ x4 = 0) → (
    jnX8_fits_100 o0 x1 x2 x3 x4 M13 Q (1 : Int32))) ∧
    ((x4 = 0) → (
    jnX8_fits_100 o0 x1 x2 x3 x4 M13 Q (3 : Int32)))))) ∧
    ((r12 = 0) → (
    wX8_found M o0 (2 : Int32) (fun r40 M41 =>
    Q r40 M41)))))) ∧
    ((¬ r11 = 0) → (
    wX8_found M o0 (1 : Int32) (fun r42 M43 =>
    Q r42 M43)))))) ∧
    ((r10 = 0) → (
    Q (-1000001 : Int32) M))))))))))))
set_option maxHeartbeats 4000000 in
set_option maxRecDepth 100000 in
theorem kX8_fits {l : Launch} {D : va_G} {Y : zY} {ad kd : Nat → Nat} {RL : List Nat} {M : zM} {J : zL} {o0 : Nat} {x1 : Int32} {x2 : Int32} {x3 : Int32} {x4 : Int32} (h_o0 : kd o0 = 8) {Q : Int32 → zM → Prop} (hq : wX8_fits M o0 x1 x2 x3 x4 Q) : zCi l yX8_fits wsX8_fits rmX8_fits [.ref (ad o0), .int x1, .int x2, .int x3, .int x4] D Y ad kd RL M J (fun r M' J' => Q r M' ∧ J = J') := by
  refine z_meti (cc := cX8_fits) (maxL := 11) (ret := (some .int)) (by decide) rfl (Nat.le_of_ble_eq_true rfl) ?_
  intro p e s m below meth c ls A ar QE hQE hx hb hr hml hown hts hlk hw hl
  have hown : s.vm.findClass RX8 = some m.cls := hown
  have hl : lv_has ls 11 [(0, .ref (ad o0)), (1, .int x1), (2, .int x2), (3, .int x3), (4, .int x4)] := hl
  have hC := hw.2.2.2.2.2.1
  have g8 : ∀ w ∈ wsX80, w.before ar s = true := (fun w h => hts w (List.mem_cons_of_mem _ (List.mem_append_right _ h)))
  have q1 := hts _ (List.mem_of_getElem? (i := 1) rfl)
  have q2 := hts _ (List.mem_of_getElem? (i := 2) rfl)
  have q3 := hts _ (List.mem_of_getElem? (i := 3) rfl)
  have q4 := hts _ (List.mem_of_getElem? (i := 4) rfl)
  unfold wX8_fits at hq
  refine lv_aload_n hx hb dX8_fits_0 rfl (lv_at hl 0 rfl) ?_
  refine lv_iload_n hx hb dX8_fits_1 rfl (lv_at hl 1 rfl) ?_
  refine z_cvi ⟨hx, hb, hml, hown, hts⟩ hw h_o0 (kX8_isPeg h_o0 hq) (by decide) rfl (cwV 1 hts gX8_fits_X8_isPeg rfl rfl rfl (by decide +kernel) ⟨Nat.le_of_ble_eq_true rfl, Nat.le_of_ble_eq_true rfl⟩) rfl hl.1 rfl (Nat.le_of_ble_eq_true rfl) dX8_fits_2 ⟨Nat.zero_le _, Nat.zero_le _⟩ (fun r7 M0 J0 H locs hq hw => ?_)
  obtain ⟨hq, rfl, rfl⟩ := hq
  refine lv_if_eq (tgt := 39) hx hb dX8_fits_5 (by decide) (fun hc => ?_) (fun hc => ?_)
  · have hq := hq.1 hc
    refine lv_ldc (v := (-1000001 : Int32)) hx hb hown q2 dX8_fits_39 ?_
    exact z_iret hQE hx hb hr hlk hw dX8_fits_41 ⟨hq, rfl⟩
  · have hq := hq.2 hc
    refine lv_iload_n hx hb dX8_fits_8 rfl (lv_at hl 2 rfl) ?_
    refine z_csi ⟨hx, hb, hml, hown, hts⟩ hw (kX8_isRow  hq) (va_cwS 1 hts gX8_fits_X8_isRow rfl rfl rfl (by decide +kernel) ⟨Nat.le_of_ble_eq_true rfl, Nat.le_of_ble_eq_true rfl⟩) rfl hl.1 rfl (Nat.le_of_ble_eq_true rfl) dX8_fits_9 ⟨Nat.zero_le _, Nat.zero_le _⟩ (fun r8 M0 J0 H locs hq hw => ?_)
    obtain ⟨hq, rfl, rfl⟩ := hq
    refine lv_if_eq (tgt := 39) hx hb dX8_fits_12 (by decide) (fun hc => ?_) (fun hc => ?_)
    · have hq := hq.1 hc
      refine lv_ldc (v := (-1000001 : Int32)) hx hb hown q2 dX8_fits_39 ?_
      exact z_iret hQE hx hb hr hlk hw dX8_fits_41 ⟨hq, rfl⟩
    · have hq := hq.2 hc
      refine lv_iload_n hx hb dX8_fits_15 rfl (lv_at hl 3 rfl) ?_
      refine lv_iconst (v := (1 : Int32)) hx hb dX8_fits_16 (by decide) ?_
      refine lv_aload_n hx hb dX8_fits_17 rfl (lv_at hl 0 rfl) ?_
      refine zg8_now hx hb g8 hown hw h_o0 q1 dX8_fits_18 ?_
      refine lv_iconst (v := (0 : Int32)) hx hb dX8_fits_21 (by decide) ?_
      have hi : vp_in (0 : Int32) 50 := by unfold vp_in; decide
      refine z_iald (n := 50) hx hb hw (zk_8_6 hC h_o0) hi dX8_fits_22 ?_
      refine z_csi ⟨hx, hb, hml, hown, hts⟩ hw (kX8_in  hq) (va_cwS 3 hts gX8_fits_X8_in rfl rfl rfl (by decide +kernel) ⟨Nat.le_of_ble_eq_true rfl, Nat.le_of_ble_eq_true rfl⟩) rfl hl.1 rfl (Nat.le_of_ble_eq_true rfl) dX8_fits_23 ⟨Nat.zero_le _, Nat.zero_le _⟩ (fun r9 M0 J0 H locs hq hw => ?_)
      obtain ⟨hq, rfl, rfl⟩ := hq
      refine lv_if_eq (tgt := 39) hx hb dX8_fits_26 (by decide) (fun hc => ?_) (fun hc => ?_)
      · have hq := hq.1 hc
        refine lv_ldc (v := (-1000001 : Int32)) hx hb hown q2 dX8_fits_39 ?_
        exact z_iret hQE hx hb hr hlk hw dX8_fits_41 ⟨hq, rfl⟩
      · have hq := hq.2 hc
        refine lv_iload hx hb dX8_fits_29 (lv_at hl 4 rfl) ?_
        refine lv_iconst (v := (0 : Int32)) hx hb dX8_fits_31 (by decide) ?_
        refine lv_iconst (v := (2 : Int32)) hx hb dX8_fits_32 (by decide) ?_
        refine z_csi ⟨hx, hb, hml, hown, hts⟩ hw (kX8_in  hq) (va_cwS 3 hts gX8_fits_X8_in rfl rfl rfl (by decide +kernel) ⟨Nat.le_of_ble_eq_true rfl, Nat.le_of_ble_eq_true rfl⟩) rfl hl.1 rfl (Nat.le_of_ble_eq_true rfl) dX8_fits_33 ⟨Nat.zero_le _, Nat.zero_le _⟩ (fun r10 M0 J0 H locs hq hw => ?_)
        obtain ⟨hq, rfl, rfl⟩ := hq
        refine lv_if_ne (tgt := 42) hx hb dX8_fits_36 (by decide) (fun hc => ?_) (fun hc => ?_)
        · have hq := hq.1 hc
          refine lv_aload_n hx hb dX8_fits_42 rfl (lv_at hl 0 rfl) ?_
          refine lv_iload_n hx hb dX8_fits_43 rfl (lv_at hl 2 rfl) ?_
          refine z_cvi ⟨hx, hb, hml, hown, hts⟩ hw h_o0 (kX8_isMissing h_o0 hq) (by decide) rfl (cwV 1 hts gX8_fits_X8_isMissing rfl rfl rfl (by decide +kernel) ⟨Nat.le_of_ble_eq_true rfl, Nat.le_of_ble_eq_true rfl⟩) rfl hl.1 rfl (Nat.le_of_ble_eq_true rfl) dX8_fits_44 ⟨Nat.zero_le _, Nat.zero_le _⟩ (fun r11 M0 J0 H locs hq hw => ?_)
          obtain ⟨hq, rfl, rfl⟩ := hq
          refine lv_if_eq (tgt := 56) hx hb dX8_fits_47 (by decide) (fun hc => ?_) (fun hc => ?_)
          · have hq := hq.1 hc
            refine lv_aload_n hx hb dX8_fits_56 rfl (lv_at hl 0 rfl) ?_
            refine lv_iload_n hx hb dX8_fits_57 rfl (lv_at hl 2 rfl) ?_
            refine lv_iconst (v := (0 : Int32)) hx hb dX8_fits_58 (by decide) ?_
            refine lv_iload_n hx hb dX8_fits_59 rfl (lv_at hl 3 rfl) ?_
            refine z_cvi ⟨hx, hb, hml, hown, hts⟩ hw h_o0 (kX8_isPart h_o0 hq) (by decide) rfl (cwV 3 hts gX8_fits_X8_isPart rfl rfl rfl (by decide +kernel) ⟨Nat.le_of_ble_eq_true rfl, Nat.le_of_ble_eq_true rfl⟩) rfl hl.1 rfl (Nat.le_of_ble_eq_true rfl) dX8_fits_60 ⟨Nat.zero_le _, Nat.zero_le _⟩ (fun r12 M0 J0 H locs hq hw => ?_)
            obtain ⟨hq, rfl, rfl⟩ := hq
            refine lv_if_ne (tgt := 72) hx hb dX8_fits_63 (by decide) (fun hc => ?_) (fun hc => ?_)
            · have hq := hq.1 hc
              refine lv_aload_n hx hb dX8_fits_72 rfl (lv_at hl 0 rfl) ?_
              refine zg8_now hx hb g8 hown hw h_o0 q1 dX8_fits_73 ?_
              refine lv_iconst (v := (0 : Int32)) hx hb dX8_fits_76 (by decide) ?_
              refine lv_aload_n hx hb dX8_fits_77 rfl (lv_at hl 0 rfl) ?_
              refine zg8_tried hx hb g8 hown hw h_o0 q3 dX8_fits_78 ?_
              refine lv_iconst (v := (0 : Int32)) hx hb dX8_fits_81 (by decide) ?_
              refine z_csv ⟨hx, hb, hml, hown, hts⟩ hw (kX8_copies (zk_8_6 hC h_o0) (zk_8_8 hC h_o0) hq) (va_cwS 4 hts gX8_fits_X8_copies rfl rfl rfl (by decide +kernel) ⟨Nat.le_of_ble_eq_true rfl, Nat.le_of_ble_eq_true rfl⟩) rfl hl.1 rfl (Nat.le_of_ble_eq_true rfl) dX8_fits_82 ⟨Nat.zero_le _, Nat.zero_le _⟩ (fun M13 J0 H locs hq hw => ?_)
              obtain ⟨hq, rfl⟩ := hq
              refine lv_iconst (v := (2 : Int32)) hx hb dX8_fits_85 (by decide) ?_
              refine lv_iconst (v := (4 : Int32)) hx hb dX8_fits_86 (by decide) ?_
              refine lv_iload_n hx hb dX8_fits_87 rfl (lv_at hl 1 rfl) ?_
              refine lv_imul hx hb dX8_fits_88 ?_
              refine lv_iadd hx hb dX8_fits_89 ?_
              refine lv_iload hx hb dX8_fits_90 (lv_at hl 4 rfl) ?_
              have jn100 : ∀ (x14 : Int32) (H : Heap) (locs : List Loc) (ls : Array Slot), jnX8_fits_100 o0 x1 x2 x3 x4 M13 Q x14 → zH D Y ad kd RL M13 J A s.heap H locs s → lv_has ls 11 [(0, .ref (ad o0)), (1, .int x1), (2, .int x2), (3, .int x3), (4, .int x4)] → W p l e rmX8_fits s m ar below meth c H locs 0 0 QE (F0 m 100 ls [.int x14, .int ((2 : Int32) + ((4 : Int32) * x1))]) := by
                intro x14 H locs ls hq hw hl
                unfold jnX8_fits_100 at hq
                refine lv_iadd hx hb dX8_fits_100 ?_
                refine lv_istore (lv' := [(5, .int (((2 : Int32) + ((4 : Int32) * x1)) + x14)), (0, .ref (ad o0)), (1, .int x1), (2, .int x2), (3, .int x3), (4, .int x4)]) hx hb dX8_fits_101 hl (by decide) rfl (fun ls hl => ?_)
                refine lv_aload_n hx hb dX8_fits_103 rfl (lv_at hl 1 rfl) ?_
                refine zg8_now hx hb g8 hown hw h_o0 q1 dX8_fits_104 ?_
                refine lv_iload_n hx hb dX8_fits_107 rfl (lv_at hl 2 rfl) ?_
                refine z_csi ⟨hx, hb, hml, hown, hts⟩ hw (kX8_reach (zk_8_6 hC h_o0) hq) (va_cwS 2 hts gX8_fits_X8_reach rfl rfl rfl (by decide +kernel) ⟨Nat.le_of_ble_eq_true rfl, Nat.le_of_ble_eq_true rfl⟩) rfl hl.1 rfl (Nat.le_of_ble_eq_true rfl) dX8_fits_108 ⟨Nat.zero_le _, Nat.zero_le _⟩ (fun r15 M0 J0 H locs hq hw => ?_)
                obtain ⟨hq, rfl, rfl⟩ := hq
                refine lv_istore (lv' := [(6, .int r15), (5, .int (((2 : Int32) + ((4 : Int32) * x1)) + x14)), (0, .ref (ad o0)), (1, .int x1), (2, .int x2), (3, .int x3), (4, .int x4)]) hx hb dX8_fits_111 hl (by decide) rfl (fun ls hl => ?_)
                refine lv_iconst (v := (0 : Int32)) hx hb dX8_fits_113 (by decide) ?_
                refine lv_istore (lv' := [(7, .int (0 : Int32)), (6, .int r15), (5, .int (((2 : Int32) + ((4 : Int32) * x1)) + x14)), (0, .ref (ad o0)), (1, .int x1), (2, .int x2), (3, .int x3), (4, .int x4)]) hx hb dX8_fits_114 hl (by decide) rfl (fun ls hl => ?_)
                refine lv_iconst (v := (0 : Int32)) hx hb dX8_fits_116 (by decide) ?_
                refine lv_istore (lv' := [(8, .int (0 : Int32)), (7, .int (0 : Int32)), (6, .int r15), (5, .int (((2 : Int32) + ((4 : Int32) * x1)) + x14)), (0, .ref (ad o0)), (1, .int x1), (2, .int x2), (3, .int x3), (4, .int x4)]) hx hb dX8_fits_117 hl (by decide) rfl (fun ls hl => ?_)
                refine lv_ldc (v := (-1000000 : Int32)) hx hb hown q4 dX8_fits_119 ?_
                refine lv_istore (lv' := [(9, .int (-1000000 : Int32)), (8, .int (0 : Int32)), (7, .int (0 : Int32)), (6, .int r15), (5, .int (((2 : Int32) + ((4 : Int32) * x1)) + x14)), (0, .ref (ad o0)), (1, .int x1), (2, .int x2), (3, .int x3), (4, .int x4)]) hx hb dX8_fits_121 hl (by decide) rfl (fun ls hl => ?_)
                refine lv_iload hx hb dX8_fits_123 (lv_at hl 9 rfl) ?_
                have jn135 : ∀ (x16 : Int32) (H : Heap) (locs : List Loc) (ls : Array Slot), jnX8_fits_135 o0 x1 x2 x3 x4 M13 x14 r15 Q x16 → zH D Y ad kd RL M13 J A s.heap H locs s → lv_has ls 11 [(0, .ref (ad o0)), (2, .int x2), (3, .int x3), (4, .int x4), (5, .int (((2 : Int32) + ((4 : Int32) * x1)) + x14)), (6, .int r15), (7, .int (0 : Int32)), (8, .int (0 : Int32)), (9, .int (-1000000 : Int32))] → W p l e rmX8_fits s m ar below meth c H locs 0 0 QE (F0 m 135 ls [.int x16]) := by
                  intro x16 H locs ls hq hw hl
                  unfold jnX8_fits_135 at hq
                  refine lv_istore (lv' := [(10, .int x16), (0, .ref (ad o0)), (2, .int x2), (3, .int x3), (4, .int x4), (5, .int (((2 : Int32) + ((4 : Int32) * x1)) + x14)), (6, .int r15), (7, .int (0 : Int32)), (8, .int (0 : Int32)), (9, .int (-1000000 : Int32))]) hx hb dX8_fits_135 hl (by decide) rfl (fun ls hl => ?_)
                  have ex137_205 : ∀ (x22 : Int32) (x23 : Int32) (x24 : Int32) (x25 : Int32) (M26 : zM) (H : Heap) (locs : List Loc) (ls : Array Slot), (((¬ x4 = 0) → ( ((¬ x4 = (1 : Int32)) → ( wX8_well M26 o0 x24 (fun r27 M28 => Q r27 M28))) ∧ ((x4 = (1 : Int32)) → ( wX8_well M26 o0 x23 (fun r29 M30 => Q r29 M30))))) ∧ ((x4 = 0) → ( wX8_well M26 o0 x22 (fun r31 M32 => Q r31 M32)))) → zH D Y ad kd RL M26 J A s.heap H locs s → lv_has ls 11 [(0, .ref (ad o0)), (4, .int x4), (7, .int x22), (8, .int x23), (9, .int x24)] → W p l e rmX8_fits s m ar below meth c H locs 0 0 QE (F0 m 205 ls []) := by
                    intro x22 x23 x24 x25 M26 H locs ls hq hw hl
                    refine lv_aload_n hx hb dX8_fits_205 rfl (lv_at hl 0 rfl) ?_
                    refine lv_iload hx hb dX8_fits_206 (lv_at hl 1 rfl) ?_
                    refine lv_if_ne (tgt := 216) hx hb dX8_fits_208 (by decide) (fun hc => ?_) (fun hc => ?_)
                    · have hq := hq.1 hc
                      refine lv_iload hx hb dX8_fits_216 (lv_at hl 1 rfl) ?_
                      refine lv_iconst (v := (1 : Int32)) hx hb dX8_fits_218 (by decide) ?_
                      refine lv_icmp_ne (tgt := 227) hx hb dX8_fits_219 (by decide) (fun hc => ?_) (fun hc => ?_)
                      · have hq := hq.1 hc
                        refine lv_iload hx hb dX8_fits_227 (lv_at hl 4 rfl) ?_
                        refine z_cvi ⟨hx, hb, hml, hown, hts⟩ hw h_o0 (kX8_well h_o0 hq) (by decide) rfl (cwV 1 hts gX8_fits_X8_well rfl rfl rfl (by decide +kernel) ⟨Nat.le_of_ble_eq_true rfl, Nat.le_of_ble_eq_true rfl⟩) rfl hl.1 rfl (Nat.le_of_ble_eq_true rfl) dX8_fits_229 ⟨Nat.zero_le _, Nat.zero_le _⟩ (fun r27 M28 J0 H locs hq hw => ?_)
                        obtain ⟨hq, rfl⟩ := hq
                        exact z_iret hQE hx hb hr hlk hw dX8_fits_232 ⟨hq, rfl⟩
                      · have hq := hq.2 hc
                        refine lv_iload hx hb dX8_fits_222 (lv_at hl 3 rfl) ?_
                        refine lv_goto (tgt := 229) hx hb dX8_fits_224 (by decide) ?_
                        refine z_cvi ⟨hx, hb, hml, hown, hts⟩ hw h_o0 (kX8_well h_o0 hq) (by decide) rfl (cwV 1 hts gX8_fits_X8_well rfl rfl rfl (by decide +kernel) ⟨Nat.le_of_ble_eq_true rfl, Nat.le_of_ble_eq_true rfl⟩) rfl hl.1 rfl (Nat.le_of_ble_eq_true rfl) dX8_fits_229 ⟨Nat.zero_le _, Nat.zero_le _⟩ (fun r29 M30 J0 H locs hq hw => ?_)
                        obtain ⟨hq, rfl⟩ := hq
                        exact z_iret hQE hx hb hr hlk hw dX8_fits_232 ⟨hq, rfl⟩
                    · have hq := hq.2 hc
                      refine lv_iload hx hb dX8_fits_211 (lv_at hl 2 rfl) ?_
                      refine lv_goto (tgt := 229) hx hb dX8_fits_213 (by decide) ?_
                      refine z_cvi ⟨hx, hb, hml, hown, hts⟩ hw h_o0 (kX8_well h_o0 hq) (by decide) rfl (cwV 1 hts gX8_fits_X8_well rfl rfl rfl (by decide +kernel) ⟨Nat.le_of_ble_eq_true rfl, Nat.le_of_ble_eq_true rfl⟩) rfl hl.1 rfl (Nat.le_of_ble_eq_true rfl) dX8_fits_229 ⟨Nat.zero_le _, Nat.zero_le _⟩ (fun r31 M32 J0 H locs hq hw => ?_)
                      obtain ⟨hq, rfl⟩ := hq
                      exact z_iret hQE hx hb hr hlk hw dX8_fits_232 ⟨hq, rfl⟩
                  obtain ⟨fu137, hq⟩ := hq
                  have lp137 : ∀ (fu137 : Nat) (x17 : Int32) (x18 : Int32) (x19 : Int32) (x20 : Int32) (M21 : zM) (H : Heap) (locs : List Loc) (ls : Array Slot), lpX8_fits_137 o0 x1 x2 x3 x4 x14 r15 (fun x22 x23 x24 x25 M26 => ((¬ x4 = 0) → ( ((¬ x4 = (1 : Int32)) → ( wX8_well M26 o0 x24 (fun r27 M28 => Q r27 M28))) ∧ ((x4 = (1 : Int32)) → ( wX8_well M26 o0 x23 (fun r29 M30 => Q r29 M30))))) ∧ ((x4 = 0) → ( wX8_well M26 o0 x22 (fun r31 M32 => Q r31 M32)))) fu137 x17 x18 x19 x20 M21 → zH D Y ad kd RL M21 J A s.heap H locs s → lv_has ls 11 [(0, .ref (ad o0)), (2, .int x2), (3, .int x3), (4, .int x4), (5, .int (((2 : Int32) + ((4 : Int32) * x1)) + x14)), (6, .int r15), (7, .int x17), (8, .int x18), (9, .int x19), (10, .int x20)] → W p l e rmX8_fits s m ar below meth c H locs 0 0 QE (F0 m 137 ls []) := by
                    intro fu137
                    induction fu137 with
                    | zero => intro x17 x18 x19 x20 M21 H locs ls hq; exact hq.elim
                    | succ fu137 ih137 =>
                      intro x17 x18 x19 x20 M21 H locs ls hq hw hl
                      unfold lpX8_fits_137 at hq
                      refine lv_iload hx hb dX8_fits_137 (lv_at hl 9 rfl) ?_
                      refine lv_iload hx hb dX8_fits_139 (lv_at hl 3 rfl) ?_
                      have jn151 : ∀ (x33 : Int32) (H : Heap) (locs : List Loc) (ls : Array Slot), jnX8_fits_151 o0 x1 x2 x3 x4 x14 x17 x18 x19 x20 M21 (lpX8_fits_137 o0 x1 x2 x3 x4 x14 r15 (fun x22 x23 x24 x25 M26 => ((¬ x4 = 0) → ( ((¬ x4 = (1 : Int32)) → ( wX8_well M26 o0 x24 (fun r27 M28 => Q r27 M28))) ∧ ((x4 = (1 : Int32)) → ( wX8_well M26 o0 x23 (fun r29 M30 => Q r29 M30))))) ∧ ((x4 = 0) → ( wX8_well M26 o0 x22 (fun r31 M32 => Q r31 M32)))) fu137) (fun x22 x23 x24 x25 M26 => ((¬ x4 = 0) → ( ((¬ x4 = (1 : Int32)) → ( wX8_well M26 o0 x24 (fun r27 M28 => Q r27 M28))) ∧ ((x4 = (1 : Int32)) → ( wX8_well M26 o0 x23 (fun r29 M30 => Q r29 M30))))) ∧ ((x4 = 0) → ( wX8_well M26 o0 x22 (fun r31 M32 => Q r31 M32)))) x33 → zH D Y ad kd RL M21 J A s.heap H locs s → lv_has ls 11 [(0, .ref (ad o0)), (2, .int x2), (3, .int x3), (4, .int x4), (5, .int (((2 : Int32) + ((4 : Int32) * x1)) + x14)), (6, .int r15), (7, .int x17), (8, .int x18), (9, .int x19), (10, .int x20)] → W p l e rmX8_fits s m ar below meth c H locs 0 0 QE (F0 m 151 ls [.int x33, .int x20]) := by
                        intro x33 H locs ls hq hw hl
                        unfold jnX8_fits_151 at hq
                        refine lv_icmp_lt (tgt := 205) hx hb dX8_fits_151 (by decide) (fun hc => ?_) (fun hc => ?_)
                        · have hq := hq.1 hc
                          exact ex137_205 x17 x18 x19 x20 M21 _ _ _ hq hw (lv_sub hl [0, 3, 6, 7, 8] rfl)
                        · have hq := hq.2 hc
                          refine lv_aload_n hx hb dX8_fits_154 rfl (lv_at hl 0 rfl) ?_
                          refine zg8_tried hx hb g8 hown hw h_o0 q3 dX8_fits_155 ?_
                          refine lv_iload hx hb dX8_fits_158 (lv_at hl 4 rfl) ?_
                          refine lv_iload hx hb dX8_fits_160 (lv_at hl 9 rfl) ?_
                          obtain ⟨hi, hq⟩ := hq
                          refine z_iast (n := 50) hx hb hw (zk_8_8 hC h_o0) hi dX8_fits_162 (fun H locs hw => ?_)
                          obtain ⟨M34, e_M34⟩ : ∃ y : zM, y = va_up M21 (o0 + 8) (upd (M21 (o0 + 8)) (((2 : Int32) + ((4 : Int32) * x1)) + x14).toNatClampNeg x20) := ⟨_, rfl⟩
                          rw [← e_M34] at hw
                          have hq := hq M34 e_M34
                          refine lv_aload_n hx hb dX8_fits_163 rfl (lv_at hl 0 rfl) ?_
                          refine lv_iload_n hx hb dX8_fits_164 rfl (lv_at hl 1 rfl) ?_
                          refine lv_iload_n hx hb dX8_fits_165 rfl (lv_at hl 2 rfl) ?_
                          refine z_cvi ⟨hx, hb, hml, hown, hts⟩ hw h_o0 (kX8_isSeen h_o0 hq) (by decide) rfl (cwV 2 hts gX8_fits_X8_isSeen rfl rfl rfl (by decide +kernel) ⟨Nat.le_of_ble_eq_true rfl, Nat.le_of_ble_eq_true rfl⟩) rfl hl.1 rfl (Nat.le_of_ble_eq_true rfl) dX8_fits_166 ⟨Nat.zero_le _, Nat.zero_le _⟩ (fun r35 M0 J0 H locs hq hw => ?_)
                          obtain ⟨hq, rfl, rfl⟩ := hq
                          refine lv_if_eq (tgt := 199) hx hb dX8_fits_169 (by decide) (fun hc => ?_) (fun hc => ?_)
                          · have hq := hq.1 hc
                            obtain ⟨x36, e_x36⟩ : ∃ y : Int32, y = x20 + (-1 : Int32) := ⟨_, rfl⟩
                            have hq := hq x36 e_x36
                            refine lv_iinc (v := x36) (lv' := [(10, .int x36), (0, .ref (ad o0)), (2, .int x2), (3, .int x3), (4, .int x4), (5, .int (((2 : Int32) + ((4 : Int32) * x1)) + x14)), (6, .int r15), (7, .int x17), (8, .int x18), (9, .int x19)]) hx hb dX8_fits_199 hl (k := 9) rfl (by rw [e_x36]; rfl) (by decide) rfl (fun ls hl => ?_)
                            refine lv_goto (tgt := 137) hx hb dX8_fits_202 (by decide) ?_
                            exact ih137 x17 x18 x19 x36 M34 _ _ _ hq hw (lv_sub hl [1, 2, 3, 4, 5, 6, 7, 8, 9, 0] rfl)
                          · have hq := hq.2 hc
                            refine lv_iload hx hb dX8_fits_172 (lv_at hl 6 rfl) ?_
                            refine lv_iload hx hb dX8_fits_174 (lv_at hl 3 rfl) ?_
                            have jn189 : ∀ (x37 : Int32) (H : Heap) (locs : List Loc) (ls : Array Slot), jnX8_fits_189 x17 x18 x20 M34 (lpX8_fits_137 o0 x1 x2 x3 x4 x14 r15 (fun x22 x23 x24 x25 M26 => ((¬ x4 = 0) → ( ((¬ x4 = (1 : Int32)) → ( wX8_well M26 o0 x24 (fun r27 M28 => Q r27 M28))) ∧ ((x4 = (1 : Int32)) → ( wX8_well M26 o0 x23 (fun r29 M30 => Q r29 M30))))) ∧ ((x4 = 0) → ( wX8_well M26 o0 x22 (fun r31 M32 => Q r31 M32)))) fu137) x37 → zH D Y ad kd RL M34 J A s.heap H locs s → lv_has ls 11 [(0, .ref (ad o0)), (2, .int x2), (3, .int x3), (4, .int x4), (5, .int (((2 : Int32) + ((4 : Int32) * x1)) + x14)), (6, .int r15), (8, .int x18), (10, .int x20)] → W p l e rmX8_fits s m ar below meth c H locs 0 0 QE (F0 m 189 ls [.int x37, .int x17]) := by
                              intro x37 H locs ls hq hw hl
                              unfold jnX8_fits_189 at hq
                              refine lv_ior hx hb dX8_fits_189 ?_
                              refine lv_istore (lv' := [(7, .int (x17 ||| x37)), (0, .ref (ad o0)), (2, .int x2), (3, .int x3), (4, .int x4), (5, .int (((2 : Int32) + ((4 : Int32) * x1)) + x14)), (6, .int r15), (8, .int x18), (10, .int x20)]) hx hb dX8_fits_190 hl (by decide) rfl (fun ls hl => ?_)
                              obtain ⟨x38, e_x38⟩ : ∃ y : Int32, y = x18 + (1 : Int32) := ⟨_, rfl⟩
                              have hq := hq x38 e_x38
                              refine lv_iinc (v := x38) (lv' := [(8, .int x38), (7, .int (x17 ||| x37)), (0, .ref (ad o0)), (2, .int x2), (3, .int x3), (4, .int x4), (5, .int (((2 : Int32) + ((4 : Int32) * x1)) + x14)), (6, .int r15), (10, .int x20)]) hx hb dX8_fits_192 hl (k := 7) rfl (by rw [e_x38]; rfl) (by decide) rfl (fun ls hl => ?_)
                              refine lv_iload hx hb dX8_fits_195 (lv_at hl 8 rfl) ?_
                              refine lv_istore (lv' := [(9, .int x20), (8, .int x38), (7, .int (x17 ||| x37)), (0, .ref (ad o0)), (2, .int x2), (3, .int x3), (4, .int x4), (5, .int (((2 : Int32) + ((4 : Int32) * x1)) + x14)), (6, .int r15), (10, .int x20)]) hx hb dX8_fits_197 hl (by decide) rfl (fun ls hl => ?_)
                              obtain ⟨x39, e_x39⟩ : ∃ y : Int32, y = x20 + (-1 : Int32) := ⟨_, rfl⟩
                              have hq := hq x39 e_x39
                              refine lv_iinc (v := x39) (lv' := [(10, .int x39), (9, .int x20), (8, .int x38), (7, .int (x17 ||| x37)), (0, .ref (ad o0)), (2, .int x2), (3, .int x3), (4, .int x4), (5, .int (((2 : Int32) + ((4 : Int32) * x1)) + x14)), (6, .int r15)]) hx hb dX8_fits_199 hl (k := 9) rfl (by rw [e_x39]; rfl) (by decide) rfl (fun ls hl => ?_)
                              refine lv_goto (tgt := 137) hx hb dX8_fits_202 (by decide) ?_
                              exact ih137 (x17 ||| x37) x38 x20 x39 M34 _ _ _ hq hw (lv_sub hl [4, 5, 6, 7, 8, 9, 3, 2, 1, 0] rfl)
                            refine lv_if_ne (tgt := 188) hx hb dX8_fits_176 (by decide) (fun hc => ?_) (fun hc => ?_)
                            · have hq := hq.1 hc
                              refine lv_iconst (v := (0 : Int32)) hx hb dX8_fits_188 (by decide) ?_
                              exact jn189 (0 : Int32) _ _ _ hq hw (lv_sub hl [0, 1, 2, 3, 4, 5, 7, 9] rfl)
                            · have hq := hq.2 hc
                              refine lv_iconst (v := (1 : Int32)) hx hb dX8_fits_179 (by decide) ?_
                              refine lv_iload hx hb dX8_fits_180 (lv_at hl 9 rfl) ?_
                              refine lv_iconst (v := (3 : Int32)) hx hb dX8_fits_182 (by decide) ?_
                              refine lv_iadd hx hb dX8_fits_183 ?_
                              refine lv_ishl hx hb dX8_fits_184 ?_
                              refine lv_goto (tgt := 189) hx hb dX8_fits_185 (by decide) ?_
                              exact jn189 ((1 : Int32) <<< ((x20 + (3 : Int32)) &&& 31)) _ _ _ hq hw (lv_sub hl [0, 1, 2, 3, 4, 5, 7, 9] rfl)
                      refine lv_if_ne (tgt := 150) hx hb dX8_fits_141 (by decide) (fun hc => ?_) (fun hc => ?_)
                      · have hq := hq.1 hc
                        refine lv_iconst (v := (0 : Int32)) hx hb dX8_fits_150 (by decide) ?_
                        exact jn151 (0 : Int32) _ _ _ hq hw (lv_sub hl [0, 1, 2, 3, 4, 5, 6, 7, 8, 9] rfl)
                      · have hq := hq.2 hc
                        refine lv_iload hx hb dX8_fits_144 (lv_at hl 5 rfl) ?_
                        refine lv_ineg hx hb dX8_fits_146 ?_
                        refine lv_goto (tgt := 151) hx hb dX8_fits_147 (by decide) ?_
                        exact jn151 (-r15) _ _ _ hq hw (lv_sub hl [0, 1, 2, 3, 4, 5, 6, 7, 8, 9] rfl)
                  exact lp137 fu137 (0 : Int32) (0 : Int32) (-1000000 : Int32) x16 M13 _ _ _ hq hw (lv_sub hl [1, 2, 3, 4, 5, 6, 7, 8, 9, 0] rfl)
                refine lv_if_ne (tgt := 133) hx hb dX8_fits_125 (by decide) (fun hc => ?_) (fun hc => ?_)
                · have hq := hq.1 hc
                  refine lv_bipush (v := (60 : Int32)) hx hb dX8_fits_133 (by decide) ?_
                  exact jn135 (60 : Int32) _ _ _ hq hw (lv_sub hl [5, 7, 8, 9, 4, 3, 2, 1, 0] rfl)
                · have hq := hq.2 hc
                  refine lv_iload hx hb dX8_fits_128 (lv_at hl 3 rfl) ?_
                  refine lv_goto (tgt := 135) hx hb dX8_fits_130 (by decide) ?_
                  exact jn135 r15 _ _ _ hq hw (lv_sub hl [5, 7, 8, 9, 4, 3, 2, 1, 0] rfl)
              refine lv_if_ne (tgt := 99) hx hb dX8_fits_92 (by decide) (fun hc => ?_) (fun hc => ?_)
              · have hq := hq.1 hc
                refine lv_iconst (v := (1 : Int32)) hx hb dX8_fits_99 (by decide) ?_
                exact jn100 (1 : Int32) _ _ _ hq hw (lv_sub hl [0, 1, 2, 3, 4] rfl)
              · have hq := hq.2 hc
                refine lv_iconst (v := (3 : Int32)) hx hb dX8_fits_95 (by decide) ?_
                refine lv_goto (tgt := 100) hx hb dX8_fits_96 (by decide) ?_
                exact jn100 (3 : Int32) _ _ _ hq hw (lv_sub hl [0, 1, 2, 3, 4] rfl)
            · have hq := hq.2 hc
              refine lv_aload_n hx hb dX8_fits_66 rfl (lv_at hl 0 rfl) ?_
              refine lv_iconst (v := (2 : Int32)) hx hb dX8_fits_67 (by decide) ?_
              refine z_cvi ⟨hx, hb, hml, hown, hts⟩ hw h_o0 (kX8_found h_o0 hq) (by decide) rfl (cwV 1 hts gX8_fits_X8_found rfl rfl rfl (by decide +kernel) ⟨Nat.le_of_ble_eq_true rfl, Nat.le_of_ble_eq_true rfl⟩) rfl hl.1 rfl (Nat.le_of_ble_eq_true rfl) dX8_fits_68 ⟨Nat.zero_le _, Nat.zero_le _⟩ (fun r40 M41 J0 H locs hq hw => ?_)
              obtain ⟨hq, rfl⟩ := hq
              exact z_iret hQE hx hb hr hlk hw dX8_fits_71 ⟨hq, rfl⟩
          · have hq := hq.2 hc
            refine lv_aload_n hx hb dX8_fits_50 rfl (lv_at hl 0 rfl) ?_
            refine lv_iconst (v := (1 : Int32)) hx hb dX8_fits_51 (by decide) ?_
            refine z_cvi ⟨hx, hb, hml, hown, hts⟩ hw h_o0 (kX8_found h_o0 hq) (by decide) rfl (cwV 1 hts gX8_fits_X8_found rfl rfl rfl (by decide +kernel) ⟨Nat.le_of_ble_eq_true rfl, Nat.le_of_ble_eq_true rfl⟩) rfl hl.1 rfl (Nat.le_of_ble_eq_true rfl) dX8_fits_52 ⟨Nat.zero_le _, Nat.zero_le _⟩ (fun r42 M43 J0 H locs hq hw => ?_)
            obtain ⟨hq, rfl⟩ := hq
            exact z_iret hQE hx hb hr hlk hw dX8_fits_55 ⟨hq, rfl⟩
        · have hq := hq.2 hc
          refine lv_ldc (v := (-1000001 : Int32)) hx hb hown q2 dX8_fits_39 ?_
          exact z_iret hQE hx hb hr hlk hw dX8_fits_41 ⟨hq, rfl⟩
set_option maxRecDepth 20000 in
theorem ggX8_tell_X8_isPeg : GoodIn wsX8_tell wsX8_isPeg := goodIn_r _ [10, 3, 11, 12, 9, 13, 41, 42, 43, 44, 45, 46, 47, 48, 49, 50, 51, 52, 53, 54, 55, 56, 57, 58, 59, 60, 61, 62, 63, 64, 65, 66] (by decide +kernel) (by decide +kernel)
set_option maxRecDepth 20000 in
theorem gX8_tell_X8_isPeg : GoodIn wsX8_tell (wsV RX8 163 RX8 yX8_isPeg wsX8_isPeg) := goodIn_app (goodIn_of _ (by decide +kernel)) ggX8_tell_X8_isPeg
set_option maxRecDepth 20000 in
theorem ggX8_tell_X8_isRow : GoodIn wsX8_tell wsX8_isRow := goodIn_r _ [16, 11, 12, 9, 13] (by decide +kernel) (by decide +kernel)
set_option maxRecDepth 20000 in
theorem gX8_tell_X8_isRow : GoodIn wsX8_tell (va_wsS RX8 63 yX8_isRow wsX8_isRow) := goodIn_app (goodIn_of _ (by decide +kernel)) ggX8_tell_X8_isRow
set_option maxRecDepth 20000 in
theorem ggX8_tell_X8_isMissing : GoodIn wsX8_tell wsX8_isMissing := goodIn_r _ [20, 5, 21, 41, 42, 43, 44, 45, 46, 47, 48, 49, 50, 51, 52, 53, 54, 55, 56, 57, 58, 59, 60, 61, 62, 63, 64, 65, 66] (by decide +kernel) (by decide +kernel)
set_option maxRecDepth 20000 in
theorem gX8_tell_X8_isMissing : GoodIn wsX8_tell (wsV RX8 75 RX8 yX8_isMissing wsX8_isMissing) := goodIn_app (goodIn_of _ (by decide +kernel)) ggX8_tell_X8_isMissing
set_option maxRecDepth 20000 in
theorem ggX8_tell_X8_found : GoodIn wsX8_tell wsX8_found := goodIn_r _ [25, 26, 27, 41, 42, 43, 44, 45, 46, 47, 48, 49, 50, 51, 52, 53, 54, 55, 56, 57, 58, 59, 60, 61, 62, 63, 64, 65, 66] (by decide +kernel) (by decide +kernel)
set_option maxRecDepth 20000 in
theorem gX8_tell_X8_found : GoodIn wsX8_tell (wsV RX8 68 RX8 yX8_found wsX8_found) := goodIn_app (goodIn_of _ (by decide +kernel)) ggX8_tell_X8_found
set_option maxRecDepth 20000 in
theorem ggX8_tell_X8_in : GoodIn wsX8_tell wsX8_in := goodIn_r _ [13] (by decide +kernel) (by decide +kernel)
set_option maxRecDepth 20000 in
theorem gX8_tell_X8_in : GoodIn wsX8_tell (va_wsS RX8 59 yX8_in wsX8_in) := goodIn_app (goodIn_of _ (by decide +kernel)) ggX8_tell_X8_in
set_option maxRecDepth 20000 in
theorem ggX8_tell_X8_nowOf : GoodIn wsX8_tell wsX8_nowOf := goodIn_r _ [30, 31, 32, 9, 33, 11, 12, 13] (by decide +kernel) (by decide +kernel)
set_option maxRecDepth 20000 in
theorem gX8_tell_X8_nowOf : GoodIn wsX8_tell (va_wsS RX8 150 yX8_nowOf wsX8_nowOf) := goodIn_app (goodIn_of _ (by decide +kernel)) ggX8_tell_X8_nowOf
set_option maxRecDepth 20000 in
theorem ggX8_tell_X8_lowest : GoodIn wsX8_tell wsX8_lowest := goodIn_r _ [36] (by decide +kernel) (by decide +kernel)
set_option maxRecDepth 20000 in
theorem gX8_tell_X8_lowest : GoodIn wsX8_tell (va_wsS RX8 78 yX8_lowest wsX8_lowest) := goodIn_app (goodIn_of _ (by decide +kernel)) ggX8_tell_X8_lowest
set_option maxRecDepth 20000 in
theorem ggX8_tell_X8_well : GoodIn wsX8_tell wsX8_well := goodIn_r _ [40, 26, 41, 42, 43, 44, 45, 46, 47, 48, 49, 50, 51, 52, 53, 54, 55, 56, 57, 58, 59, 60, 61, 62, 63, 64, 65, 66] (by decide +kernel) (by decide +kernel)
set_option maxRecDepth 20000 in
theorem gX8_tell_X8_well : GoodIn wsX8_tell (wsV RX8 72 RX8 yX8_well wsX8_well) := goodIn_app (goodIn_of _ (by decide +kernel)) ggX8_tell_X8_well
theorem dX8_tell_0 : decode cX8_tell 0 = .ok (.aload_n 0, 1) := by decide +kernel
theorem dX8_tell_1 : decode cX8_tell 1 = .ok (.iload_n 1, 1) := by decide +kernel
theorem dX8_tell_2 : decode cX8_tell 2 = .ok (.invokevirtual 163, 3) := by decide +kernel
theorem dX8_tell_5 : decode cX8_tell 5 = .ok (.ifCond .eq 10, 3) := by decide +kernel
theorem dX8_tell_8 : decode cX8_tell 8 = .ok (.iload_n 2, 1) := by decide +kernel
theorem dX8_tell_9 : decode cX8_tell 9 = .ok (.invokestatic 63, 3) := by decide +kernel
theorem dX8_tell_12 : decode cX8_tell 12 = .ok (.ifCond .ne 6, 3) := by decide +kernel
theorem dX8_tell_15 : decode cX8_tell 15 = .ok (.ldc 67, 2) := by decide +kernel
theorem dX8_tell_17 : decode cX8_tell 17 = .ok (.ireturn, 1) := by decide +kernel
theorem dX8_tell_18 : decode cX8_tell 18 = .ok (.aload_n 0, 1) := by decide +kernel
theorem dX8_tell_19 : decode cX8_tell 19 = .ok (.iload_n 2, 1) := by decide +kernel
theorem dX8_tell_20 : decode cX8_tell 20 = .ok (.invokevirtual 75, 3) := by decide +kernel
theorem dX8_tell_23 : decode cX8_tell 23 = .ok (.ifCond .eq 9, 3) := by decide +kernel
theorem dX8_tell_26 : decode cX8_tell 26 = .ok (.aload_n 0, 1) := by decide +kernel
theorem dX8_tell_27 : decode cX8_tell 27 = .ok (.iconst 1, 1) := by decide +kernel
theorem dX8_tell_28 : decode cX8_tell 28 = .ok (.invokevirtual 68, 3) := by decide +kernel
theorem dX8_tell_31 : decode cX8_tell 31 = .ok (.ireturn, 1) := by decide +kernel
theorem dX8_tell_32 : decode cX8_tell 32 = .ok (.iload_n 3, 1) := by decide +kernel
theorem dX8_tell_33 : decode cX8_tell 33 = .ok (.iconst 0, 1) := by decide +kernel
theorem dX8_tell_34 : decode cX8_tell 34 = .ok (.aload_n 0, 1) := by decide +kernel
theorem dX8_tell_35 : decode cX8_tell 35 = .ok (.getfield 13, 3) := by decide +kernel
theorem dX8_tell_38 : decode cX8_tell 38 = .ok (.iload_n 2, 1) := by decide +kernel
theorem dX8_tell_39 : decode cX8_tell 39 = .ok (.iaload, 1) := by decide +kernel
theorem dX8_tell_40 : decode cX8_tell 40 = .ok (.invokestatic 59, 3) := by decide +kernel
theorem dX8_tell_43 : decode cX8_tell 43 = .ok (.ifCond .ne 9, 3) := by decide +kernel
theorem dX8_tell_46 : decode cX8_tell 46 = .ok (.aload_n 0, 1) := by decide +kernel
theorem dX8_tell_47 : decode cX8_tell 47 = .ok (.iconst 2, 1) := by decide +kernel
theorem dX8_tell_48 : decode cX8_tell 48 = .ok (.invokevirtual 68, 3) := by decide +kernel
theorem dX8_tell_51 : decode cX8_tell 51 = .ok (.ireturn, 1) := by decide +kernel
theorem dX8_tell_52 : decode cX8_tell 52 = .ok (.iconst 0, 1) := by decide +kernel
theorem dX8_tell_53 : decode cX8_tell 53 = .ok (.istore 4, 2) := by decide +kernel
theorem dX8_tell_55 : decode cX8_tell 55 = .ok (.iload_n 1, 1) := by decide +kernel
theorem dX8_tell_56 : decode cX8_tell 56 = .ok (.istore 5, 2) := by decide +kernel
theorem dX8_tell_58 : decode cX8_tell 58 = .ok (.iload 5, 2) := by decide +kernel
theorem dX8_tell_60 : decode cX8_tell 60 = .ok (.aload_n 0, 1) := by decide +kernel
theorem dX8_tell_61 : decode cX8_tell 61 = .ok (.getfield 25, 3) := by decide +kernel
theorem dX8_tell_64 : decode cX8_tell 64 = .ok (.iconst 0, 1) := by decide +kernel
theorem dX8_tell_65 : decode cX8_tell 65 = .ok (.iaload, 1) := by decide +kernel
theorem dX8_tell_66 : decode cX8_tell 66 = .ok (.if_icmp .ge 57, 3) := by decide +kernel
theorem dX8_tell_69 : decode cX8_tell 69 = .ok (.iload_n 3, 1) := by decide +kernel
theorem dX8_tell_70 : decode cX8_tell 70 = .ok (.iload 4, 2) := by decide +kernel
theorem dX8_tell_72 : decode cX8_tell 72 = .ok (.iadd, 1) := by decide +kernel
theorem dX8_tell_73 : decode cX8_tell 73 = .ok (.aload_n 0, 1) := by decide +kernel
theorem dX8_tell_74 : decode cX8_tell 74 = .ok (.getfield 13, 3) := by decide +kernel
theorem dX8_tell_77 : decode cX8_tell 77 = .ok (.iload_n 2, 1) := by decide +kernel
theorem dX8_tell_78 : decode cX8_tell 78 = .ok (.iaload, 1) := by decide +kernel
theorem dX8_tell_79 : decode cX8_tell 79 = .ok (.if_icmp .ge 44, 3) := by decide +kernel
theorem dX8_tell_82 : decode cX8_tell 82 = .ok (.aload_n 0, 1) := by decide +kernel
theorem dX8_tell_83 : decode cX8_tell 83 = .ok (.getfield 16, 3) := by decide +kernel
theorem dX8_tell_86 : decode cX8_tell 86 = .ok (.bipush 40, 2) := by decide +kernel
theorem dX8_tell_88 : decode cX8_tell 88 = .ok (.iload_n 2, 1) := by decide +kernel
theorem dX8_tell_89 : decode cX8_tell 89 = .ok (.imul, 1) := by decide +kernel
theorem dX8_tell_90 : decode cX8_tell 90 = .ok (.iload_n 3, 1) := by decide +kernel
theorem dX8_tell_91 : decode cX8_tell 91 = .ok (.iadd, 1) := by decide +kernel
theorem dX8_tell_92 : decode cX8_tell 92 = .ok (.iload 4, 2) := by decide +kernel
theorem dX8_tell_94 : decode cX8_tell 94 = .ok (.iadd, 1) := by decide +kernel
theorem dX8_tell_95 : decode cX8_tell 95 = .ok (.aload_n 0, 1) := by decide +kernel
theorem dX8_tell_96 : decode cX8_tell 96 = .ok (.getfield 7, 3) := by decide +kernel
theorem dX8_tell_99 : decode cX8_tell 99 = .ok (.iload_n 2, 1) := by decide +kernel
theorem dX8_tell_100 : decode cX8_tell 100 = .ok (.iaload, 1) := by decide +kernel
theorem dX8_tell_101 : decode cX8_tell 101 = .ok (.aload_n 0, 1) := by decide +kernel
theorem dX8_tell_102 : decode cX8_tell 102 = .ok (.getfield 25, 3) := by decide +kernel
theorem dX8_tell_105 : decode cX8_tell 105 = .ok (.iload 5, 2) := by decide +kernel
theorem dX8_tell_107 : decode cX8_tell 107 = .ok (.invokestatic 150, 3) := by decide +kernel
theorem dX8_tell_110 : decode cX8_tell 110 = .ok (.invokestatic 78, 3) := by decide +kernel
theorem dX8_tell_113 : decode cX8_tell 113 = .ok (.iastore, 1) := by decide +kernel
theorem dX8_tell_114 : decode cX8_tell 114 = .ok (.iinc 4 1, 3) := by decide +kernel
theorem dX8_tell_117 : decode cX8_tell 117 = .ok (.iinc 5 1, 3) := by decide +kernel
theorem dX8_tell_120 : decode cX8_tell 120 = .ok (.goto (-62), 3) := by decide +kernel
theorem dX8_tell_123 : decode cX8_tell 123 = .ok (.aload_n 0, 1) := by decide +kernel
theorem dX8_tell_124 : decode cX8_tell 124 = .ok (.iload 4, 2) := by decide +kernel
theorem dX8_tell_126 : decode cX8_tell 126 = .ok (.invokevirtual 72, 3) := by decide +kernel
theorem dX8_tell_129 : decode cX8_tell 129 = .ok (.ireturn, 1) := by decide +kernel
def rmX8_tell : Room := { frames := 3, cells := 0, slots := 0, locals := 64 }
def lpX8_tell_58 (o0 : Nat) (x2 : Int32) (x3 : Int32) (Q : Int32 → zM → Prop) : Nat → Int32 → Int32 → zM → Prop
  | 0, _, _, _ => False
  | fu58 + 1, x10, x11, M12 =>
    (((M12 (o0 + 6) (0 : Int32).toNatClampNeg) ≤ x11) → (
    wX8_well M12 o0 x10 (fun r13 M14 =>
    Q r13 M14))) ∧
    ((¬ (M12 (o0 + 6) (0 : Int32).toNatClampNeg) ≤ x11) → (
    vp_in x2 8 ∧
    (((M12 (o0 + 2) x2.toNatClampNeg) ≤ (x3 + x10)) → (
    wX8_well M12 o0 x10 (fun r15 M16 =>
    Q r15 M16))) ∧
    ((¬ (M12 (o0 + 2) x2.toNatClampNeg) ≤ (x3 + x10)) → (
    vp_in x2 8 ∧
    wX8_nowOf M12 (o0 + 6) 50 x11 (fun r17 =>
    wX8_lowest M12 (M12 (o0 + 1) x2.toNatClampNeg) r17 (fun r18 =>
    vp_in ((((40 : Int32) * x2) + x3) + x10) 320 ∧
    ∀ M19 : zM, M19 = va_up M12 (o0 + 3) (upd (M12 (o0 + 3)) ((((40 : Int32) * x2) + x3) + x10).toNatClampNeg r18) →
    ∀ x20 : Int32, x20 = x10 + (1 : Int32) →
    ∀ x21 : Int32, x21 = x11 + (1 : Int32) →
    lpX8_tell_58 o0 x2 x3 Q fu58 x20 x21 M19))))))
def wX8_tell (M : zM) (o0 : Nat) (x1 : Int32) (x2 : Int32) (x3 : Int32) (Q : Int32 → zM → Prop) : Prop :=
    wX8_isPeg M o0 x1 (fun r6 =>
    ((r6 = 0) → (
    Q (-1000001 : Int32) M)) ∧
    ((¬ r6 = 0) → (
    wX8_isRow M x2 (fun r7 =>
    ((¬ r7 = 0) → (
    wX8_isMissing M o0 x2 (fun r8 =>
    ((r8 = 0) → (
    vp_in x2 8 ∧
    wX8_in M x3 (0 : Int32) (M (o0 + 2) x2.toNatClampNeg) (fun r9 =>
    ((¬ r9 = 0) → (
    ∃ fu58 : Nat, lpX8_tell_58 o0 x2 x3 Q fu58 (0 : Int32) x1 M)) ∧
    ((r9 = 0) → (
    wX8_found M o0 (2 : Int32) (fun r22 M23 =>
    Q r22 M23)))))) ∧
    ((¬ r8 = 0) → (
    wX8_found M o0 (1 : Int32) (fun r24 M25 =>
    Q r24 M25)))))) ∧
    ((r7 = 0) → (
    Q (-1000001 : Int32) M))))))
set_option maxHeartbeats 4000000 in
set_option maxRecDepth 100000 in
theorem kX8_tell {l : Launch} {D : va_G} {Y : zY} {ad kd : Nat → Nat} {RL : List Nat} {M : zM} {J : zL} {o0 : Nat} {x1 : Int32} {x2 : Int32} {x3 : Int32} (h_o0 : kd o0 = 8) {Q : Int32 → zM → Prop} (hq : wX8_tell M o0 x1 x2 x3 Q) : zCi l yX8_tell wsX8_tell rmX8_tell [.ref (ad o0), .int x1, .int x2, .int x3] D Y ad kd RL M J (fun r M' J' => Q r M' ∧ J = J') := by
  refine z_meti (cc := cX8_tell) (maxL := 6) (ret := (some .int)) (by decide) rfl (Nat.le_of_ble_eq_true rfl) ?_
  intro p e s m below meth c ls A ar QE hQE hx hb hr hml hown hts hlk hw hl
  have hown : s.vm.findClass RX8 = some m.cls := hown
  have hl : lv_has ls 6 [(0, .ref (ad o0)), (1, .int x1), (2, .int x2), (3, .int x3)] := hl
  have hC := hw.2.2.2.2.2.1
  have g8 : ∀ w ∈ wsX80, w.before ar s = true := (fun w h => hts w (List.mem_cons_of_mem _ (List.mem_append_right _ h)))
  have q1 := hts _ (List.mem_of_getElem? (i := 1) rfl)
  have q2 := hts _ (List.mem_of_getElem? (i := 2) rfl)
  have q3 := hts _ (List.mem_of_getElem? (i := 3) rfl)
  have q4 := hts _ (List.mem_of_getElem? (i := 4) rfl)
  have q5 := hts _ (List.mem_of_getElem? (i := 5) rfl)
  unfold wX8_tell at hq
  refine lv_aload_n hx hb dX8_tell_0 rfl (lv_at hl 0 rfl) ?_
  refine lv_iload_n hx hb dX8_tell_1 rfl (lv_at hl 1 rfl) ?_
  refine z_cvi ⟨hx, hb, hml, hown, hts⟩ hw h_o0 (kX8_isPeg h_o0 hq) (by decide) rfl (cwV 1 hts gX8_tell_X8_isPeg rfl rfl rfl (by decide +kernel) ⟨Nat.le_of_ble_eq_true rfl, Nat.le_of_ble_eq_true rfl⟩) rfl hl.1 rfl (Nat.le_of_ble_eq_true rfl) dX8_tell_2 ⟨Nat.zero_le _, Nat.zero_le _⟩ (fun r6 M0 J0 H locs hq hw => ?_)
  obtain ⟨hq, rfl, rfl⟩ := hq
  refine lv_if_eq (tgt := 15) hx hb dX8_tell_5 (by decide) (fun hc => ?_) (fun hc => ?_)
  · have hq := hq.1 hc
    refine lv_ldc (v := (-1000001 : Int32)) hx hb hown q1 dX8_tell_15 ?_
    exact z_iret hQE hx hb hr hlk hw dX8_tell_17 ⟨hq, rfl⟩
  · have hq := hq.2 hc
    refine lv_iload_n hx hb dX8_tell_8 rfl (lv_at hl 2 rfl) ?_
    refine z_csi ⟨hx, hb, hml, hown, hts⟩ hw (kX8_isRow  hq) (va_cwS 1 hts gX8_tell_X8_isRow rfl rfl rfl (by decide +kernel) ⟨Nat.le_of_ble_eq_true rfl, Nat.le_of_ble_eq_true rfl⟩) rfl hl.1 rfl (Nat.le_of_ble_eq_true rfl) dX8_tell_9 ⟨Nat.zero_le _, Nat.zero_le _⟩ (fun r7 M0 J0 H locs hq hw => ?_)
    obtain ⟨hq, rfl, rfl⟩ := hq
    refine lv_if_ne (tgt := 18) hx hb dX8_tell_12 (by decide) (fun hc => ?_) (fun hc => ?_)
    · have hq := hq.1 hc
      refine lv_aload_n hx hb dX8_tell_18 rfl (lv_at hl 0 rfl) ?_
      refine lv_iload_n hx hb dX8_tell_19 rfl (lv_at hl 2 rfl) ?_
      refine z_cvi ⟨hx, hb, hml, hown, hts⟩ hw h_o0 (kX8_isMissing h_o0 hq) (by decide) rfl (cwV 1 hts gX8_tell_X8_isMissing rfl rfl rfl (by decide +kernel) ⟨Nat.le_of_ble_eq_true rfl, Nat.le_of_ble_eq_true rfl⟩) rfl hl.1 rfl (Nat.le_of_ble_eq_true rfl) dX8_tell_20 ⟨Nat.zero_le _, Nat.zero_le _⟩ (fun r8 M0 J0 H locs hq hw => ?_)
      obtain ⟨hq, rfl, rfl⟩ := hq
      refine lv_if_eq (tgt := 32) hx hb dX8_tell_23 (by decide) (fun hc => ?_) (fun hc => ?_)
      · have hq := hq.1 hc
        refine lv_iload_n hx hb dX8_tell_32 rfl (lv_at hl 3 rfl) ?_
        refine lv_iconst (v := (0 : Int32)) hx hb dX8_tell_33 (by decide) ?_
        refine lv_aload_n hx hb dX8_tell_34 rfl (lv_at hl 0 rfl) ?_
        refine zg8_many hx hb g8 hown hw h_o0 q2 dX8_tell_35 ?_
        refine lv_iload_n hx hb dX8_tell_38 rfl (lv_at hl 2 rfl) ?_
        obtain ⟨hi, hq⟩ := hq
        refine z_iald (n := 8) hx hb hw (zk_8_2 hC h_o0) hi dX8_tell_39 ?_
        refine z_csi ⟨hx, hb, hml, hown, hts⟩ hw (kX8_in  hq) (va_cwS 3 hts gX8_tell_X8_in rfl rfl rfl (by decide +kernel) ⟨Nat.le_of_ble_eq_true rfl, Nat.le_of_ble_eq_true rfl⟩) rfl hl.1 rfl (Nat.le_of_ble_eq_true rfl) dX8_tell_40 ⟨Nat.zero_le _, Nat.zero_le _⟩ (fun r9 M0 J0 H locs hq hw => ?_)
        obtain ⟨hq, rfl, rfl⟩ := hq
        refine lv_if_ne (tgt := 52) hx hb dX8_tell_43 (by decide) (fun hc => ?_) (fun hc => ?_)
        · have hq := hq.1 hc
          refine lv_iconst (v := (0 : Int32)) hx hb dX8_tell_52 (by decide) ?_
          refine lv_istore (lv' := [(4, .int (0 : Int32)), (0, .ref (ad o0)), (1, .int x1), (2, .int x2), (3, .int x3)]) hx hb dX8_tell_53 hl (by decide) rfl (fun ls hl => ?_)
          refine lv_iload_n hx hb dX8_tell_55 rfl (lv_at hl 2 rfl) ?_
          refine lv_istore (lv' := [(5, .int x1), (4, .int (0 : Int32)), (0, .ref (ad o0)), (1, .int x1), (2, .int x2), (3, .int x3)]) hx hb dX8_tell_56 hl (by decide) rfl (fun ls hl => ?_)
          obtain ⟨fu58, hq⟩ := hq
          have lp58 : ∀ (fu58 : Nat) (x10 : Int32) (x11 : Int32) (M12 : zM) (H : Heap) (locs : List Loc) (ls : Array Slot), lpX8_tell_58 o0 x2 x3 Q fu58 x10 x11 M12 → zH D Y ad kd RL M12 J A s.heap H locs s → lv_has ls 6 [(0, .ref (ad o0)), (2, .int x2), (3, .int x3), (4, .int x10), (5, .int x11)] → W p l e rmX8_tell s m ar below meth c H locs 0 0 QE (F0 m 58 ls []) := by
            intro fu58
            induction fu58 with
            | zero => intro x10 x11 M12 H locs ls hq; exact hq.elim
            | succ fu58 ih58 =>
              intro x10 x11 M12 H locs ls hq hw hl
              unfold lpX8_tell_58 at hq
              refine lv_iload hx hb dX8_tell_58 (lv_at hl 4 rfl) ?_
              refine lv_aload_n hx hb dX8_tell_60 rfl (lv_at hl 0 rfl) ?_
              refine zg8_now hx hb g8 hown hw h_o0 q3 dX8_tell_61 ?_
              refine lv_iconst (v := (0 : Int32)) hx hb dX8_tell_64 (by decide) ?_
              have hi : vp_in (0 : Int32) 50 := by unfold vp_in; decide
              refine z_iald (n := 50) hx hb hw (zk_8_6 hC h_o0) hi dX8_tell_65 ?_
              refine lv_icmp_ge (tgt := 123) hx hb dX8_tell_66 (by decide) (fun hc => ?_) (fun hc => ?_)
              · have hq := hq.1 hc
                refine lv_aload_n hx hb dX8_tell_123 rfl (lv_at hl 0 rfl) ?_
                refine lv_iload hx hb dX8_tell_124 (lv_at hl 3 rfl) ?_
                refine z_cvi ⟨hx, hb, hml, hown, hts⟩ hw h_o0 (kX8_well h_o0 hq) (by decide) rfl (cwV 1 hts gX8_tell_X8_well rfl rfl rfl (by decide +kernel) ⟨Nat.le_of_ble_eq_true rfl, Nat.le_of_ble_eq_true rfl⟩) rfl hl.1 rfl (Nat.le_of_ble_eq_true rfl) dX8_tell_126 ⟨Nat.zero_le _, Nat.zero_le _⟩ (fun r13 M14 J0 H locs hq hw => ?_)
                obtain ⟨hq, rfl⟩ := hq
                exact z_iret hQE hx hb hr hlk hw dX8_tell_129 ⟨hq, rfl⟩
              · have hq := hq.2 hc
                refine lv_iload_n hx hb dX8_tell_69 rfl (lv_at hl 2 rfl) ?_
                refine lv_iload hx hb dX8_tell_70 (lv_at hl 3 rfl) ?_
                refine lv_iadd hx hb dX8_tell_72 ?_
                refine lv_aload_n hx hb dX8_tell_73 rfl (lv_at hl 0 rfl) ?_
                refine zg8_many hx hb g8 hown hw h_o0 q2 dX8_tell_74 ?_
                refine lv_iload_n hx hb dX8_tell_77 rfl (lv_at hl 1 rfl) ?_
                obtain ⟨hi, hq⟩ := hq
                refine z_iald (n := 8) hx hb hw (zk_8_2 hC h_o0) hi dX8_tell_78 ?_
                refine lv_icmp_ge (tgt := 123) hx hb dX8_tell_79 (by decide) (fun hc => ?_) (fun hc => ?_)
                · have hq := hq.1 hc
                  refine lv_aload_n hx hb dX8_tell_123 rfl (lv_at hl 0 rfl) ?_
                  refine lv_iload hx hb dX8_tell_124 (lv_at hl 3 rfl) ?_
                  refine z_cvi ⟨hx, hb, hml, hown, hts⟩ hw h_o0 (kX8_well h_o0 hq) (by decide) rfl (cwV 1 hts gX8_tell_X8_well rfl rfl rfl (by decide +kernel) ⟨Nat.le_of_ble_eq_true rfl, Nat.le_of_ble_eq_true rfl⟩) rfl hl.1 rfl (Nat.le_of_ble_eq_true rfl) dX8_tell_126 ⟨Nat.zero_le _, Nat.zero_le _⟩ (fun r15 M16 J0 H locs hq hw => ?_)
                  obtain ⟨hq, rfl⟩ := hq
                  exact z_iret hQE hx hb hr hlk hw dX8_tell_129 ⟨hq, rfl⟩
                · have hq := hq.2 hc
                  refine lv_aload_n hx hb dX8_tell_82 rfl (lv_at hl 0 rfl) ?_
                  refine zg8_items hx hb g8 hown hw h_o0 q4 dX8_tell_83 ?_
                  refine lv_bipush (v := (40 : Int32)) hx hb dX8_tell_86 (by decide) ?_
                  refine lv_iload_n hx hb dX8_tell_88 rfl (lv_at hl 1 rfl) ?_
                  refine lv_imul hx hb dX8_tell_89 ?_
                  refine lv_iload_n hx hb dX8_tell_90 rfl (lv_at hl 2 rfl) ?_
                  refine lv_iadd hx hb dX8_tell_91 ?_
                  refine lv_iload hx hb dX8_tell_92 (lv_at hl 3 rfl) ?_
                  refine lv_iadd hx hb dX8_tell_94 ?_
                  refine lv_aload_n hx hb dX8_tell_95 rfl (lv_at hl 0 rfl) ?_
                  refine zg8_lane hx hb g8 hown hw h_o0 q5 dX8_tell_96 ?_
                  refine lv_iload_n hx hb dX8_tell_99 rfl (lv_at hl 1 rfl) ?_
                  obtain ⟨hi, hq⟩ := hq
                  refine z_iald (n := 8) hx hb hw (zk_8_1 hC h_o0) hi dX8_tell_100 ?_
                  refine lv_aload_n hx hb dX8_tell_101 rfl (lv_at hl 0 rfl) ?_
                  refine zg8_now hx hb g8 hown hw h_o0 q3 dX8_tell_102 ?_
                  refine lv_iload hx hb dX8_tell_105 (lv_at hl 4 rfl) ?_
                  refine z_csi ⟨hx, hb, hml, hown, hts⟩ hw (kX8_nowOf (zk_8_6 hC h_o0) hq) (va_cwS 2 hts gX8_tell_X8_nowOf rfl rfl rfl (by decide +kernel) ⟨Nat.le_of_ble_eq_true rfl, Nat.le_of_ble_eq_true rfl⟩) rfl hl.1 rfl (Nat.le_of_ble_eq_true rfl) dX8_tell_107 ⟨Nat.zero_le _, Nat.zero_le _⟩ (fun r17 M0 J0 H locs hq hw => ?_)
                  obtain ⟨hq, rfl, rfl⟩ := hq
                  refine z_csi ⟨hx, hb, hml, hown, hts⟩ hw (kX8_lowest  hq) (va_cwS 2 hts gX8_tell_X8_lowest rfl rfl rfl (by decide +kernel) ⟨Nat.le_of_ble_eq_true rfl, Nat.le_of_ble_eq_true rfl⟩) rfl hl.1 rfl (Nat.le_of_ble_eq_true rfl) dX8_tell_110 ⟨Nat.zero_le _, Nat.zero_le _⟩ (fun r18 M0 J0 H locs hq hw => ?_)
                  obtain ⟨hq, rfl, rfl⟩ := hq
                  obtain ⟨hi, hq⟩ := hq
                  refine z_iast (n := 320) hx hb hw (zk_8_3 hC h_o0) hi dX8_tell_113 (fun H locs hw => ?_)
                  obtain ⟨M19, e_M19⟩ : ∃ y : zM, y = va_up M12 (o0 + 3) (upd (M12 (o0 + 3)) ((((40 : Int32) * x2) + x3) + x10).toNatClampNeg r18) := ⟨_, rfl⟩
                  rw [← e_M19] at hw
                  have hq := hq M19 e_M19
                  obtain ⟨x20, e_x20⟩ : ∃ y : Int32, y = x10 + (1 : Int32) := ⟨_, rfl⟩
                  have hq := hq x20 e_x20
                  refine lv_iinc (v := x20) (lv' := [(4, .int x20), (0, .ref (ad o0)), (2, .int x2), (3, .int x3), (5, .int x11)]) hx hb dX8_tell_114 hl (k := 3) rfl (by rw [e_x20]; rfl) (by decide) rfl (fun ls hl => ?_)
                  obtain ⟨x21, e_x21⟩ : ∃ y : Int32, y = x11 + (1 : Int32) := ⟨_, rfl⟩
                  have hq := hq x21 e_x21
                  refine lv_iinc (v := x21) (lv' := [(5, .int x21), (4, .int x20), (0, .ref (ad o0)), (2, .int x2), (3, .int x3)]) hx hb dX8_tell_117 hl (k := 4) rfl (by rw [e_x21]; rfl) (by decide) rfl (fun ls hl => ?_)
                  refine lv_goto (tgt := 58) hx hb dX8_tell_120 (by decide) ?_
                  exact ih58 x20 x21 M19 _ _ _ hq hw (lv_sub hl [2, 3, 4, 1, 0] rfl)
          exact lp58 fu58 (0 : Int32) x1 M _ _ _ hq hw (lv_sub hl [2, 4, 5, 1, 0] rfl)
        · have hq := hq.2 hc
          refine lv_aload_n hx hb dX8_tell_46 rfl (lv_at hl 0 rfl) ?_
          refine lv_iconst (v := (2 : Int32)) hx hb dX8_tell_47 (by decide) ?_
          refine z_cvi ⟨hx, hb, hml, hown, hts⟩ hw h_o0 (kX8_found h_o0 hq) (by decide) rfl (cwV 1 hts gX8_tell_X8_found rfl rfl rfl (by decide +kernel) ⟨Nat.le_of_ble_eq_true rfl, Nat.le_of_ble_eq_true rfl⟩) rfl hl.1 rfl (Nat.le_of_ble_eq_true rfl) dX8_tell_48 ⟨Nat.zero_le _, Nat.zero_le _⟩ (fun r22 M23 J0 H locs hq hw => ?_)
          obtain ⟨hq, rfl⟩ := hq
          exact z_iret hQE hx hb hr hlk hw dX8_tell_51 ⟨hq, rfl⟩
      · have hq := hq.2 hc
        refine lv_aload_n hx hb dX8_tell_26 rfl (lv_at hl 0 rfl) ?_
        refine lv_iconst (v := (1 : Int32)) hx hb dX8_tell_27 (by decide) ?_
        refine z_cvi ⟨hx, hb, hml, hown, hts⟩ hw h_o0 (kX8_found h_o0 hq) (by decide) rfl (cwV 1 hts gX8_tell_X8_found rfl rfl rfl (by decide +kernel) ⟨Nat.le_of_ble_eq_true rfl, Nat.le_of_ble_eq_true rfl⟩) rfl hl.1 rfl (Nat.le_of_ble_eq_true rfl) dX8_tell_28 ⟨Nat.zero_le _, Nat.zero_le _⟩ (fun r24 M25 J0 H locs hq hw => ?_)
        obtain ⟨hq, rfl⟩ := hq
        exact z_iret hQE hx hb hr hlk hw dX8_tell_31 ⟨hq, rfl⟩
    · have hq := hq.2 hc
      refine lv_ldc (v := (-1000001 : Int32)) hx hb hown q1 dX8_tell_15 ?_
      exact z_iret hQE hx hb hr hlk hw dX8_tell_17 ⟨hq, rfl⟩
