/-! HandsLetModel.passes(IZ)V -/
theorem D185_0 : decode prog_12_method_59_code 0 = .ok (.iconst 0, 1) := by decide +kernel
theorem D185_1 : decode prog_12_method_59_code 1 = .ok (.istore_n 3, 1) := by decide +kernel
theorem D185_2 : decode prog_12_method_59_code 2 = .ok (.iload_n 3, 1) := by decide +kernel
theorem D185_3 : decode prog_12_method_59_code 3 = .ok (.aload_n 0, 1) := by decide +kernel
theorem D185_4 : decode prog_12_method_59_code 4 = .ok (.getfield 13, 3) := by decide +kernel
theorem D185_7 : decode prog_12_method_59_code 7 = .ok (.iconst 1, 1) := by decide +kernel
theorem D185_8 : decode prog_12_method_59_code 8 = .ok (.iaload, 1) := by decide +kernel
theorem D185_9 : decode prog_12_method_59_code 9 = .ok (.if_icmp .ge 116, 3) := by decide +kernel
theorem D185_12 : decode prog_12_method_59_code 12 = .ok (.aload_n 0, 1) := by decide +kernel
theorem D185_13 : decode prog_12_method_59_code 13 = .ok (.getfield 31, 3) := by decide +kernel
theorem D185_16 : decode prog_12_method_59_code 16 = .ok (.iload_n 3, 1) := by decide +kernel
theorem D185_17 : decode prog_12_method_59_code 17 = .ok (.iaload, 1) := by decide +kernel
theorem D185_18 : decode prog_12_method_59_code 18 = .ok (.aload_n 0, 1) := by decide +kernel
theorem D185_19 : decode prog_12_method_59_code 19 = .ok (.getfield 72, 3) := by decide +kernel
theorem D185_22 : decode prog_12_method_59_code 22 = .ok (.iload_n 1, 1) := by decide +kernel
theorem D185_23 : decode prog_12_method_59_code 23 = .ok (.iaload, 1) := by decide +kernel
theorem D185_24 : decode prog_12_method_59_code 24 = .ok (.if_icmp .ne 95, 3) := by decide +kernel
theorem D185_27 : decode prog_12_method_59_code 27 = .ok (.aload_n 0, 1) := by decide +kernel
theorem D185_28 : decode prog_12_method_59_code 28 = .ok (.getfield 357, 3) := by decide +kernel
theorem D185_31 : decode prog_12_method_59_code 31 = .ok (.iconst 2, 1) := by decide +kernel
theorem D185_32 : decode prog_12_method_59_code 32 = .ok (.if_icmp .ne 19, 3) := by decide +kernel
theorem D185_35 : decode prog_12_method_59_code 35 = .ok (.aload_n 0, 1) := by decide +kernel
theorem D185_36 : decode prog_12_method_59_code 36 = .ok (.getfield 28, 3) := by decide +kernel
theorem D185_39 : decode prog_12_method_59_code 39 = .ok (.iload_n 3, 1) := by decide +kernel
theorem D185_40 : decode prog_12_method_59_code 40 = .ok (.iaload, 1) := by decide +kernel
theorem D185_41 : decode prog_12_method_59_code 41 = .ok (.aload_n 0, 1) := by decide +kernel
theorem D185_42 : decode prog_12_method_59_code 42 = .ok (.getfield 108, 3) := by decide +kernel
theorem D185_45 : decode prog_12_method_59_code 45 = .ok (.if_icmp .ne 6, 3) := by decide +kernel
theorem D185_48 : decode prog_12_method_59_code 48 = .ok (.goto 71, 3) := by decide +kernel
theorem D185_51 : decode prog_12_method_59_code 51 = .ok (.aload_n 0, 1) := by decide +kernel
theorem D185_52 : decode prog_12_method_59_code 52 = .ok (.iload_n 1, 1) := by decide +kernel
theorem D185_53 : decode prog_12_method_59_code 53 = .ok (.aload_n 0, 1) := by decide +kernel
theorem D185_54 : decode prog_12_method_59_code 54 = .ok (.getfield 25, 3) := by decide +kernel
theorem D185_57 : decode prog_12_method_59_code 57 = .ok (.iload_n 3, 1) := by decide +kernel
theorem D185_58 : decode prog_12_method_59_code 58 = .ok (.iaload, 1) := by decide +kernel
theorem D185_59 : decode prog_12_method_59_code 59 = .ok (.aload_n 0, 1) := by decide +kernel
theorem D185_60 : decode prog_12_method_59_code 60 = .ok (.getfield 28, 3) := by decide +kernel
theorem D185_63 : decode prog_12_method_59_code 63 = .ok (.iload_n 3, 1) := by decide +kernel
theorem D185_64 : decode prog_12_method_59_code 64 = .ok (.iaload, 1) := by decide +kernel
theorem D185_65 : decode prog_12_method_59_code 65 = .ok (.aload_n 0, 1) := by decide +kernel
theorem D185_66 : decode prog_12_method_59_code 66 = .ok (.getfield 37, 3) := by decide +kernel
theorem D185_69 : decode prog_12_method_59_code 69 = .ok (.iload_n 3, 1) := by decide +kernel
theorem D185_70 : decode prog_12_method_59_code 70 = .ok (.iaload, 1) := by decide +kernel
theorem D185_71 : decode prog_12_method_59_code 71 = .ok (.invokevirtual 386, 3) := by decide +kernel
theorem D185_74 : decode prog_12_method_59_code 74 = .ok (.ifCond .eq 35, 3) := by decide +kernel
theorem D185_77 : decode prog_12_method_59_code 77 = .ok (.aload_n 0, 1) := by decide +kernel
theorem D185_78 : decode prog_12_method_59_code 78 = .ok (.iload_n 1, 1) := by decide +kernel
theorem D185_79 : decode prog_12_method_59_code 79 = .ok (.aload_n 0, 1) := by decide +kernel
theorem D185_80 : decode prog_12_method_59_code 80 = .ok (.getfield 25, 3) := by decide +kernel
theorem D185_83 : decode prog_12_method_59_code 83 = .ok (.iload_n 3, 1) := by decide +kernel
theorem D185_84 : decode prog_12_method_59_code 84 = .ok (.iaload, 1) := by decide +kernel
theorem D185_85 : decode prog_12_method_59_code 85 = .ok (.aload_n 0, 1) := by decide +kernel
theorem D185_86 : decode prog_12_method_59_code 86 = .ok (.getfield 28, 3) := by decide +kernel
theorem D185_89 : decode prog_12_method_59_code 89 = .ok (.iload_n 3, 1) := by decide +kernel
theorem D185_90 : decode prog_12_method_59_code 90 = .ok (.iaload, 1) := by decide +kernel
theorem D185_91 : decode prog_12_method_59_code 91 = .ok (.aload_n 0, 1) := by decide +kernel
theorem D185_92 : decode prog_12_method_59_code 92 = .ok (.getfield 34, 3) := by decide +kernel
theorem D185_95 : decode prog_12_method_59_code 95 = .ok (.iload_n 3, 1) := by decide +kernel
theorem D185_96 : decode prog_12_method_59_code 96 = .ok (.iaload, 1) := by decide +kernel
theorem D185_97 : decode prog_12_method_59_code 97 = .ok (.aload_n 0, 1) := by decide +kernel
theorem D185_98 : decode prog_12_method_59_code 98 = .ok (.getfield 37, 3) := by decide +kernel
theorem D185_101 : decode prog_12_method_59_code 101 = .ok (.iload_n 3, 1) := by decide +kernel
theorem D185_102 : decode prog_12_method_59_code 102 = .ok (.iaload, 1) := by decide +kernel
theorem D185_103 : decode prog_12_method_59_code 103 = .ok (.invokevirtual 390, 3) := by decide +kernel
theorem D185_106 : decode prog_12_method_59_code 106 = .ok (.goto 13, 3) := by decide +kernel
theorem D185_109 : decode prog_12_method_59_code 109 = .ok (.aload_n 0, 1) := by decide +kernel
theorem D185_110 : decode prog_12_method_59_code 110 = .ok (.getfield 78, 3) := by decide +kernel
theorem D185_113 : decode prog_12_method_59_code 113 = .ok (.iload_n 1, 1) := by decide +kernel
theorem D185_114 : decode prog_12_method_59_code 114 = .ok (.dup2, 1) := by decide +kernel
theorem D185_115 : decode prog_12_method_59_code 115 = .ok (.iaload, 1) := by decide +kernel
theorem D185_116 : decode prog_12_method_59_code 116 = .ok (.iconst 1, 1) := by decide +kernel
theorem D185_117 : decode prog_12_method_59_code 117 = .ok (.iadd, 1) := by decide +kernel
theorem D185_118 : decode prog_12_method_59_code 118 = .ok (.iastore, 1) := by decide +kernel
theorem D185_119 : decode prog_12_method_59_code 119 = .ok (.iinc 3 1, 3) := by decide +kernel
theorem D185_122 : decode prog_12_method_59_code 122 = .ok (.goto (-120), 3) := by decide +kernel
theorem D185_125 : decode prog_12_method_59_code 125 = .ok (.iconst 0, 1) := by decide +kernel
theorem D185_126 : decode prog_12_method_59_code 126 = .ok (.istore_n 3, 1) := by decide +kernel
theorem D185_127 : decode prog_12_method_59_code 127 = .ok (.iconst 0, 1) := by decide +kernel
theorem D185_128 : decode prog_12_method_59_code 128 = .ok (.istore 4, 2) := by decide +kernel
theorem D185_130 : decode prog_12_method_59_code 130 = .ok (.iload 4, 2) := by decide +kernel
theorem D185_132 : decode prog_12_method_59_code 132 = .ok (.aload_n 0, 1) := by decide +kernel
theorem D185_133 : decode prog_12_method_59_code 133 = .ok (.getfield 13, 3) := by decide +kernel
theorem D185_136 : decode prog_12_method_59_code 136 = .ok (.iconst 2, 1) := by decide +kernel
theorem D185_137 : decode prog_12_method_59_code 137 = .ok (.iaload, 1) := by decide +kernel
theorem D185_138 : decode prog_12_method_59_code 138 = .ok (.if_icmp .ge 67, 3) := by decide +kernel
theorem D185_141 : decode prog_12_method_59_code 141 = .ok (.aload_n 0, 1) := by decide +kernel
theorem D185_142 : decode prog_12_method_59_code 142 = .ok (.getfield 46, 3) := by decide +kernel
theorem D185_145 : decode prog_12_method_59_code 145 = .ok (.iload 4, 2) := by decide +kernel
theorem D185_147 : decode prog_12_method_59_code 147 = .ok (.iaload, 1) := by decide +kernel
theorem D185_148 : decode prog_12_method_59_code 148 = .ok (.aload_n 0, 1) := by decide +kernel
theorem D185_149 : decode prog_12_method_59_code 149 = .ok (.getfield 72, 3) := by decide +kernel
theorem D185_152 : decode prog_12_method_59_code 152 = .ok (.iload_n 1, 1) := by decide +kernel
theorem D185_153 : decode prog_12_method_59_code 153 = .ok (.iaload, 1) := by decide +kernel
theorem D185_154 : decode prog_12_method_59_code 154 = .ok (.if_icmp .ne 45, 3) := by decide +kernel
theorem D185_157 : decode prog_12_method_59_code 157 = .ok (.aload_n 0, 1) := by decide +kernel
theorem D185_158 : decode prog_12_method_59_code 158 = .ok (.getfield 357, 3) := by decide +kernel
theorem D185_161 : decode prog_12_method_59_code 161 = .ok (.iconst 2, 1) := by decide +kernel
theorem D185_162 : decode prog_12_method_59_code 162 = .ok (.if_icmp .ne 20, 3) := by decide +kernel
theorem D185_165 : decode prog_12_method_59_code 165 = .ok (.aload_n 0, 1) := by decide +kernel
theorem D185_166 : decode prog_12_method_59_code 166 = .ok (.getfield 40, 3) := by decide +kernel
theorem D185_169 : decode prog_12_method_59_code 169 = .ok (.iload 4, 2) := by decide +kernel
theorem D185_171 : decode prog_12_method_59_code 171 = .ok (.iaload, 1) := by decide +kernel
theorem D185_172 : decode prog_12_method_59_code 172 = .ok (.aload_n 0, 1) := by decide +kernel
theorem D185_173 : decode prog_12_method_59_code 173 = .ok (.getfield 108, 3) := by decide +kernel
theorem D185_176 : decode prog_12_method_59_code 176 = .ok (.if_icmp .ne 6, 3) := by decide +kernel
theorem D185_179 : decode prog_12_method_59_code 179 = .ok (.goto 20, 3) := by decide +kernel
theorem D185_182 : decode prog_12_method_59_code 182 = .ok (.aload_n 0, 1) := by decide +kernel
theorem D185_183 : decode prog_12_method_59_code 183 = .ok (.iload_n 1, 1) := by decide +kernel
theorem D185_184 : decode prog_12_method_59_code 184 = .ok (.iload 4, 2) := by decide +kernel
theorem D185_186 : decode prog_12_method_59_code 186 = .ok (.invokevirtual 394, 3) := by decide +kernel
theorem D185_189 : decode prog_12_method_59_code 189 = .ok (.iload_n 3, 1) := by decide +kernel
theorem D185_190 : decode prog_12_method_59_code 190 = .ok (.aload_n 0, 1) := by decide +kernel
theorem D185_191 : decode prog_12_method_59_code 191 = .ok (.iload_n 1, 1) := by decide +kernel
theorem D185_192 : decode prog_12_method_59_code 192 = .ok (.iload 4, 2) := by decide +kernel
theorem D185_194 : decode prog_12_method_59_code 194 = .ok (.invokevirtual 381, 3) := by decide +kernel
theorem D185_197 : decode prog_12_method_59_code 197 = .ok (.ior, 1) := by decide +kernel
theorem D185_198 : decode prog_12_method_59_code 198 = .ok (.istore_n 3, 1) := by decide +kernel
theorem D185_199 : decode prog_12_method_59_code 199 = .ok (.iinc 4 1, 3) := by decide +kernel
theorem D185_202 : decode prog_12_method_59_code 202 = .ok (.goto (-72), 3) := by decide +kernel
theorem D185_205 : decode prog_12_method_59_code 205 = .ok (.iload_n 3, 1) := by decide +kernel
theorem D185_206 : decode prog_12_method_59_code 206 = .ok (.ifCond .eq 17, 3) := by decide +kernel
theorem D185_209 : decode prog_12_method_59_code 209 = .ok (.aload_n 0, 1) := by decide +kernel
theorem D185_210 : decode prog_12_method_59_code 210 = .ok (.iload_n 1, 1) := by decide +kernel
theorem D185_211 : decode prog_12_method_59_code 211 = .ok (.iload_n 2, 1) := by decide +kernel
theorem D185_212 : decode prog_12_method_59_code 212 = .ok (.invokevirtual 397, 3) := by decide +kernel
theorem D185_215 : decode prog_12_method_59_code 215 = .ok (.ifCond .eq 8, 3) := by decide +kernel
theorem D185_218 : decode prog_12_method_59_code 218 = .ok (.aload_n 0, 1) := by decide +kernel
theorem D185_219 : decode prog_12_method_59_code 219 = .ok (.iload_n 1, 1) := by decide +kernel
theorem D185_220 : decode prog_12_method_59_code 220 = .ok (.invokevirtual 401, 3) := by decide +kernel
theorem D185_223 : decode prog_12_method_59_code 223 = .ok (.iconst 0, 1) := by decide +kernel
theorem D185_224 : decode prog_12_method_59_code 224 = .ok (.istore 4, 2) := by decide +kernel
theorem D185_226 : decode prog_12_method_59_code 226 = .ok (.iload 4, 2) := by decide +kernel
theorem D185_228 : decode prog_12_method_59_code 228 = .ok (.aload_n 0, 1) := by decide +kernel
theorem D185_229 : decode prog_12_method_59_code 229 = .ok (.getfield 13, 3) := by decide +kernel
theorem D185_232 : decode prog_12_method_59_code 232 = .ok (.iconst 0, 1) := by decide +kernel
theorem D185_233 : decode prog_12_method_59_code 233 = .ok (.iaload, 1) := by decide +kernel
theorem D185_234 : decode prog_12_method_59_code 234 = .ok (.if_icmp .ge 60, 3) := by decide +kernel
theorem D185_237 : decode prog_12_method_59_code 237 = .ok (.aload_n 0, 1) := by decide +kernel
theorem D185_238 : decode prog_12_method_59_code 238 = .ok (.iload_n 1, 1) := by decide +kernel
theorem D185_239 : decode prog_12_method_59_code 239 = .ok (.iload 4, 2) := by decide +kernel
theorem D185_241 : decode prog_12_method_59_code 241 = .ok (.invokevirtual 340, 3) := by decide +kernel
theorem D185_244 : decode prog_12_method_59_code 244 = .ok (.ifCond .ne 6, 3) := by decide +kernel
theorem D185_247 : decode prog_12_method_59_code 247 = .ok (.goto 41, 3) := by decide +kernel
theorem D185_250 : decode prog_12_method_59_code 250 = .ok (.aload_n 0, 1) := by decide +kernel
theorem D185_251 : decode prog_12_method_59_code 251 = .ok (.getfield 93, 3) := by decide +kernel
theorem D185_254 : decode prog_12_method_59_code 254 = .ok (.bipush 6, 2) := by decide +kernel
theorem D185_256 : decode prog_12_method_59_code 256 = .ok (.iload_n 1, 1) := by decide +kernel
theorem D185_257 : decode prog_12_method_59_code 257 = .ok (.imul, 1) := by decide +kernel
theorem D185_258 : decode prog_12_method_59_code 258 = .ok (.iload 4, 2) := by decide +kernel
theorem D185_260 : decode prog_12_method_59_code 260 = .ok (.iadd, 1) := by decide +kernel
theorem D185_261 : decode prog_12_method_59_code 261 = .ok (.dup2, 1) := by decide +kernel
theorem D185_262 : decode prog_12_method_59_code 262 = .ok (.iaload, 1) := by decide +kernel
theorem D185_263 : decode prog_12_method_59_code 263 = .ok (.iconst 1, 1) := by decide +kernel
theorem D185_264 : decode prog_12_method_59_code 264 = .ok (.isub, 1) := by decide +kernel
theorem D185_265 : decode prog_12_method_59_code 265 = .ok (.iastore, 1) := by decide +kernel
theorem D185_266 : decode prog_12_method_59_code 266 = .ok (.aload_n 0, 1) := by decide +kernel
theorem D185_267 : decode prog_12_method_59_code 267 = .ok (.getfield 93, 3) := by decide +kernel
theorem D185_270 : decode prog_12_method_59_code 270 = .ok (.bipush 6, 2) := by decide +kernel
theorem D185_272 : decode prog_12_method_59_code 272 = .ok (.iload_n 1, 1) := by decide +kernel
theorem D185_273 : decode prog_12_method_59_code 273 = .ok (.imul, 1) := by decide +kernel
theorem D185_274 : decode prog_12_method_59_code 274 = .ok (.iload 4, 2) := by decide +kernel
theorem D185_276 : decode prog_12_method_59_code 276 = .ok (.iadd, 1) := by decide +kernel
theorem D185_277 : decode prog_12_method_59_code 277 = .ok (.iaload, 1) := by decide +kernel
theorem D185_278 : decode prog_12_method_59_code 278 = .ok (.ifCond .ne 10, 3) := by decide +kernel
theorem D185_281 : decode prog_12_method_59_code 281 = .ok (.aload_n 0, 1) := by decide +kernel
theorem D185_282 : decode prog_12_method_59_code 282 = .ok (.iload_n 1, 1) := by decide +kernel
theorem D185_283 : decode prog_12_method_59_code 283 = .ok (.iload 4, 2) := by decide +kernel
theorem D185_285 : decode prog_12_method_59_code 285 = .ok (.invokevirtual 404, 3) := by decide +kernel
theorem D185_288 : decode prog_12_method_59_code 288 = .ok (.iinc 4 1, 3) := by decide +kernel
theorem D185_291 : decode prog_12_method_59_code 291 = .ok (.goto (-65), 3) := by decide +kernel
theorem D185_294 : decode prog_12_method_59_code 294 = .ok (.aload_n 0, 1) := by decide +kernel
theorem D185_295 : decode prog_12_method_59_code 295 = .ok (.getfield 72, 3) := by decide +kernel
theorem D185_298 : decode prog_12_method_59_code 298 = .ok (.iload_n 1, 1) := by decide +kernel
theorem D185_299 : decode prog_12_method_59_code 299 = .ok (.dup2, 1) := by decide +kernel
theorem D185_300 : decode prog_12_method_59_code 300 = .ok (.iaload, 1) := by decide +kernel
theorem D185_301 : decode prog_12_method_59_code 301 = .ok (.iconst 1, 1) := by decide +kernel
theorem D185_302 : decode prog_12_method_59_code 302 = .ok (.iadd, 1) := by decide +kernel
theorem D185_303 : decode prog_12_method_59_code 303 = .ok (.iastore, 1) := by decide +kernel
theorem D185_304 : decode prog_12_method_59_code 304 = .ok (.return_, 1) := by decide +kernel

theorem b185_0 {d : Nat} {i1 : Int32} {i2 : Int32} {ia : Nat → Nat → Int32} {la : Nat → Nat → Int64} {pl dr : Nat} {cp : Option Nat} {cw : Option Nat} {rp : Option Nat} {K : Option Value → zHP → Prop}  : zWP d 185 0 [some (.ref 127), some (.int i1), some (.int i2), none, none] [] (ia, la, zRA pl dr cp cw rp) K = zWP d 185 2 [some (.ref 127), some (.int i1), some (.int i2), some (.int (0 : Int32)), none] [] (ia, la, zRA pl dr cp cw rp) K := by
  refine (Q_iconst (v := 0) zm_185 (Or.inl (by decide)) D185_0 (by decide)).trans ?_
  refine (Q_istore_n (ls' := [some (.ref 127), some (.int i1), some (.int i2), some (.int (0 : Int32)), none]) zm_185 (Or.inl (by decide)) D185_1 rfl (Nat.le_of_ble_eq_true rfl) rfl).trans ?_
  rfl

theorem b185_2 {d : Nat} {i1 : Int32} {i2 : Int32} {i3 : Int32} {ia : Nat → Nat → Int32} {la : Nat → Nat → Int64} {pl dr : Nat} {cp : Option Nat} {cw : Option Nat} {rp : Option Nat} {K : Option Value → zHP → Prop}  : zWP d 185 2 [some (.ref 127), some (.int i1), some (.int i2), some (.int i3), none] [] (ia, la, zRA pl dr cp cw rp) K = (if (ia 129 1) ≤ i3 then zWP d 185 130 [some (.ref 127), some (.int i1), some (.int i2), some (.int (0 : Int32)), some (.int (0 : Int32))] [] (ia, la, zRA pl dr cp cw rp) K else (vp_in i3 20 ∧ (vp_in i1 23 ∧ (if ¬ (ia 135 (i3).toNatClampNeg) = (ia 147 (i1).toNatClampNeg) then zWP d 185 2 [some (.ref 127), some (.int i1), some (.int i2), some (.int (i3 + (1 : Int32))), none] [] (ia, la, zRA pl dr cp cw rp) K else (if ¬ (ia 127 49) = (2 : Int32) then zWP d 185 51 [some (.ref 127), some (.int i1), some (.int i2), some (.int i3), none] [] (ia, la, zRA pl dr cp cw rp) K else (if ¬ (ia 134 (i3).toNatClampNeg) = (ia 127 50) then zWP d 185 51 [some (.ref 127), some (.int i1), some (.int i2), some (.int i3), none] [] (ia, la, zRA pl dr cp cw rp) K else zWP d 185 2 [some (.ref 127), some (.int i1), some (.int i2), some (.int (i3 + (1 : Int32))), none] [] (ia, la, zRA pl dr cp cw rp) K)))))) := by
  refine (Q_iload_n zm_185 (Or.inl (by decide)) D185_2 rfl).trans ?_
  refine (Q_aload_n zm_185 (Or.inl (by decide)) D185_3 rfl).trans ?_
  refine (Q_getR (q := 129) zm_185 (Or.inl (by decide)) D185_4 zf_10_13 zs_10_3 zk_127.1 rfl).trans ?_
  refine (Q_iconst (v := 1) zm_185 (Or.inl (by decide)) D185_7 (by decide)).trans ?_
  refine ((Q_iaload zm_185 (Or.inl (by decide)) D185_8 zk_129.1 zk_129.2).trans (zdrop (zin_spec (by decide)))).trans ?_
  refine (Q_ic_ge (tgt := 125) zm_185 (Or.inl (by decide)) D185_9 (by decide)).trans ?_
  refine zif_c (fun h0_ => ?_) (fun h0_ => ?_)
  · refine (Q_iconst (v := 0) zm_185 (Or.inl (by decide)) D185_125 (by decide)).trans ?_
    refine (Q_istore_n (ls' := [some (.ref 127), some (.int i1), some (.int i2), some (.int (0 : Int32)), none]) zm_185 (Or.inl (by decide)) D185_126 rfl (Nat.le_of_ble_eq_true rfl) rfl).trans ?_
    refine (Q_iconst (v := 0) zm_185 (Or.inl (by decide)) D185_127 (by decide)).trans ?_
    refine (Q_istore (ls' := [some (.ref 127), some (.int i1), some (.int i2), some (.int (0 : Int32)), some (.int (0 : Int32))]) zm_185 (Or.inl (by decide)) D185_128 rfl (Nat.le_of_ble_eq_true rfl) rfl).trans ?_
    rfl
  · refine (Q_aload_n zm_185 (Or.inl (by decide)) D185_12 rfl).trans ?_
    refine (Q_getR (q := 135) zm_185 (Or.inl (by decide)) D185_13 zf_10_31 zs_10_9 zk_127.1 rfl).trans ?_
    refine (Q_iload_n zm_185 (Or.inl (by decide)) D185_16 rfl).trans ?_
    refine (Q_iaload zm_185 (Or.inl (by decide)) D185_17 zk_135.1 zk_135.2).trans ?_
    refine zand_c (fun h1_ => ?_)
    refine (Q_aload_n zm_185 (Or.inl (by decide)) D185_18 rfl).trans ?_
    refine (Q_getR (q := 147) zm_185 (Or.inl (by decide)) D185_19 zf_10_72 zs_10_35 zk_127.1 rfl).trans ?_
    refine (Q_iload_n zm_185 (Or.inl (by decide)) D185_22 rfl).trans ?_
    refine (Q_iaload zm_185 (Or.inl (by decide)) D185_23 zk_147.1 zk_147.2).trans ?_
    refine zand_c (fun h2_ => ?_)
    refine (Q_ic_ne (tgt := 119) zm_185 (Or.inl (by decide)) D185_24 (by decide)).trans ?_
    refine zif_c (fun h3_ => ?_) (fun h3_ => ?_)
    · refine (Q_iinc (v := 1) (ls' := [some (.ref 127), some (.int i1), some (.int i2), some (.int (i3 + (1 : Int32))), none]) zm_185 (Or.inl (by decide)) D185_119 rfl rfl (by decide) rfl).trans ?_
      refine (Q_goto (tgt := 2) zm_185 (Or.inl (by decide)) D185_122 (by decide)).trans ?_
      rfl
    · refine (Q_aload_n zm_185 (Or.inl (by decide)) D185_27 rfl).trans ?_
      refine (Q_getI zm_185 (Or.inl (by decide)) D185_28 zf_10_357 (Or.inl zs_10_49) zk_127.1).trans ?_
      refine (Q_iconst (v := 2) zm_185 (Or.inl (by decide)) D185_31 (by decide)).trans ?_
      refine (Q_ic_ne (tgt := 51) zm_185 (Or.inl (by decide)) D185_32 (by decide)).trans ?_
      refine zif_c (fun h4_ => ?_) (fun h4_ => ?_)
      · rfl
      · refine (Q_aload_n zm_185 (Or.inl (by decide)) D185_35 rfl).trans ?_
        refine (Q_getR (q := 134) zm_185 (Or.inl (by decide)) D185_36 zf_10_28 zs_10_8 zk_127.1 rfl).trans ?_
        refine (Q_iload_n zm_185 (Or.inl (by decide)) D185_39 rfl).trans ?_
        refine ((Q_iaload zm_185 (Or.inl (by decide)) D185_40 zk_134.1 zk_134.2).trans (zdrop h1_)).trans ?_
        refine (Q_aload_n zm_185 (Or.inl (by decide)) D185_41 rfl).trans ?_
        refine (Q_getI zm_185 (Or.inl (by decide)) D185_42 zf_10_108 (Or.inl zs_10_50) zk_127.1).trans ?_
        refine (Q_ic_ne (tgt := 51) zm_185 (Or.inl (by decide)) D185_45 (by decide)).trans ?_
        refine zif_c (fun h5_ => ?_) (fun h5_ => ?_)
        · rfl
        · refine (Q_goto (tgt := 119) zm_185 (Or.inl (by decide)) D185_48 (by decide)).trans ?_
          refine (Q_iinc (v := 1) (ls' := [some (.ref 127), some (.int i1), some (.int i2), some (.int (i3 + (1 : Int32))), none]) zm_185 (Or.inl (by decide)) D185_119 rfl rfl (by decide) rfl).trans ?_
          refine (Q_goto (tgt := 2) zm_185 (Or.inl (by decide)) D185_122 (by decide)).trans ?_
          rfl

theorem b185_130 {d : Nat} {i1 : Int32} {i2 : Int32} {i3 : Int32} {i4 : Int32} {ia : Nat → Nat → Int32} {la : Nat → Nat → Int64} {pl dr : Nat} {cp : Option Nat} {cw : Option Nat} {rp : Option Nat} {K : Option Value → zHP → Prop}  : zWP (d + 1) 185 130 [some (.ref 127), some (.int i1), some (.int i2), some (.int i3), some (.int i4)] [] (ia, la, zRA pl dr cp cw rp) K = (if (ia 129 2) ≤ i4 then (if i3 = 0 then zWP (d + 1) 185 226 [some (.ref 127), some (.int i1), some (.int i2), some (.int i3), some (.int (0 : Int32))] [] (ia, la, zRA pl dr cp cw rp) K else zWM d 181 [.ref 127, .int i1, .int i2] (ia, la, zRA pl dr cp cw rp) (zK (d + 1) 185 215 [some (.ref 127), some (.int i1), some (.int i2), some (.int i3), some (.int i4)] [] K)) else (vp_in i4 24 ∧ (vp_in i1 23 ∧ (if ¬ (ia 140 (i4).toNatClampNeg) = (ia 147 (i1).toNatClampNeg) then zWP (d + 1) 185 130 [some (.ref 127), some (.int i1), some (.int i2), some (.int i3), some (.int (i4 + (1 : Int32)))] [] (ia, la, zRA pl dr cp cw rp) K else (if ¬ (ia 127 49) = (2 : Int32) then zWM d 180 [.ref 127, .int i1, .int i4] (ia, la, zRA pl dr cp cw rp) (zK (d + 1) 185 189 [some (.ref 127), some (.int i1), some (.int i2), some (.int i3), some (.int i4)] [] K) else (if ¬ (ia 138 (i4).toNatClampNeg) = (ia 127 50) then zWM d 180 [.ref 127, .int i1, .int i4] (ia, la, zRA pl dr cp cw rp) (zK (d + 1) 185 189 [some (.ref 127), some (.int i1), some (.int i2), some (.int i3), some (.int i4)] [] K) else zWP (d + 1) 185 130 [some (.ref 127), some (.int i1), some (.int i2), some (.int i3), some (.int (i4 + (1 : Int32)))] [] (ia, la, zRA pl dr cp cw rp) K)))))) := by
  refine (Q_iload zm_185 (Or.inl (by decide)) D185_130 rfl).trans ?_
  refine (Q_aload_n zm_185 (Or.inl (by decide)) D185_132 rfl).trans ?_
  refine (Q_getR (q := 129) zm_185 (Or.inl (by decide)) D185_133 zf_10_13 zs_10_3 zk_127.1 rfl).trans ?_
  refine (Q_iconst (v := 2) zm_185 (Or.inl (by decide)) D185_136 (by decide)).trans ?_
  refine ((Q_iaload zm_185 (Or.inl (by decide)) D185_137 zk_129.1 zk_129.2).trans (zdrop (zin_spec (by decide)))).trans ?_
  refine (Q_ic_ge (tgt := 205) zm_185 (Or.inl (by decide)) D185_138 (by decide)).trans ?_
  refine zif_c (fun h0_ => ?_) (fun h0_ => ?_)
  · refine (Q_iload_n zm_185 (Or.inl (by decide)) D185_205 rfl).trans ?_
    refine (Q_if_eq (tgt := 223) zm_185 (Or.inl (by decide)) D185_206 (by decide)).trans ?_
    refine zif_c (fun h1_ => ?_) (fun h1_ => ?_)
    · refine (Q_iconst (v := 0) zm_185 (Or.inl (by decide)) D185_223 (by decide)).trans ?_
      refine (Q_istore (ls' := [some (.ref 127), some (.int i1), some (.int i2), some (.int i3), some (.int (0 : Int32))]) zm_185 (Or.inl (by decide)) D185_224 rfl (Nat.le_of_ble_eq_true rfl) rfl).trans ?_
      rfl
    · refine (Q_aload_n zm_185 (Or.inl (by decide)) D185_209 rfl).trans ?_
      refine (Q_iload_n zm_185 (Or.inl (by decide)) D185_210 rfl).trans ?_
      refine (Q_iload_n zm_185 (Or.inl (by decide)) D185_211 rfl).trans ?_
      exact Q_callv (as := [.int i1, .int i2]) (b := 127) (rest := []) zm_185 (Or.inl (by decide)) D185_212 zc_10_397 rfl zk_127.1 (by decide) (by decide +kernel) (by decide) (by simp [zcat, Value.category]) zm_181 rfl
  · refine (Q_aload_n zm_185 (Or.inl (by decide)) D185_141 rfl).trans ?_
    refine (Q_getR (q := 140) zm_185 (Or.inl (by decide)) D185_142 zf_10_46 zs_10_14 zk_127.1 rfl).trans ?_
    refine (Q_iload zm_185 (Or.inl (by decide)) D185_145 rfl).trans ?_
    refine (Q_iaload zm_185 (Or.inl (by decide)) D185_147 zk_140.1 zk_140.2).trans ?_
    refine zand_c (fun h2_ => ?_)
    refine (Q_aload_n zm_185 (Or.inl (by decide)) D185_148 rfl).trans ?_
    refine (Q_getR (q := 147) zm_185 (Or.inl (by decide)) D185_149 zf_10_72 zs_10_35 zk_127.1 rfl).trans ?_
    refine (Q_iload_n zm_185 (Or.inl (by decide)) D185_152 rfl).trans ?_
    refine (Q_iaload zm_185 (Or.inl (by decide)) D185_153 zk_147.1 zk_147.2).trans ?_
    refine zand_c (fun h3_ => ?_)
    refine (Q_ic_ne (tgt := 199) zm_185 (Or.inl (by decide)) D185_154 (by decide)).trans ?_
    refine zif_c (fun h4_ => ?_) (fun h4_ => ?_)
    · refine (Q_iinc (v := 1) (ls' := [some (.ref 127), some (.int i1), some (.int i2), some (.int i3), some (.int (i4 + (1 : Int32)))]) zm_185 (Or.inl (by decide)) D185_199 rfl rfl (by decide) rfl).trans ?_
      refine (Q_goto (tgt := 130) zm_185 (Or.inl (by decide)) D185_202 (by decide)).trans ?_
      rfl
    · refine (Q_aload_n zm_185 (Or.inl (by decide)) D185_157 rfl).trans ?_
      refine (Q_getI zm_185 (Or.inl (by decide)) D185_158 zf_10_357 (Or.inl zs_10_49) zk_127.1).trans ?_
      refine (Q_iconst (v := 2) zm_185 (Or.inl (by decide)) D185_161 (by decide)).trans ?_
      refine (Q_ic_ne (tgt := 182) zm_185 (Or.inl (by decide)) D185_162 (by decide)).trans ?_
      refine zif_c (fun h5_ => ?_) (fun h5_ => ?_)
      · refine (Q_aload_n zm_185 (Or.inl (by decide)) D185_182 rfl).trans ?_
        refine (Q_iload_n zm_185 (Or.inl (by decide)) D185_183 rfl).trans ?_
        refine (Q_iload zm_185 (Or.inl (by decide)) D185_184 rfl).trans ?_
        exact Q_callv (as := [.int i1, .int i4]) (b := 127) (rest := []) zm_185 (Or.inl (by decide)) D185_186 zc_10_394 rfl zk_127.1 (by decide) (by decide +kernel) (by decide) (by simp [zcat, Value.category]) zm_180 rfl
      · refine (Q_aload_n zm_185 (Or.inl (by decide)) D185_165 rfl).trans ?_
        refine (Q_getR (q := 138) zm_185 (Or.inl (by decide)) D185_166 zf_10_40 zs_10_12 zk_127.1 rfl).trans ?_
        refine (Q_iload zm_185 (Or.inl (by decide)) D185_169 rfl).trans ?_
        refine ((Q_iaload zm_185 (Or.inl (by decide)) D185_171 zk_138.1 zk_138.2).trans (zdrop h2_)).trans ?_
        refine (Q_aload_n zm_185 (Or.inl (by decide)) D185_172 rfl).trans ?_
        refine (Q_getI zm_185 (Or.inl (by decide)) D185_173 zf_10_108 (Or.inl zs_10_50) zk_127.1).trans ?_
        refine (Q_ic_ne (tgt := 182) zm_185 (Or.inl (by decide)) D185_176 (by decide)).trans ?_
        refine zif_c (fun h6_ => ?_) (fun h6_ => ?_)
        · refine (Q_aload_n zm_185 (Or.inl (by decide)) D185_182 rfl).trans ?_
          refine (Q_iload_n zm_185 (Or.inl (by decide)) D185_183 rfl).trans ?_
          refine (Q_iload zm_185 (Or.inl (by decide)) D185_184 rfl).trans ?_
          exact Q_callv (as := [.int i1, .int i4]) (b := 127) (rest := []) zm_185 (Or.inl (by decide)) D185_186 zc_10_394 rfl zk_127.1 (by decide) (by decide +kernel) (by decide) (by simp [zcat, Value.category]) zm_180 rfl
        · refine (Q_goto (tgt := 199) zm_185 (Or.inl (by decide)) D185_179 (by decide)).trans ?_
          refine (Q_iinc (v := 1) (ls' := [some (.ref 127), some (.int i1), some (.int i2), some (.int i3), some (.int (i4 + (1 : Int32)))]) zm_185 (Or.inl (by decide)) D185_199 rfl rfl (by decide) rfl).trans ?_
          refine (Q_goto (tgt := 130) zm_185 (Or.inl (by decide)) D185_202 (by decide)).trans ?_
          rfl

theorem b185_51 {d : Nat} {i1 : Int32} {i2 : Int32} {i3 : Int32} {ia : Nat → Nat → Int32} {la : Nat → Nat → Int64} {pl dr : Nat} {cp : Option Nat} {cw : Option Nat} {rp : Option Nat} {K : Option Value → zHP → Prop}  : zWP (d + 1) 185 51 [some (.ref 127), some (.int i1), some (.int i2), some (.int i3), none] [] (ia, la, zRA pl dr cp cw rp) K = (vp_in i3 20 ∧ zWM d 178 [.ref 127, .int i1, .int (ia 133 (i3).toNatClampNeg), .int (ia 134 (i3).toNatClampNeg), .int (ia 137 (i3).toNatClampNeg)] (ia, la, zRA pl dr cp cw rp) (zK (d + 1) 185 74 [some (.ref 127), some (.int i1), some (.int i2), some (.int i3), none] [] K)) := by
  refine (Q_aload_n zm_185 (Or.inl (by decide)) D185_51 rfl).trans ?_
  refine (Q_iload_n zm_185 (Or.inl (by decide)) D185_52 rfl).trans ?_
  refine (Q_aload_n zm_185 (Or.inl (by decide)) D185_53 rfl).trans ?_
  refine (Q_getR (q := 133) zm_185 (Or.inl (by decide)) D185_54 zf_10_25 zs_10_7 zk_127.1 rfl).trans ?_
  refine (Q_iload_n zm_185 (Or.inl (by decide)) D185_57 rfl).trans ?_
  refine (Q_iaload zm_185 (Or.inl (by decide)) D185_58 zk_133.1 zk_133.2).trans ?_
  refine zand_c (fun h0_ => ?_)
  refine (Q_aload_n zm_185 (Or.inl (by decide)) D185_59 rfl).trans ?_
  refine (Q_getR (q := 134) zm_185 (Or.inl (by decide)) D185_60 zf_10_28 zs_10_8 zk_127.1 rfl).trans ?_
  refine (Q_iload_n zm_185 (Or.inl (by decide)) D185_63 rfl).trans ?_
  refine ((Q_iaload zm_185 (Or.inl (by decide)) D185_64 zk_134.1 zk_134.2).trans (zdrop h0_)).trans ?_
  refine (Q_aload_n zm_185 (Or.inl (by decide)) D185_65 rfl).trans ?_
  refine (Q_getR (q := 137) zm_185 (Or.inl (by decide)) D185_66 zf_10_37 zs_10_11 zk_127.1 rfl).trans ?_
  refine (Q_iload_n zm_185 (Or.inl (by decide)) D185_69 rfl).trans ?_
  refine ((Q_iaload zm_185 (Or.inl (by decide)) D185_70 zk_137.1 zk_137.2).trans (zdrop h0_)).trans ?_
  exact Q_callv (as := [.int i1, .int (ia 133 (i3).toNatClampNeg), .int (ia 134 (i3).toNatClampNeg), .int (ia 137 (i3).toNatClampNeg)]) (b := 127) (rest := []) zm_185 (Or.inl (by decide)) D185_71 zc_10_386 rfl zk_127.1 (by decide) (by decide +kernel) (by decide) (by simp [zcat, Value.category]) zm_178 rfl

theorem b185_226 {d : Nat} {i1 : Int32} {i2 : Int32} {i3 : Int32} {i4 : Int32} {ia : Nat → Nat → Int32} {la : Nat → Nat → Int64} {pl dr : Nat} {cp : Option Nat} {cw : Option Nat} {rp : Option Nat} {K : Option Value → zHP → Prop}  : zWP (d + 1) 185 226 [some (.ref 127), some (.int i1), some (.int i2), some (.int i3), some (.int i4)] [] (ia, la, zRA pl dr cp cw rp) K = (if (ia 129 0) ≤ i4 then (vp_in i1 23 ∧ K none ((zu ia 147 (i1).toNatClampNeg ((ia 147 (i1).toNatClampNeg) + (1 : Int32))), la, zRA pl dr cp cw rp)) else zWM d 172 [.ref 127, .int i1, .int i4] (ia, la, zRA pl dr cp cw rp) (zK (d + 1) 185 244 [some (.ref 127), some (.int i1), some (.int i2), some (.int i3), some (.int i4)] [] K)) := by
  refine (Q_iload zm_185 (Or.inl (by decide)) D185_226 rfl).trans ?_
  refine (Q_aload_n zm_185 (Or.inl (by decide)) D185_228 rfl).trans ?_
  refine (Q_getR (q := 129) zm_185 (Or.inl (by decide)) D185_229 zf_10_13 zs_10_3 zk_127.1 rfl).trans ?_
  refine (Q_iconst (v := 0) zm_185 (Or.inl (by decide)) D185_232 (by decide)).trans ?_
  refine ((Q_iaload zm_185 (Or.inl (by decide)) D185_233 zk_129.1 zk_129.2).trans (zdrop (zin_spec (by decide)))).trans ?_
  refine (Q_ic_ge (tgt := 294) zm_185 (Or.inl (by decide)) D185_234 (by decide)).trans ?_
  refine zif_c (fun h0_ => ?_) (fun h0_ => ?_)
  · refine (Q_aload_n zm_185 (Or.inl (by decide)) D185_294 rfl).trans ?_
    refine (Q_getR (q := 147) zm_185 (Or.inl (by decide)) D185_295 zf_10_72 zs_10_35 zk_127.1 rfl).trans ?_
    refine (Q_iload_n zm_185 (Or.inl (by decide)) D185_298 rfl).trans ?_
    refine (Q_dup2 zm_185 (Or.inl (by decide)) D185_299 rfl rfl).trans ?_
    refine (Q_iaload zm_185 (Or.inl (by decide)) D185_300 zk_147.1 zk_147.2).trans ?_
    refine zand_c (fun h1_ => ?_)
    refine (Q_iconst (v := 1) zm_185 (Or.inl (by decide)) D185_301 (by decide)).trans ?_
    refine (Q_iadd zm_185 (Or.inl (by decide)) D185_302).trans ?_
    refine ((Q_iastore zm_185 (Or.inl (by decide)) D185_303 zk_147.1 zk_147.2).trans (zdrop h1_)).trans ?_
    exact Q_return zm_185 (Or.inl (by decide)) D185_304 rfl
  · refine (Q_aload_n zm_185 (Or.inl (by decide)) D185_237 rfl).trans ?_
    refine (Q_iload_n zm_185 (Or.inl (by decide)) D185_238 rfl).trans ?_
    refine (Q_iload zm_185 (Or.inl (by decide)) D185_239 rfl).trans ?_
    exact Q_callv (as := [.int i1, .int i4]) (b := 127) (rest := []) zm_185 (Or.inl (by decide)) D185_241 zc_10_340 rfl zk_127.1 (by decide) (by decide +kernel) (by decide) (by simp [zcat, Value.category]) zm_172 rfl

theorem b185_215 {d : Nat} {i1 : Int32} {i2 : Int32} {i3 : Int32} {i4 : Int32} {s0 : Int32} {ia : Nat → Nat → Int32} {la : Nat → Nat → Int64} {pl dr : Nat} {cp : Option Nat} {cw : Option Nat} {rp : Option Nat} {K : Option Value → zHP → Prop}  : zWP (d + 1) 185 215 [some (.ref 127), some (.int i1), some (.int i2), some (.int i3), some (.int i4)] [.int s0] (ia, la, zRA pl dr cp cw rp) K = (if s0 = 0 then zWP (d + 1) 185 226 [some (.ref 127), some (.int i1), some (.int i2), some (.int i3), some (.int (0 : Int32))] [] (ia, la, zRA pl dr cp cw rp) K else zWM d 183 [.ref 127, .int i1] (ia, la, zRA pl dr cp cw rp) (zK (d + 1) 185 223 [some (.ref 127), some (.int i1), some (.int i2), some (.int i3), some (.int i4)] [] K)) := by
  refine (Q_if_eq (tgt := 223) zm_185 (Or.inl (by decide)) D185_215 (by decide)).trans ?_
  refine zif_c (fun h0_ => ?_) (fun h0_ => ?_)
  · refine (Q_iconst (v := 0) zm_185 (Or.inl (by decide)) D185_223 (by decide)).trans ?_
    refine (Q_istore (ls' := [some (.ref 127), some (.int i1), some (.int i2), some (.int i3), some (.int (0 : Int32))]) zm_185 (Or.inl (by decide)) D185_224 rfl (Nat.le_of_ble_eq_true rfl) rfl).trans ?_
    rfl
  · refine (Q_aload_n zm_185 (Or.inl (by decide)) D185_218 rfl).trans ?_
    refine (Q_iload_n zm_185 (Or.inl (by decide)) D185_219 rfl).trans ?_
    exact Q_callv (as := [.int i1]) (b := 127) (rest := []) zm_185 (Or.inl (by decide)) D185_220 zc_10_401 rfl zk_127.1 (by decide) (by decide +kernel) (by decide) (by simp [zcat, Value.category]) zm_183 rfl

theorem b185_189 {d : Nat} {i1 : Int32} {i2 : Int32} {i3 : Int32} {i4 : Int32} {ia : Nat → Nat → Int32} {la : Nat → Nat → Int64} {pl dr : Nat} {cp : Option Nat} {cw : Option Nat} {rp : Option Nat} {K : Option Value → zHP → Prop}  : zWP (d + 1) 185 189 [some (.ref 127), some (.int i1), some (.int i2), some (.int i3), some (.int i4)] [] (ia, la, zRA pl dr cp cw rp) K = zWM d 182 [.ref 127, .int i1, .int i4] (ia, la, zRA pl dr cp cw rp) (zK (d + 1) 185 197 [some (.ref 127), some (.int i1), some (.int i2), some (.int i3), some (.int i4)] [.int i3] K) := by
  refine (Q_iload_n zm_185 (Or.inl (by decide)) D185_189 rfl).trans ?_
  refine (Q_aload_n zm_185 (Or.inl (by decide)) D185_190 rfl).trans ?_
  refine (Q_iload_n zm_185 (Or.inl (by decide)) D185_191 rfl).trans ?_
  refine (Q_iload zm_185 (Or.inl (by decide)) D185_192 rfl).trans ?_
  exact Q_callv (as := [.int i1, .int i4]) (b := 127) (rest := [.int i3]) zm_185 (Or.inl (by decide)) D185_194 zc_10_381 rfl zk_127.1 (by decide) (by decide +kernel) (by decide) (by simp [zcat, Value.category]) zm_182 rfl

theorem b185_74 {d : Nat} {i1 : Int32} {i2 : Int32} {i3 : Int32} {s0 : Int32} {ia : Nat → Nat → Int32} {la : Nat → Nat → Int64} {pl dr : Nat} {cp : Option Nat} {cw : Option Nat} {rp : Option Nat} {K : Option Value → zHP → Prop}  : zWP (d + 1) 185 74 [some (.ref 127), some (.int i1), some (.int i2), some (.int i3), none] [.int s0] (ia, la, zRA pl dr cp cw rp) K = (if s0 = 0 then (vp_in i1 23 ∧ zWP (d + 1) 185 2 [some (.ref 127), some (.int i1), some (.int i2), some (.int (i3 + (1 : Int32))), none] [] ((zu ia 149 (i1).toNatClampNeg ((ia 149 (i1).toNatClampNeg) + (1 : Int32))), la, zRA pl dr cp cw rp) K) else (vp_in i3 20 ∧ zWM d 179 [.ref 127, .int i1, .int (ia 133 (i3).toNatClampNeg), .int (ia 134 (i3).toNatClampNeg), .int (ia 136 (i3).toNatClampNeg), .int (ia 137 (i3).toNatClampNeg)] (ia, la, zRA pl dr cp cw rp) (zK (d + 1) 185 106 [some (.ref 127), some (.int i1), some (.int i2), some (.int i3), none] [] K))) := by
  refine (Q_if_eq (tgt := 109) zm_185 (Or.inl (by decide)) D185_74 (by decide)).trans ?_
  refine zif_c (fun h0_ => ?_) (fun h0_ => ?_)
  · refine (Q_aload_n zm_185 (Or.inl (by decide)) D185_109 rfl).trans ?_
    refine (Q_getR (q := 149) zm_185 (Or.inl (by decide)) D185_110 zf_10_78 zs_10_37 zk_127.1 rfl).trans ?_
    refine (Q_iload_n zm_185 (Or.inl (by decide)) D185_113 rfl).trans ?_
    refine (Q_dup2 zm_185 (Or.inl (by decide)) D185_114 rfl rfl).trans ?_
    refine (Q_iaload zm_185 (Or.inl (by decide)) D185_115 zk_149.1 zk_149.2).trans ?_
    refine zand_c (fun h1_ => ?_)
    refine (Q_iconst (v := 1) zm_185 (Or.inl (by decide)) D185_116 (by decide)).trans ?_
    refine (Q_iadd zm_185 (Or.inl (by decide)) D185_117).trans ?_
    refine ((Q_iastore zm_185 (Or.inl (by decide)) D185_118 zk_149.1 zk_149.2).trans (zdrop h1_)).trans ?_
    refine (Q_iinc (v := 1) (ls' := [some (.ref 127), some (.int i1), some (.int i2), some (.int (i3 + (1 : Int32))), none]) zm_185 (Or.inl (by decide)) D185_119 rfl rfl (by decide) rfl).trans ?_
    refine (Q_goto (tgt := 2) zm_185 (Or.inl (by decide)) D185_122 (by decide)).trans ?_
    rfl
  · refine (Q_aload_n zm_185 (Or.inl (by decide)) D185_77 rfl).trans ?_
    refine (Q_iload_n zm_185 (Or.inl (by decide)) D185_78 rfl).trans ?_
    refine (Q_aload_n zm_185 (Or.inl (by decide)) D185_79 rfl).trans ?_
    refine (Q_getR (q := 133) zm_185 (Or.inl (by decide)) D185_80 zf_10_25 zs_10_7 zk_127.1 rfl).trans ?_
    refine (Q_iload_n zm_185 (Or.inl (by decide)) D185_83 rfl).trans ?_
    refine (Q_iaload zm_185 (Or.inl (by decide)) D185_84 zk_133.1 zk_133.2).trans ?_
    refine zand_c (fun h2_ => ?_)
    refine (Q_aload_n zm_185 (Or.inl (by decide)) D185_85 rfl).trans ?_
    refine (Q_getR (q := 134) zm_185 (Or.inl (by decide)) D185_86 zf_10_28 zs_10_8 zk_127.1 rfl).trans ?_
    refine (Q_iload_n zm_185 (Or.inl (by decide)) D185_89 rfl).trans ?_
    refine ((Q_iaload zm_185 (Or.inl (by decide)) D185_90 zk_134.1 zk_134.2).trans (zdrop h2_)).trans ?_
    refine (Q_aload_n zm_185 (Or.inl (by decide)) D185_91 rfl).trans ?_
    refine (Q_getR (q := 136) zm_185 (Or.inl (by decide)) D185_92 zf_10_34 zs_10_10 zk_127.1 rfl).trans ?_
    refine (Q_iload_n zm_185 (Or.inl (by decide)) D185_95 rfl).trans ?_
    refine ((Q_iaload zm_185 (Or.inl (by decide)) D185_96 zk_136.1 zk_136.2).trans (zdrop h2_)).trans ?_
    refine (Q_aload_n zm_185 (Or.inl (by decide)) D185_97 rfl).trans ?_
    refine (Q_getR (q := 137) zm_185 (Or.inl (by decide)) D185_98 zf_10_37 zs_10_11 zk_127.1 rfl).trans ?_
    refine (Q_iload_n zm_185 (Or.inl (by decide)) D185_101 rfl).trans ?_
    refine ((Q_iaload zm_185 (Or.inl (by decide)) D185_102 zk_137.1 zk_137.2).trans (zdrop h2_)).trans ?_
    exact Q_callv (as := [.int i1, .int (ia 133 (i3).toNatClampNeg), .int (ia 134 (i3).toNatClampNeg), .int (ia 136 (i3).toNatClampNeg), .int (ia 137 (i3).toNatClampNeg)]) (b := 127) (rest := []) zm_185 (Or.inl (by decide)) D185_103 zc_10_390 rfl zk_127.1 (by decide) (by decide +kernel) (by decide) (by simp [zcat, Value.category]) zm_179 rfl

theorem b185_244 {d : Nat} {i1 : Int32} {i2 : Int32} {i3 : Int32} {i4 : Int32} {s0 : Int32} {ia : Nat → Nat → Int32} {la : Nat → Nat → Int64} {pl dr : Nat} {cp : Option Nat} {cw : Option Nat} {rp : Option Nat} {K : Option Value → zHP → Prop}  : zWP (d + 1) 185 244 [some (.ref 127), some (.int i1), some (.int i2), some (.int i3), some (.int i4)] [.int s0] (ia, la, zRA pl dr cp cw rp) K = (if ¬ s0 = 0 then (vp_in (((6 : Int32) * i1) + i4) 138 ∧ (if ¬ ((zu ia 154 ((((6 : Int32) * i1) + i4)).toNatClampNeg ((ia 154 ((((6 : Int32) * i1) + i4)).toNatClampNeg) - (1 : Int32))) 154 ((((6 : Int32) * i1) + i4)).toNatClampNeg) = 0 then zWP (d + 1) 185 226 [some (.ref 127), some (.int i1), some (.int i2), some (.int i3), some (.int (i4 + (1 : Int32)))] [] ((zu ia 154 ((((6 : Int32) * i1) + i4)).toNatClampNeg ((ia 154 ((((6 : Int32) * i1) + i4)).toNatClampNeg) - (1 : Int32))), la, zRA pl dr cp cw rp) K else zWM d 184 [.ref 127, .int i1, .int i4] ((zu ia 154 ((((6 : Int32) * i1) + i4)).toNatClampNeg ((ia 154 ((((6 : Int32) * i1) + i4)).toNatClampNeg) - (1 : Int32))), la, zRA pl dr cp cw rp) (zK (d + 1) 185 288 [some (.ref 127), some (.int i1), some (.int i2), some (.int i3), some (.int i4)] [] K))) else zWP (d + 1) 185 226 [some (.ref 127), some (.int i1), some (.int i2), some (.int i3), some (.int (i4 + (1 : Int32)))] [] (ia, la, zRA pl dr cp cw rp) K) := by
  refine (Q_if_ne (tgt := 250) zm_185 (Or.inl (by decide)) D185_244 (by decide)).trans ?_
  refine zif_c (fun h0_ => ?_) (fun h0_ => ?_)
  · refine (Q_aload_n zm_185 (Or.inl (by decide)) D185_250 rfl).trans ?_
    refine (Q_getR (q := 154) zm_185 (Or.inl (by decide)) D185_251 zf_10_93 zs_10_42 zk_127.1 rfl).trans ?_
    refine (Q_bipush (v := 6) zm_185 (Or.inl (by decide)) D185_254 (by decide)).trans ?_
    refine (Q_iload_n zm_185 (Or.inl (by decide)) D185_256 rfl).trans ?_
    refine (Q_imul zm_185 (Or.inl (by decide)) D185_257).trans ?_
    refine (Q_iload zm_185 (Or.inl (by decide)) D185_258 rfl).trans ?_
    refine (Q_iadd zm_185 (Or.inl (by decide)) D185_260).trans ?_
    refine (Q_dup2 zm_185 (Or.inl (by decide)) D185_261 rfl rfl).trans ?_
    refine (Q_iaload zm_185 (Or.inl (by decide)) D185_262 zk_154.1 zk_154.2).trans ?_
    refine zand_c (fun h1_ => ?_)
    refine (Q_iconst (v := 1) zm_185 (Or.inl (by decide)) D185_263 (by decide)).trans ?_
    refine (Q_isub zm_185 (Or.inl (by decide)) D185_264).trans ?_
    refine ((Q_iastore zm_185 (Or.inl (by decide)) D185_265 zk_154.1 zk_154.2).trans (zdrop h1_)).trans ?_
    refine (Q_aload_n zm_185 (Or.inl (by decide)) D185_266 rfl).trans ?_
    refine (Q_getR (q := 154) zm_185 (Or.inl (by decide)) D185_267 zf_10_93 zs_10_42 zk_127.1 rfl).trans ?_
    refine (Q_bipush (v := 6) zm_185 (Or.inl (by decide)) D185_270 (by decide)).trans ?_
    refine (Q_iload_n zm_185 (Or.inl (by decide)) D185_272 rfl).trans ?_
    refine (Q_imul zm_185 (Or.inl (by decide)) D185_273).trans ?_
    refine (Q_iload zm_185 (Or.inl (by decide)) D185_274 rfl).trans ?_
    refine (Q_iadd zm_185 (Or.inl (by decide)) D185_276).trans ?_
    refine ((Q_iaload zm_185 (Or.inl (by decide)) D185_277 zk_154.1 zk_154.2).trans (zdrop h1_)).trans ?_
    refine (Q_if_ne (tgt := 288) zm_185 (Or.inl (by decide)) D185_278 (by decide)).trans ?_
    refine zif_c (fun h2_ => ?_) (fun h2_ => ?_)
    · refine (Q_iinc (v := 1) (ls' := [some (.ref 127), some (.int i1), some (.int i2), some (.int i3), some (.int (i4 + (1 : Int32)))]) zm_185 (Or.inl (by decide)) D185_288 rfl rfl (by decide) rfl).trans ?_
      refine (Q_goto (tgt := 226) zm_185 (Or.inl (by decide)) D185_291 (by decide)).trans ?_
      rfl
    · refine (Q_aload_n zm_185 (Or.inl (by decide)) D185_281 rfl).trans ?_
      refine (Q_iload_n zm_185 (Or.inl (by decide)) D185_282 rfl).trans ?_
      refine (Q_iload zm_185 (Or.inl (by decide)) D185_283 rfl).trans ?_
      exact Q_callv (as := [.int i1, .int i4]) (b := 127) (rest := []) zm_185 (Or.inl (by decide)) D185_285 zc_10_404 rfl zk_127.1 (by decide) (by decide +kernel) (by decide) (by simp [zcat, Value.category]) zm_184 rfl
  · refine (Q_goto (tgt := 288) zm_185 (Or.inl (by decide)) D185_247 (by decide)).trans ?_
    refine (Q_iinc (v := 1) (ls' := [some (.ref 127), some (.int i1), some (.int i2), some (.int i3), some (.int (i4 + (1 : Int32)))]) zm_185 (Or.inl (by decide)) D185_288 rfl rfl (by decide) rfl).trans ?_
    refine (Q_goto (tgt := 226) zm_185 (Or.inl (by decide)) D185_291 (by decide)).trans ?_
    rfl

theorem b185_223 {d : Nat} {i1 : Int32} {i2 : Int32} {i3 : Int32} {i4 : Int32} {ia : Nat → Nat → Int32} {la : Nat → Nat → Int64} {pl dr : Nat} {cp : Option Nat} {cw : Option Nat} {rp : Option Nat} {K : Option Value → zHP → Prop}  : zWP d 185 223 [some (.ref 127), some (.int i1), some (.int i2), some (.int i3), some (.int i4)] [] (ia, la, zRA pl dr cp cw rp) K = zWP d 185 226 [some (.ref 127), some (.int i1), some (.int i2), some (.int i3), some (.int (0 : Int32))] [] (ia, la, zRA pl dr cp cw rp) K := by
  refine (Q_iconst (v := 0) zm_185 (Or.inl (by decide)) D185_223 (by decide)).trans ?_
  refine (Q_istore (ls' := [some (.ref 127), some (.int i1), some (.int i2), some (.int i3), some (.int (0 : Int32))]) zm_185 (Or.inl (by decide)) D185_224 rfl (Nat.le_of_ble_eq_true rfl) rfl).trans ?_
  rfl

theorem b185_197 {d : Nat} {i1 : Int32} {i2 : Int32} {i3 : Int32} {i4 : Int32} {s0 : Int32} {s1 : Int32} {ia : Nat → Nat → Int32} {la : Nat → Nat → Int64} {pl dr : Nat} {cp : Option Nat} {cw : Option Nat} {rp : Option Nat} {K : Option Value → zHP → Prop}  : zWP d 185 197 [some (.ref 127), some (.int i1), some (.int i2), some (.int i3), some (.int i4)] [.int s1, .int s0] (ia, la, zRA pl dr cp cw rp) K = zWP d 185 130 [some (.ref 127), some (.int i1), some (.int i2), some (.int (s0 ||| s1)), some (.int (i4 + (1 : Int32)))] [] (ia, la, zRA pl dr cp cw rp) K := by
  refine (Q_ior zm_185 (Or.inl (by decide)) D185_197).trans ?_
  refine (Q_istore_n (ls' := [some (.ref 127), some (.int i1), some (.int i2), some (.int (s0 ||| s1)), some (.int i4)]) zm_185 (Or.inl (by decide)) D185_198 rfl (Nat.le_of_ble_eq_true rfl) rfl).trans ?_
  refine (Q_iinc (v := 1) (ls' := [some (.ref 127), some (.int i1), some (.int i2), some (.int (s0 ||| s1)), some (.int (i4 + (1 : Int32)))]) zm_185 (Or.inl (by decide)) D185_199 rfl rfl (by decide) rfl).trans ?_
  refine (Q_goto (tgt := 130) zm_185 (Or.inl (by decide)) D185_202 (by decide)).trans ?_
  rfl

theorem b185_106 {d : Nat} {i1 : Int32} {i2 : Int32} {i3 : Int32} {ia : Nat → Nat → Int32} {la : Nat → Nat → Int64} {pl dr : Nat} {cp : Option Nat} {cw : Option Nat} {rp : Option Nat} {K : Option Value → zHP → Prop}  : zWP d 185 106 [some (.ref 127), some (.int i1), some (.int i2), some (.int i3), none] [] (ia, la, zRA pl dr cp cw rp) K = zWP d 185 2 [some (.ref 127), some (.int i1), some (.int i2), some (.int (i3 + (1 : Int32))), none] [] (ia, la, zRA pl dr cp cw rp) K := by
  refine (Q_goto (tgt := 119) zm_185 (Or.inl (by decide)) D185_106 (by decide)).trans ?_
  refine (Q_iinc (v := 1) (ls' := [some (.ref 127), some (.int i1), some (.int i2), some (.int (i3 + (1 : Int32))), none]) zm_185 (Or.inl (by decide)) D185_119 rfl rfl (by decide) rfl).trans ?_
  refine (Q_goto (tgt := 2) zm_185 (Or.inl (by decide)) D185_122 (by decide)).trans ?_
  rfl

theorem b185_288 {d : Nat} {i1 : Int32} {i2 : Int32} {i3 : Int32} {i4 : Int32} {ia : Nat → Nat → Int32} {la : Nat → Nat → Int64} {pl dr : Nat} {cp : Option Nat} {cw : Option Nat} {rp : Option Nat} {K : Option Value → zHP → Prop}  : zWP d 185 288 [some (.ref 127), some (.int i1), some (.int i2), some (.int i3), some (.int i4)] [] (ia, la, zRA pl dr cp cw rp) K = zWP d 185 226 [some (.ref 127), some (.int i1), some (.int i2), some (.int i3), some (.int (i4 + (1 : Int32)))] [] (ia, la, zRA pl dr cp cw rp) K := by
  refine (Q_iinc (v := 1) (ls' := [some (.ref 127), some (.int i1), some (.int i2), some (.int i3), some (.int (i4 + (1 : Int32)))]) zm_185 (Or.inl (by decide)) D185_288 rfl rfl (by decide) rfl).trans ?_
  refine (Q_goto (tgt := 226) zm_185 (Or.inl (by decide)) D185_291 (by decide)).trans ?_
  rfl

/-! HandsLetModel.goesOn(I)V -/
theorem D186_0 : decode prog_12_method_60_code 0 = .ok (.iconst 0, 1) := by decide +kernel
theorem D186_1 : decode prog_12_method_60_code 1 = .ok (.istore_n 2, 1) := by decide +kernel
theorem D186_2 : decode prog_12_method_60_code 2 = .ok (.iload_n 2, 1) := by decide +kernel
theorem D186_3 : decode prog_12_method_60_code 3 = .ok (.iload_n 1, 1) := by decide +kernel
theorem D186_4 : decode prog_12_method_60_code 4 = .ok (.if_icmp .ge 15, 3) := by decide +kernel
theorem D186_7 : decode prog_12_method_60_code 7 = .ok (.aload_n 0, 1) := by decide +kernel
theorem D186_8 : decode prog_12_method_60_code 8 = .ok (.iconst 1, 1) := by decide +kernel
theorem D186_9 : decode prog_12_method_60_code 9 = .ok (.iconst 0, 1) := by decide +kernel
theorem D186_10 : decode prog_12_method_60_code 10 = .ok (.invokevirtual 407, 3) := by decide +kernel
theorem D186_13 : decode prog_12_method_60_code 13 = .ok (.iinc 2 1, 3) := by decide +kernel
theorem D186_16 : decode prog_12_method_60_code 16 = .ok (.goto (-14), 3) := by decide +kernel
theorem D186_19 : decode prog_12_method_60_code 19 = .ok (.return_, 1) := by decide +kernel

theorem b186_0 {d : Nat} {i1 : Int32} {ia : Nat → Nat → Int32} {la : Nat → Nat → Int64} {pl dr : Nat} {cp : Option Nat} {cw : Option Nat} {rp : Option Nat} {K : Option Value → zHP → Prop}  : zWP d 186 0 [some (.ref 127), some (.int i1), none] [] (ia, la, zRA pl dr cp cw rp) K = zWP d 186 2 [some (.ref 127), some (.int i1), some (.int (0 : Int32))] [] (ia, la, zRA pl dr cp cw rp) K := by
  refine (Q_iconst (v := 0) zm_186 (Or.inl (by decide)) D186_0 (by decide)).trans ?_
  refine (Q_istore_n (ls' := [some (.ref 127), some (.int i1), some (.int (0 : Int32))]) zm_186 (Or.inl (by decide)) D186_1 rfl (Nat.le_of_ble_eq_true rfl) rfl).trans ?_
  rfl

theorem b186_2 {d : Nat} {i1 : Int32} {i2 : Int32} {ia : Nat → Nat → Int32} {la : Nat → Nat → Int64} {pl dr : Nat} {cp : Option Nat} {cw : Option Nat} {rp : Option Nat} {K : Option Value → zHP → Prop}  : zWP (d + 1) 186 2 [some (.ref 127), some (.int i1), some (.int i2)] [] (ia, la, zRA pl dr cp cw rp) K = (if i1 ≤ i2 then K none (ia, la, zRA pl dr cp cw rp) else zWM d 185 [.ref 127, .int (1 : Int32), .int (0 : Int32)] (ia, la, zRA pl dr cp cw rp) (zK (d + 1) 186 13 [some (.ref 127), some (.int i1), some (.int i2)] [] K)) := by
  refine (Q_iload_n zm_186 (Or.inl (by decide)) D186_2 rfl).trans ?_
  refine (Q_iload_n zm_186 (Or.inl (by decide)) D186_3 rfl).trans ?_
  refine (Q_ic_ge (tgt := 19) zm_186 (Or.inl (by decide)) D186_4 (by decide)).trans ?_
  refine zif_c (fun h0_ => ?_) (fun h0_ => ?_)
  · exact Q_return zm_186 (Or.inl (by decide)) D186_19 rfl
  · refine (Q_aload_n zm_186 (Or.inl (by decide)) D186_7 rfl).trans ?_
    refine (Q_iconst (v := 1) zm_186 (Or.inl (by decide)) D186_8 (by decide)).trans ?_
    refine (Q_iconst (v := 0) zm_186 (Or.inl (by decide)) D186_9 (by decide)).trans ?_
    exact Q_callv (as := [.int (1 : Int32), .int (0 : Int32)]) (b := 127) (rest := []) zm_186 (Or.inl (by decide)) D186_10 zc_10_407 rfl zk_127.1 (by decide) (by decide +kernel) (by decide) (by simp [zcat, Value.category]) zm_185 rfl

theorem b186_13 {d : Nat} {i1 : Int32} {i2 : Int32} {ia : Nat → Nat → Int32} {la : Nat → Nat → Int64} {pl dr : Nat} {cp : Option Nat} {cw : Option Nat} {rp : Option Nat} {K : Option Value → zHP → Prop}  : zWP d 186 13 [some (.ref 127), some (.int i1), some (.int i2)] [] (ia, la, zRA pl dr cp cw rp) K = zWP d 186 2 [some (.ref 127), some (.int i1), some (.int (i2 + (1 : Int32)))] [] (ia, la, zRA pl dr cp cw rp) K := by
  refine (Q_iinc (v := 1) (ls' := [some (.ref 127), some (.int i1), some (.int (i2 + (1 : Int32)))]) zm_186 (Or.inl (by decide)) D186_13 rfl rfl (by decide) rfl).trans ?_
  refine (Q_goto (tgt := 2) zm_186 (Or.inl (by decide)) D186_16 (by decide)).trans ?_
  rfl

/-! HandsLetModel.forgedBy(II)I -/
theorem D187_0 : decode prog_12_method_61_code 0 = .ok (.iconst 0, 1) := by decide +kernel
theorem D187_1 : decode prog_12_method_61_code 1 = .ok (.istore_n 3, 1) := by decide +kernel
theorem D187_2 : decode prog_12_method_61_code 2 = .ok (.iconst 0, 1) := by decide +kernel
theorem D187_3 : decode prog_12_method_61_code 3 = .ok (.istore 4, 2) := by decide +kernel
theorem D187_5 : decode prog_12_method_61_code 5 = .ok (.iload 4, 2) := by decide +kernel
theorem D187_7 : decode prog_12_method_61_code 7 = .ok (.aload_n 0, 1) := by decide +kernel
theorem D187_8 : decode prog_12_method_61_code 8 = .ok (.getfield 13, 3) := by decide +kernel
theorem D187_11 : decode prog_12_method_61_code 11 = .ok (.iconst 2, 1) := by decide +kernel
theorem D187_12 : decode prog_12_method_61_code 12 = .ok (.iaload, 1) := by decide +kernel
theorem D187_13 : decode prog_12_method_61_code 13 = .ok (.if_icmp .ge 61, 3) := by decide +kernel
theorem D187_16 : decode prog_12_method_61_code 16 = .ok (.aload_n 0, 1) := by decide +kernel
theorem D187_17 : decode prog_12_method_61_code 17 = .ok (.getfield 102, 3) := by decide +kernel
theorem D187_20 : decode prog_12_method_61_code 20 = .ok (.bipush 12, 2) := by decide +kernel
theorem D187_22 : decode prog_12_method_61_code 22 = .ok (.iload_n 1, 1) := by decide +kernel
theorem D187_23 : decode prog_12_method_61_code 23 = .ok (.imul, 1) := by decide +kernel
theorem D187_24 : decode prog_12_method_61_code 24 = .ok (.iload 4, 2) := by decide +kernel
theorem D187_26 : decode prog_12_method_61_code 26 = .ok (.iadd, 1) := by decide +kernel
theorem D187_27 : decode prog_12_method_61_code 27 = .ok (.iaload, 1) := by decide +kernel
theorem D187_28 : decode prog_12_method_61_code 28 = .ok (.iconst 2, 1) := by decide +kernel
theorem D187_29 : decode prog_12_method_61_code 29 = .ok (.if_icmp .ne 7, 3) := by decide +kernel
theorem D187_32 : decode prog_12_method_61_code 32 = .ok (.iconst 1, 1) := by decide +kernel
theorem D187_33 : decode prog_12_method_61_code 33 = .ok (.goto 4, 3) := by decide +kernel
theorem D187_36 : decode prog_12_method_61_code 36 = .ok (.iconst 0, 1) := by decide +kernel
theorem D187_37 : decode prog_12_method_61_code 37 = .ok (.istore 5, 2) := by decide +kernel
theorem D187_39 : decode prog_12_method_61_code 39 = .ok (.iload_n 3, 1) := by decide +kernel
theorem D187_40 : decode prog_12_method_61_code 40 = .ok (.iload 5, 2) := by decide +kernel
theorem D187_42 : decode prog_12_method_61_code 42 = .ok (.ifCond .eq 23, 3) := by decide +kernel
theorem D187_45 : decode prog_12_method_61_code 45 = .ok (.iload_n 2, 1) := by decide +kernel
theorem D187_46 : decode prog_12_method_61_code 46 = .ok (.iconst (-1), 1) := by decide +kernel
theorem D187_47 : decode prog_12_method_61_code 47 = .ok (.if_icmp .eq 14, 3) := by decide +kernel
theorem D187_50 : decode prog_12_method_61_code 50 = .ok (.aload_n 0, 1) := by decide +kernel
theorem D187_51 : decode prog_12_method_61_code 51 = .ok (.getfield 40, 3) := by decide +kernel
theorem D187_54 : decode prog_12_method_61_code 54 = .ok (.iload 4, 2) := by decide +kernel
theorem D187_56 : decode prog_12_method_61_code 56 = .ok (.iaload, 1) := by decide +kernel
theorem D187_57 : decode prog_12_method_61_code 57 = .ok (.iload_n 2, 1) := by decide +kernel
theorem D187_58 : decode prog_12_method_61_code 58 = .ok (.if_icmp .ne 7, 3) := by decide +kernel
theorem D187_61 : decode prog_12_method_61_code 61 = .ok (.iconst 1, 1) := by decide +kernel
theorem D187_62 : decode prog_12_method_61_code 62 = .ok (.goto 4, 3) := by decide +kernel
theorem D187_65 : decode prog_12_method_61_code 65 = .ok (.iconst 0, 1) := by decide +kernel
theorem D187_66 : decode prog_12_method_61_code 66 = .ok (.iadd, 1) := by decide +kernel
theorem D187_67 : decode prog_12_method_61_code 67 = .ok (.istore_n 3, 1) := by decide +kernel
theorem D187_68 : decode prog_12_method_61_code 68 = .ok (.iinc 4 1, 3) := by decide +kernel
theorem D187_71 : decode prog_12_method_61_code 71 = .ok (.goto (-66), 3) := by decide +kernel
theorem D187_74 : decode prog_12_method_61_code 74 = .ok (.iload_n 3, 1) := by decide +kernel
theorem D187_75 : decode prog_12_method_61_code 75 = .ok (.ireturn, 1) := by decide +kernel

theorem b187_0 {d : Nat} {i1 : Int32} {i2 : Int32} {ia : Nat → Nat → Int32} {la : Nat → Nat → Int64} {pl dr : Nat} {cp : Option Nat} {cw : Option Nat} {rp : Option Nat} {K : Option Value → zHP → Prop}  : zWP d 187 0 [some (.ref 127), some (.int i1), some (.int i2), none, none, none] [] (ia, la, zRA pl dr cp cw rp) K = zWP d 187 5 [some (.ref 127), some (.int i1), some (.int i2), some (.int (0 : Int32)), some (.int (0 : Int32)), none] [] (ia, la, zRA pl dr cp cw rp) K := by
  refine (Q_iconst (v := 0) zm_187 (Or.inl (by decide)) D187_0 (by decide)).trans ?_
  refine (Q_istore_n (ls' := [some (.ref 127), some (.int i1), some (.int i2), some (.int (0 : Int32)), none, none]) zm_187 (Or.inl (by decide)) D187_1 rfl (Nat.le_of_ble_eq_true rfl) rfl).trans ?_
  refine (Q_iconst (v := 0) zm_187 (Or.inl (by decide)) D187_2 (by decide)).trans ?_
  refine (Q_istore (ls' := [some (.ref 127), some (.int i1), some (.int i2), some (.int (0 : Int32)), some (.int (0 : Int32)), none]) zm_187 (Or.inl (by decide)) D187_3 rfl (Nat.le_of_ble_eq_true rfl) rfl).trans ?_
  rfl

theorem b187_5 {d : Nat} {i1 : Int32} {i2 : Int32} {i3 : Int32} {i4 : Int32} {a5 : Option Value} {ia : Nat → Nat → Int32} {la : Nat → Nat → Int64} {pl dr : Nat} {cp : Option Nat} {cw : Option Nat} {rp : Option Nat} {K : Option Value → zHP → Prop}  : zWP d 187 5 [some (.ref 127), some (.int i1), some (.int i2), some (.int i3), some (.int i4), a5] [] (ia, la, zRA pl dr cp cw rp) K = (if (ia 129 2) ≤ i4 then K (some (.int i3)) (ia, la, zRA pl dr cp cw rp) else (vp_in (((12 : Int32) * i1) + i4) 276 ∧ (if ¬ (ia 157 ((((12 : Int32) * i1) + i4)).toNatClampNeg) = (2 : Int32) then zWP d 187 37 [some (.ref 127), some (.int i1), some (.int i2), some (.int i3), some (.int i4), a5] [.int (0 : Int32)] (ia, la, zRA pl dr cp cw rp) K else zWP d 187 37 [some (.ref 127), some (.int i1), some (.int i2), some (.int i3), some (.int i4), a5] [.int (1 : Int32)] (ia, la, zRA pl dr cp cw rp) K))) := by
  refine (Q_iload zm_187 (Or.inl (by decide)) D187_5 rfl).trans ?_
  refine (Q_aload_n zm_187 (Or.inl (by decide)) D187_7 rfl).trans ?_
  refine (Q_getR (q := 129) zm_187 (Or.inl (by decide)) D187_8 zf_10_13 zs_10_3 zk_127.1 rfl).trans ?_
  refine (Q_iconst (v := 2) zm_187 (Or.inl (by decide)) D187_11 (by decide)).trans ?_
  refine ((Q_iaload zm_187 (Or.inl (by decide)) D187_12 zk_129.1 zk_129.2).trans (zdrop (zin_spec (by decide)))).trans ?_
  refine (Q_ic_ge (tgt := 74) zm_187 (Or.inl (by decide)) D187_13 (by decide)).trans ?_
  refine zif_c (fun h0_ => ?_) (fun h0_ => ?_)
  · refine (Q_iload_n zm_187 (Or.inl (by decide)) D187_74 rfl).trans ?_
    exact Q_ireturn zm_187 (Or.inl (by decide)) D187_75 rfl
  · refine (Q_aload_n zm_187 (Or.inl (by decide)) D187_16 rfl).trans ?_
    refine (Q_getR (q := 157) zm_187 (Or.inl (by decide)) D187_17 zf_10_102 zs_10_45 zk_127.1 rfl).trans ?_
    refine (Q_bipush (v := 12) zm_187 (Or.inl (by decide)) D187_20 (by decide)).trans ?_
    refine (Q_iload_n zm_187 (Or.inl (by decide)) D187_22 rfl).trans ?_
    refine (Q_imul zm_187 (Or.inl (by decide)) D187_23).trans ?_
    refine (Q_iload zm_187 (Or.inl (by decide)) D187_24 rfl).trans ?_
    refine (Q_iadd zm_187 (Or.inl (by decide)) D187_26).trans ?_
    refine (Q_iaload zm_187 (Or.inl (by decide)) D187_27 zk_157.1 zk_157.2).trans ?_
    refine zand_c (fun h1_ => ?_)
    refine (Q_iconst (v := 2) zm_187 (Or.inl (by decide)) D187_28 (by decide)).trans ?_
    refine (Q_ic_ne (tgt := 36) zm_187 (Or.inl (by decide)) D187_29 (by decide)).trans ?_
    refine zif_c (fun h2_ => ?_) (fun h2_ => ?_)
    · refine (Q_iconst (v := 0) zm_187 (Or.inl (by decide)) D187_36 (by decide)).trans ?_
      rfl
    · refine (Q_iconst (v := 1) zm_187 (Or.inl (by decide)) D187_32 (by decide)).trans ?_
      refine (Q_goto (tgt := 37) zm_187 (Or.inl (by decide)) D187_33 (by decide)).trans ?_
      rfl

theorem b187_37 {d : Nat} {i1 : Int32} {i2 : Int32} {i3 : Int32} {i4 : Int32} {a5 : Option Value} {s0 : Int32} {ia : Nat → Nat → Int32} {la : Nat → Nat → Int64} {pl dr : Nat} {cp : Option Nat} {cw : Option Nat} {rp : Option Nat} {K : Option Value → zHP → Prop}  : zWP d 187 37 [some (.ref 127), some (.int i1), some (.int i2), some (.int i3), some (.int i4), a5] [.int s0] (ia, la, zRA pl dr cp cw rp) K = (if s0 = 0 then zWP d 187 5 [some (.ref 127), some (.int i1), some (.int i2), some (.int (i3 + (0 : Int32))), some (.int (i4 + (1 : Int32))), some (.int s0)] [] (ia, la, zRA pl dr cp cw rp) K else (if i2 = (-1 : Int32) then zWP d 187 5 [some (.ref 127), some (.int i1), some (.int i2), some (.int (i3 + (1 : Int32))), some (.int (i4 + (1 : Int32))), some (.int s0)] [] (ia, la, zRA pl dr cp cw rp) K else (vp_in i4 24 ∧ (if ¬ (ia 138 (i4).toNatClampNeg) = i2 then zWP d 187 5 [some (.ref 127), some (.int i1), some (.int i2), some (.int (i3 + (0 : Int32))), some (.int (i4 + (1 : Int32))), some (.int s0)] [] (ia, la, zRA pl dr cp cw rp) K else zWP d 187 5 [some (.ref 127), some (.int i1), some (.int i2), some (.int (i3 + (1 : Int32))), some (.int (i4 + (1 : Int32))), some (.int s0)] [] (ia, la, zRA pl dr cp cw rp) K)))) := by
  refine (Q_istore (ls' := [some (.ref 127), some (.int i1), some (.int i2), some (.int i3), some (.int i4), some (.int s0)]) zm_187 (Or.inl (by decide)) D187_37 rfl (Nat.le_of_ble_eq_true rfl) rfl).trans ?_
  refine (Q_iload_n zm_187 (Or.inl (by decide)) D187_39 rfl).trans ?_
  refine (Q_iload zm_187 (Or.inl (by decide)) D187_40 rfl).trans ?_
  refine (Q_if_eq (tgt := 65) zm_187 (Or.inl (by decide)) D187_42 (by decide)).trans ?_
  refine zif_c (fun h0_ => ?_) (fun h0_ => ?_)
  · refine (Q_iconst (v := 0) zm_187 (Or.inl (by decide)) D187_65 (by decide)).trans ?_
    refine (Q_iadd zm_187 (Or.inl (by decide)) D187_66).trans ?_
    refine (Q_istore_n (ls' := [some (.ref 127), some (.int i1), some (.int i2), some (.int (i3 + (0 : Int32))), some (.int i4), some (.int s0)]) zm_187 (Or.inl (by decide)) D187_67 rfl (Nat.le_of_ble_eq_true rfl) rfl).trans ?_
    refine (Q_iinc (v := 1) (ls' := [some (.ref 127), some (.int i1), some (.int i2), some (.int (i3 + (0 : Int32))), some (.int (i4 + (1 : Int32))), some (.int s0)]) zm_187 (Or.inl (by decide)) D187_68 rfl rfl (by decide) rfl).trans ?_
    refine (Q_goto (tgt := 5) zm_187 (Or.inl (by decide)) D187_71 (by decide)).trans ?_
    rfl
  · refine (Q_iload_n zm_187 (Or.inl (by decide)) D187_45 rfl).trans ?_
    refine (Q_iconst (v := -1) zm_187 (Or.inl (by decide)) D187_46 (by decide)).trans ?_
    refine (Q_ic_eq (tgt := 61) zm_187 (Or.inl (by decide)) D187_47 (by decide)).trans ?_
    refine zif_c (fun h1_ => ?_) (fun h1_ => ?_)
    · refine (Q_iconst (v := 1) zm_187 (Or.inl (by decide)) D187_61 (by decide)).trans ?_
      refine (Q_goto (tgt := 66) zm_187 (Or.inl (by decide)) D187_62 (by decide)).trans ?_
      refine (Q_iadd zm_187 (Or.inl (by decide)) D187_66).trans ?_
      refine (Q_istore_n (ls' := [some (.ref 127), some (.int i1), some (.int i2), some (.int (i3 + (1 : Int32))), some (.int i4), some (.int s0)]) zm_187 (Or.inl (by decide)) D187_67 rfl (Nat.le_of_ble_eq_true rfl) rfl).trans ?_
      refine (Q_iinc (v := 1) (ls' := [some (.ref 127), some (.int i1), some (.int i2), some (.int (i3 + (1 : Int32))), some (.int (i4 + (1 : Int32))), some (.int s0)]) zm_187 (Or.inl (by decide)) D187_68 rfl rfl (by decide) rfl).trans ?_
      refine (Q_goto (tgt := 5) zm_187 (Or.inl (by decide)) D187_71 (by decide)).trans ?_
      rfl
    · refine (Q_aload_n zm_187 (Or.inl (by decide)) D187_50 rfl).trans ?_
      refine (Q_getR (q := 138) zm_187 (Or.inl (by decide)) D187_51 zf_10_40 zs_10_12 zk_127.1 rfl).trans ?_
      refine (Q_iload zm_187 (Or.inl (by decide)) D187_54 rfl).trans ?_
      refine (Q_iaload zm_187 (Or.inl (by decide)) D187_56 zk_138.1 zk_138.2).trans ?_
      refine zand_c (fun h2_ => ?_)
      refine (Q_iload_n zm_187 (Or.inl (by decide)) D187_57 rfl).trans ?_
      refine (Q_ic_ne (tgt := 65) zm_187 (Or.inl (by decide)) D187_58 (by decide)).trans ?_
      refine zif_c (fun h3_ => ?_) (fun h3_ => ?_)
      · refine (Q_iconst (v := 0) zm_187 (Or.inl (by decide)) D187_65 (by decide)).trans ?_
        refine (Q_iadd zm_187 (Or.inl (by decide)) D187_66).trans ?_
        refine (Q_istore_n (ls' := [some (.ref 127), some (.int i1), some (.int i2), some (.int (i3 + (0 : Int32))), some (.int i4), some (.int s0)]) zm_187 (Or.inl (by decide)) D187_67 rfl (Nat.le_of_ble_eq_true rfl) rfl).trans ?_
        refine (Q_iinc (v := 1) (ls' := [some (.ref 127), some (.int i1), some (.int i2), some (.int (i3 + (0 : Int32))), some (.int (i4 + (1 : Int32))), some (.int s0)]) zm_187 (Or.inl (by decide)) D187_68 rfl rfl (by decide) rfl).trans ?_
        refine (Q_goto (tgt := 5) zm_187 (Or.inl (by decide)) D187_71 (by decide)).trans ?_
        rfl
      · refine (Q_iconst (v := 1) zm_187 (Or.inl (by decide)) D187_61 (by decide)).trans ?_
        refine (Q_goto (tgt := 66) zm_187 (Or.inl (by decide)) D187_62 (by decide)).trans ?_
        refine (Q_iadd zm_187 (Or.inl (by decide)) D187_66).trans ?_
        refine (Q_istore_n (ls' := [some (.ref 127), some (.int i1), some (.int i2), some (.int (i3 + (1 : Int32))), some (.int i4), some (.int s0)]) zm_187 (Or.inl (by decide)) D187_67 rfl (Nat.le_of_ble_eq_true rfl) rfl).trans ?_
        refine (Q_iinc (v := 1) (ls' := [some (.ref 127), some (.int i1), some (.int i2), some (.int (i3 + (1 : Int32))), some (.int (i4 + (1 : Int32))), some (.int s0)]) zm_187 (Or.inl (by decide)) D187_68 rfl rfl (by decide) rfl).trans ?_
        refine (Q_goto (tgt := 5) zm_187 (Or.inl (by decide)) D187_71 (by decide)).trans ?_
        rfl

/-! HandsLetModel.purses(I)I -/
theorem D188_0 : decode prog_12_method_62_code 0 = .ok (.iconst 0, 1) := by decide +kernel
theorem D188_1 : decode prog_12_method_62_code 1 = .ok (.istore_n 2, 1) := by decide +kernel
theorem D188_2 : decode prog_12_method_62_code 2 = .ok (.iconst 0, 1) := by decide +kernel
theorem D188_3 : decode prog_12_method_62_code 3 = .ok (.istore_n 3, 1) := by decide +kernel
theorem D188_4 : decode prog_12_method_62_code 4 = .ok (.iload_n 3, 1) := by decide +kernel
theorem D188_5 : decode prog_12_method_62_code 5 = .ok (.aload_n 0, 1) := by decide +kernel
theorem D188_6 : decode prog_12_method_62_code 6 = .ok (.getfield 13, 3) := by decide +kernel
theorem D188_9 : decode prog_12_method_62_code 9 = .ok (.iconst 0, 1) := by decide +kernel
theorem D188_10 : decode prog_12_method_62_code 10 = .ok (.iaload, 1) := by decide +kernel
theorem D188_11 : decode prog_12_method_62_code 11 = .ok (.if_icmp .ge 23, 3) := by decide +kernel
theorem D188_14 : decode prog_12_method_62_code 14 = .ok (.iload_n 2, 1) := by decide +kernel
theorem D188_15 : decode prog_12_method_62_code 15 = .ok (.aload_n 0, 1) := by decide +kernel
theorem D188_16 : decode prog_12_method_62_code 16 = .ok (.getfield 99, 3) := by decide +kernel
theorem D188_19 : decode prog_12_method_62_code 19 = .ok (.bipush 6, 2) := by decide +kernel
theorem D188_21 : decode prog_12_method_62_code 21 = .ok (.iload_n 1, 1) := by decide +kernel
theorem D188_22 : decode prog_12_method_62_code 22 = .ok (.imul, 1) := by decide +kernel
theorem D188_23 : decode prog_12_method_62_code 23 = .ok (.iload_n 3, 1) := by decide +kernel
theorem D188_24 : decode prog_12_method_62_code 24 = .ok (.iadd, 1) := by decide +kernel
theorem D188_25 : decode prog_12_method_62_code 25 = .ok (.iaload, 1) := by decide +kernel
theorem D188_26 : decode prog_12_method_62_code 26 = .ok (.iadd, 1) := by decide +kernel
theorem D188_27 : decode prog_12_method_62_code 27 = .ok (.istore_n 2, 1) := by decide +kernel
theorem D188_28 : decode prog_12_method_62_code 28 = .ok (.iinc 3 1, 3) := by decide +kernel
theorem D188_31 : decode prog_12_method_62_code 31 = .ok (.goto (-27), 3) := by decide +kernel
theorem D188_34 : decode prog_12_method_62_code 34 = .ok (.iload_n 2, 1) := by decide +kernel
theorem D188_35 : decode prog_12_method_62_code 35 = .ok (.ireturn, 1) := by decide +kernel

theorem b188_0 {d : Nat} {i1 : Int32} {ia : Nat → Nat → Int32} {la : Nat → Nat → Int64} {pl dr : Nat} {cp : Option Nat} {cw : Option Nat} {rp : Option Nat} {K : Option Value → zHP → Prop}  : zWP d 188 0 [some (.ref 127), some (.int i1), none, none] [] (ia, la, zRA pl dr cp cw rp) K = zWP d 188 4 [some (.ref 127), some (.int i1), some (.int (0 : Int32)), some (.int (0 : Int32))] [] (ia, la, zRA pl dr cp cw rp) K := by
  refine (Q_iconst (v := 0) zm_188 (Or.inl (by decide)) D188_0 (by decide)).trans ?_
  refine (Q_istore_n (ls' := [some (.ref 127), some (.int i1), some (.int (0 : Int32)), none]) zm_188 (Or.inl (by decide)) D188_1 rfl (Nat.le_of_ble_eq_true rfl) rfl).trans ?_
  refine (Q_iconst (v := 0) zm_188 (Or.inl (by decide)) D188_2 (by decide)).trans ?_
  refine (Q_istore_n (ls' := [some (.ref 127), some (.int i1), some (.int (0 : Int32)), some (.int (0 : Int32))]) zm_188 (Or.inl (by decide)) D188_3 rfl (Nat.le_of_ble_eq_true rfl) rfl).trans ?_
  rfl

theorem b188_4 {d : Nat} {i1 : Int32} {i2 : Int32} {i3 : Int32} {ia : Nat → Nat → Int32} {la : Nat → Nat → Int64} {pl dr : Nat} {cp : Option Nat} {cw : Option Nat} {rp : Option Nat} {K : Option Value → zHP → Prop}  : zWP d 188 4 [some (.ref 127), some (.int i1), some (.int i2), some (.int i3)] [] (ia, la, zRA pl dr cp cw rp) K = (if (ia 129 0) ≤ i3 then K (some (.int i2)) (ia, la, zRA pl dr cp cw rp) else (vp_in (((6 : Int32) * i1) + i3) 138 ∧ zWP d 188 4 [some (.ref 127), some (.int i1), some (.int (i2 + (ia 156 ((((6 : Int32) * i1) + i3)).toNatClampNeg))), some (.int (i3 + (1 : Int32)))] [] (ia, la, zRA pl dr cp cw rp) K)) := by
  refine (Q_iload_n zm_188 (Or.inl (by decide)) D188_4 rfl).trans ?_
  refine (Q_aload_n zm_188 (Or.inl (by decide)) D188_5 rfl).trans ?_
  refine (Q_getR (q := 129) zm_188 (Or.inl (by decide)) D188_6 zf_10_13 zs_10_3 zk_127.1 rfl).trans ?_
  refine (Q_iconst (v := 0) zm_188 (Or.inl (by decide)) D188_9 (by decide)).trans ?_
  refine ((Q_iaload zm_188 (Or.inl (by decide)) D188_10 zk_129.1 zk_129.2).trans (zdrop (zin_spec (by decide)))).trans ?_
  refine (Q_ic_ge (tgt := 34) zm_188 (Or.inl (by decide)) D188_11 (by decide)).trans ?_
  refine zif_c (fun h0_ => ?_) (fun h0_ => ?_)
  · refine (Q_iload_n zm_188 (Or.inl (by decide)) D188_34 rfl).trans ?_
    exact Q_ireturn zm_188 (Or.inl (by decide)) D188_35 rfl
  · refine (Q_iload_n zm_188 (Or.inl (by decide)) D188_14 rfl).trans ?_
    refine (Q_aload_n zm_188 (Or.inl (by decide)) D188_15 rfl).trans ?_
    refine (Q_getR (q := 156) zm_188 (Or.inl (by decide)) D188_16 zf_10_99 zs_10_44 zk_127.1 rfl).trans ?_
    refine (Q_bipush (v := 6) zm_188 (Or.inl (by decide)) D188_19 (by decide)).trans ?_
    refine (Q_iload_n zm_188 (Or.inl (by decide)) D188_21 rfl).trans ?_
    refine (Q_imul zm_188 (Or.inl (by decide)) D188_22).trans ?_
    refine (Q_iload_n zm_188 (Or.inl (by decide)) D188_23 rfl).trans ?_
    refine (Q_iadd zm_188 (Or.inl (by decide)) D188_24).trans ?_
    refine (Q_iaload zm_188 (Or.inl (by decide)) D188_25 zk_156.1 zk_156.2).trans ?_
    refine zand_c (fun h1_ => ?_)
    refine (Q_iadd zm_188 (Or.inl (by decide)) D188_26).trans ?_
    refine (Q_istore_n (ls' := [some (.ref 127), some (.int i1), some (.int (i2 + (ia 156 ((((6 : Int32) * i1) + i3)).toNatClampNeg))), some (.int i3)]) zm_188 (Or.inl (by decide)) D188_27 rfl (Nat.le_of_ble_eq_true rfl) rfl).trans ?_
    refine (Q_iinc (v := 1) (ls' := [some (.ref 127), some (.int i1), some (.int (i2 + (ia 156 ((((6 : Int32) * i1) + i3)).toNatClampNeg))), some (.int (i3 + (1 : Int32)))]) zm_188 (Or.inl (by decide)) D188_28 rfl rfl (by decide) rfl).trans ?_
    refine (Q_goto (tgt := 4) zm_188 (Or.inl (by decide)) D188_31 (by decide)).trans ?_
    rfl

/-! HandsLetModel.apartOf(III)I -/
theorem D189_0 : decode prog_12_method_63_code 0 = .ok (.iconst 0, 1) := by decide +kernel
theorem D189_1 : decode prog_12_method_63_code 1 = .ok (.istore 4, 2) := by decide +kernel
theorem D189_3 : decode prog_12_method_63_code 3 = .ok (.iconst 0, 1) := by decide +kernel
theorem D189_4 : decode prog_12_method_63_code 4 = .ok (.istore 5, 2) := by decide +kernel
theorem D189_6 : decode prog_12_method_63_code 6 = .ok (.iload 5, 2) := by decide +kernel
theorem D189_8 : decode prog_12_method_63_code 8 = .ok (.iconst 3, 1) := by decide +kernel
theorem D189_9 : decode prog_12_method_63_code 9 = .ok (.if_icmp .ge 49, 3) := by decide +kernel
theorem D189_12 : decode prog_12_method_63_code 12 = .ok (.iload 4, 2) := by decide +kernel
theorem D189_14 : decode prog_12_method_63_code 14 = .ok (.aload_n 0, 1) := by decide +kernel
theorem D189_15 : decode prog_12_method_63_code 15 = .ok (.getfield 87, 3) := by decide +kernel
theorem D189_18 : decode prog_12_method_63_code 18 = .ok (.iconst 3, 1) := by decide +kernel
theorem D189_19 : decode prog_12_method_63_code 19 = .ok (.bipush 6, 2) := by decide +kernel
theorem D189_21 : decode prog_12_method_63_code 21 = .ok (.iload_n 1, 1) := by decide +kernel
theorem D189_22 : decode prog_12_method_63_code 22 = .ok (.imul, 1) := by decide +kernel
theorem D189_23 : decode prog_12_method_63_code 23 = .ok (.iload_n 2, 1) := by decide +kernel
theorem D189_24 : decode prog_12_method_63_code 24 = .ok (.iadd, 1) := by decide +kernel
theorem D189_25 : decode prog_12_method_63_code 25 = .ok (.imul, 1) := by decide +kernel
theorem D189_26 : decode prog_12_method_63_code 26 = .ok (.iload 5, 2) := by decide +kernel
theorem D189_28 : decode prog_12_method_63_code 28 = .ok (.iadd, 1) := by decide +kernel
theorem D189_29 : decode prog_12_method_63_code 29 = .ok (.iaload, 1) := by decide +kernel
theorem D189_30 : decode prog_12_method_63_code 30 = .ok (.sipush 1000, 3) := by decide +kernel
theorem D189_33 : decode prog_12_method_63_code 33 = .ok (.aload_n 0, 1) := by decide +kernel
theorem D189_34 : decode prog_12_method_63_code 34 = .ok (.getfield 19, 3) := by decide +kernel
theorem D189_37 : decode prog_12_method_63_code 37 = .ok (.iconst 3, 1) := by decide +kernel
theorem D189_38 : decode prog_12_method_63_code 38 = .ok (.iload_n 3, 1) := by decide +kernel
theorem D189_39 : decode prog_12_method_63_code 39 = .ok (.imul, 1) := by decide +kernel
theorem D189_40 : decode prog_12_method_63_code 40 = .ok (.iload 5, 2) := by decide +kernel
theorem D189_42 : decode prog_12_method_63_code 42 = .ok (.iadd, 1) := by decide +kernel
theorem D189_43 : decode prog_12_method_63_code 43 = .ok (.iaload, 1) := by decide +kernel
theorem D189_44 : decode prog_12_method_63_code 44 = .ok (.imul, 1) := by decide +kernel
theorem D189_45 : decode prog_12_method_63_code 45 = .ok (.isub, 1) := by decide +kernel
theorem D189_46 : decode prog_12_method_63_code 46 = .ok (.invokestatic 411, 3) := by decide +kernel
theorem D189_49 : decode prog_12_method_63_code 49 = .ok (.iadd, 1) := by decide +kernel
theorem D189_50 : decode prog_12_method_63_code 50 = .ok (.istore 4, 2) := by decide +kernel
theorem D189_52 : decode prog_12_method_63_code 52 = .ok (.iinc 5 1, 3) := by decide +kernel
theorem D189_55 : decode prog_12_method_63_code 55 = .ok (.goto (-49), 3) := by decide +kernel
theorem D189_58 : decode prog_12_method_63_code 58 = .ok (.iload 4, 2) := by decide +kernel
theorem D189_60 : decode prog_12_method_63_code 60 = .ok (.ireturn, 1) := by decide +kernel

theorem b189_0 {d : Nat} {i1 : Int32} {i2 : Int32} {i3 : Int32} {ia : Nat → Nat → Int32} {la : Nat → Nat → Int64} {pl dr : Nat} {cp : Option Nat} {cw : Option Nat} {rp : Option Nat} {K : Option Value → zHP → Prop}  : zWP d 189 0 [some (.ref 127), some (.int i1), some (.int i2), some (.int i3), none, none] [] (ia, la, zRA pl dr cp cw rp) K = zWP d 189 6 [some (.ref 127), some (.int i1), some (.int i2), some (.int i3), some (.int (0 : Int32)), some (.int (0 : Int32))] [] (ia, la, zRA pl dr cp cw rp) K := by
  refine (Q_iconst (v := 0) zm_189 (Or.inl (by decide)) D189_0 (by decide)).trans ?_
  refine (Q_istore (ls' := [some (.ref 127), some (.int i1), some (.int i2), some (.int i3), some (.int (0 : Int32)), none]) zm_189 (Or.inl (by decide)) D189_1 rfl (Nat.le_of_ble_eq_true rfl) rfl).trans ?_
  refine (Q_iconst (v := 0) zm_189 (Or.inl (by decide)) D189_3 (by decide)).trans ?_
  refine (Q_istore (ls' := [some (.ref 127), some (.int i1), some (.int i2), some (.int i3), some (.int (0 : Int32)), some (.int (0 : Int32))]) zm_189 (Or.inl (by decide)) D189_4 rfl (Nat.le_of_ble_eq_true rfl) rfl).trans ?_
  rfl

theorem b189_6 {d : Nat} {i1 : Int32} {i2 : Int32} {i3 : Int32} {i4 : Int32} {i5 : Int32} {ia : Nat → Nat → Int32} {la : Nat → Nat → Int64} {pl dr : Nat} {cp : Option Nat} {cw : Option Nat} {rp : Option Nat} {K : Option Value → zHP → Prop}  : zWP (d + 5) 189 6 [some (.ref 127), some (.int i1), some (.int i2), some (.int i3), some (.int i4), some (.int i5)] [] (ia, la, zRA pl dr cp cw rp) K = (if (3 : Int32) ≤ i5 then K (some (.int i4)) (ia, la, zRA pl dr cp cw rp) else (vp_in (((3 : Int32) * (((6 : Int32) * i1) + i2)) + i5) 414 ∧ (vp_in (((3 : Int32) * i3) + i5) 36 ∧ zWP (d + 5) 189 6 [some (.ref 127), some (.int i1), some (.int i2), some (.int i3), some (.int (i4 + (if 0 ≤ ((ia 152 ((((3 : Int32) * (((6 : Int32) * i1) + i2)) + i5)).toNatClampNeg) - ((1000 : Int32) * (ia 131 ((((3 : Int32) * i3) + i5)).toNatClampNeg))) then ((ia 152 ((((3 : Int32) * (((6 : Int32) * i1) + i2)) + i5)).toNatClampNeg) - ((1000 : Int32) * (ia 131 ((((3 : Int32) * i3) + i5)).toNatClampNeg))) else 0 - ((ia 152 ((((3 : Int32) * (((6 : Int32) * i1) + i2)) + i5)).toNatClampNeg) - ((1000 : Int32) * (ia 131 ((((3 : Int32) * i3) + i5)).toNatClampNeg)))))), some (.int (i5 + (1 : Int32)))] [] (ia, la, zRA pl dr cp cw rp) K))) := by
  refine (Q_iload zm_189 (Or.inl (by decide)) D189_6 rfl).trans ?_
  refine (Q_iconst (v := 3) zm_189 (Or.inl (by decide)) D189_8 (by decide)).trans ?_
  refine (Q_ic_ge (tgt := 58) zm_189 (Or.inl (by decide)) D189_9 (by decide)).trans ?_
  refine zif_c (fun h0_ => ?_) (fun h0_ => ?_)
  · refine (Q_iload zm_189 (Or.inl (by decide)) D189_58 rfl).trans ?_
    exact Q_ireturn zm_189 (Or.inl (by decide)) D189_60 rfl
  · refine (Q_iload zm_189 (Or.inl (by decide)) D189_12 rfl).trans ?_
    refine (Q_aload_n zm_189 (Or.inl (by decide)) D189_14 rfl).trans ?_
    refine (Q_getR (q := 152) zm_189 (Or.inl (by decide)) D189_15 zf_10_87 zs_10_40 zk_127.1 rfl).trans ?_
    refine (Q_iconst (v := 3) zm_189 (Or.inl (by decide)) D189_18 (by decide)).trans ?_
    refine (Q_bipush (v := 6) zm_189 (Or.inl (by decide)) D189_19 (by decide)).trans ?_
    refine (Q_iload_n zm_189 (Or.inl (by decide)) D189_21 rfl).trans ?_
    refine (Q_imul zm_189 (Or.inl (by decide)) D189_22).trans ?_
    refine (Q_iload_n zm_189 (Or.inl (by decide)) D189_23 rfl).trans ?_
    refine (Q_iadd zm_189 (Or.inl (by decide)) D189_24).trans ?_
    refine (Q_imul zm_189 (Or.inl (by decide)) D189_25).trans ?_
    refine (Q_iload zm_189 (Or.inl (by decide)) D189_26 rfl).trans ?_
    refine (Q_iadd zm_189 (Or.inl (by decide)) D189_28).trans ?_
    refine (Q_iaload zm_189 (Or.inl (by decide)) D189_29 zk_152.1 zk_152.2).trans ?_
    refine zand_c (fun h1_ => ?_)
    refine (Q_sipush (v := 1000) zm_189 (Or.inl (by decide)) D189_30 (by decide)).trans ?_
    refine (Q_aload_n zm_189 (Or.inl (by decide)) D189_33 rfl).trans ?_
    refine (Q_getR (q := 131) zm_189 (Or.inl (by decide)) D189_34 zf_10_19 zs_10_5 zk_127.1 rfl).trans ?_
    refine (Q_iconst (v := 3) zm_189 (Or.inl (by decide)) D189_37 (by decide)).trans ?_
    refine (Q_iload_n zm_189 (Or.inl (by decide)) D189_38 rfl).trans ?_
    refine (Q_imul zm_189 (Or.inl (by decide)) D189_39).trans ?_
    refine (Q_iload zm_189 (Or.inl (by decide)) D189_40 rfl).trans ?_
    refine (Q_iadd zm_189 (Or.inl (by decide)) D189_42).trans ?_
    refine (Q_iaload zm_189 (Or.inl (by decide)) D189_43 zk_131.1 zk_131.2).trans ?_
    refine zand_c (fun h2_ => ?_)
    refine (Q_imul zm_189 (Or.inl (by decide)) D189_44).trans ?_
    refine (Q_isub zm_189 (Or.inl (by decide)) D189_45).trans ?_
    refine (Q_bis (as := [.int ((ia 152 ((((3 : Int32) * (((6 : Int32) * i1) + i2)) + i5)).toNatClampNeg) - ((1000 : Int32) * (ia 131 ((((3 : Int32) * i3) + i5)).toNatClampNeg)))]) (rest := [.int i4]) zm_189 (Or.inl (by decide)) D189_46 zc_10_411 rfl (by decide) (by simp [zcat, Value.category]) rfl).trans ?_
    refine (Q_iadd zm_189 (Or.inl (by decide)) D189_49).trans ?_
    refine (Q_istore (ls' := [some (.ref 127), some (.int i1), some (.int i2), some (.int i3), some (.int (i4 + (if 0 ≤ ((ia 152 ((((3 : Int32) * (((6 : Int32) * i1) + i2)) + i5)).toNatClampNeg) - ((1000 : Int32) * (ia 131 ((((3 : Int32) * i3) + i5)).toNatClampNeg))) then ((ia 152 ((((3 : Int32) * (((6 : Int32) * i1) + i2)) + i5)).toNatClampNeg) - ((1000 : Int32) * (ia 131 ((((3 : Int32) * i3) + i5)).toNatClampNeg))) else 0 - ((ia 152 ((((3 : Int32) * (((6 : Int32) * i1) + i2)) + i5)).toNatClampNeg) - ((1000 : Int32) * (ia 131 ((((3 : Int32) * i3) + i5)).toNatClampNeg)))))), some (.int i5)]) zm_189 (Or.inl (by decide)) D189_50 rfl (Nat.le_of_ble_eq_true rfl) rfl).trans ?_
    refine (Q_iinc (v := 1) (ls' := [some (.ref 127), some (.int i1), some (.int i2), some (.int i3), some (.int (i4 + (if 0 ≤ ((ia 152 ((((3 : Int32) * (((6 : Int32) * i1) + i2)) + i5)).toNatClampNeg) - ((1000 : Int32) * (ia 131 ((((3 : Int32) * i3) + i5)).toNatClampNeg))) then ((ia 152 ((((3 : Int32) * (((6 : Int32) * i1) + i2)) + i5)).toNatClampNeg) - ((1000 : Int32) * (ia 131 ((((3 : Int32) * i3) + i5)).toNatClampNeg))) else 0 - ((ia 152 ((((3 : Int32) * (((6 : Int32) * i1) + i2)) + i5)).toNatClampNeg) - ((1000 : Int32) * (ia 131 ((((3 : Int32) * i3) + i5)).toNatClampNeg)))))), some (.int (i5 + (1 : Int32)))]) zm_189 (Or.inl (by decide)) D189_52 rfl rfl (by decide) rfl).trans ?_
    refine (Q_goto (tgt := 6) zm_189 (Or.inl (by decide)) D189_55 (by decide)).trans ?_
    rfl

/-! HandsLetModel.orNone(I)I -/
theorem D190_0 : decode prog_12_method_64_code 0 = .ok (.iload_n 0, 1) := by decide +kernel
theorem D190_1 : decode prog_12_method_64_code 1 = .ok (.iconst (-1), 1) := by decide +kernel
theorem D190_2 : decode prog_12_method_64_code 2 = .ok (.if_icmp .ne 8, 3) := by decide +kernel
theorem D190_5 : decode prog_12_method_64_code 5 = .ok (.bipush (-2), 2) := by decide +kernel
theorem D190_7 : decode prog_12_method_64_code 7 = .ok (.goto 4, 3) := by decide +kernel
theorem D190_10 : decode prog_12_method_64_code 10 = .ok (.iload_n 0, 1) := by decide +kernel
theorem D190_11 : decode prog_12_method_64_code 11 = .ok (.ireturn, 1) := by decide +kernel

theorem b190_0 {d : Nat} {i0 : Int32} {ia : Nat → Nat → Int32} {la : Nat → Nat → Int64} {pl dr : Nat} {cp : Option Nat} {cw : Option Nat} {rp : Option Nat} {K : Option Value → zHP → Prop}  : zWP d 190 0 [some (.int i0)] [] (ia, la, zRA pl dr cp cw rp) K = (if ¬ i0 = (-1 : Int32) then K (some (.int i0)) (ia, la, zRA pl dr cp cw rp) else K (some (.int (-2 : Int32))) (ia, la, zRA pl dr cp cw rp)) := by
  refine (Q_iload_n zm_190 (Or.inl (by decide)) D190_0 rfl).trans ?_
  refine (Q_iconst (v := -1) zm_190 (Or.inl (by decide)) D190_1 (by decide)).trans ?_
  refine (Q_ic_ne (tgt := 10) zm_190 (Or.inl (by decide)) D190_2 (by decide)).trans ?_
  refine zif_c (fun h0_ => ?_) (fun h0_ => ?_)
  · refine (Q_iload_n zm_190 (Or.inl (by decide)) D190_10 rfl).trans ?_
    exact Q_ireturn zm_190 (Or.inl (by decide)) D190_11 rfl
  · refine (Q_bipush (v := -2) zm_190 (Or.inl (by decide)) D190_5 (by decide)).trans ?_
    refine (Q_goto (tgt := 11) zm_190 (Or.inl (by decide)) D190_7 (by decide)).trans ?_
    exact Q_ireturn zm_190 (Or.inl (by decide)) D190_11 rfl

/-! HandsLetModel.hand(II)I -/
theorem D191_0 : decode prog_12_method_65_code 0 = .ok (.aload_n 0, 1) := by decide +kernel
theorem D191_1 : decode prog_12_method_65_code 1 = .ok (.aload_n 0, 1) := by decide +kernel
theorem D191_2 : decode prog_12_method_65_code 2 = .ok (.iload_n 1, 1) := by decide +kernel
theorem D191_3 : decode prog_12_method_65_code 3 = .ok (.invokevirtual 413, 3) := by decide +kernel
theorem D191_6 : decode prog_12_method_65_code 6 = .ok (.ifCond .ne 7, 3) := by decide +kernel
theorem D191_9 : decode prog_12_method_65_code 9 = .ok (.iconst 1, 1) := by decide +kernel
theorem D191_10 : decode prog_12_method_65_code 10 = .ok (.goto 18, 3) := by decide +kernel
theorem D191_13 : decode prog_12_method_65_code 13 = .ok (.iload_n 2, 1) := by decide +kernel
theorem D191_14 : decode prog_12_method_65_code 14 = .ok (.ifCond .lt 9, 3) := by decide +kernel
theorem D191_17 : decode prog_12_method_65_code 17 = .ok (.iload_n 2, 1) := by decide +kernel
theorem D191_18 : decode prog_12_method_65_code 18 = .ok (.bipush 6, 2) := by decide +kernel
theorem D191_20 : decode prog_12_method_65_code 20 = .ok (.if_icmp .le 7, 3) := by decide +kernel
theorem D191_23 : decode prog_12_method_65_code 23 = .ok (.iconst 2, 1) := by decide +kernel
theorem D191_24 : decode prog_12_method_65_code 24 = .ok (.goto 4, 3) := by decide +kernel
theorem D191_27 : decode prog_12_method_65_code 27 = .ok (.iconst 0, 1) := by decide +kernel
theorem D191_28 : decode prog_12_method_65_code 28 = .ok (.putfield 151, 3) := by decide +kernel
theorem D191_31 : decode prog_12_method_65_code 31 = .ok (.aload_n 0, 1) := by decide +kernel
theorem D191_32 : decode prog_12_method_65_code 32 = .ok (.getfield 151, 3) := by decide +kernel
theorem D191_35 : decode prog_12_method_65_code 35 = .ok (.ifCond .eq 5, 3) := by decide +kernel
theorem D191_38 : decode prog_12_method_65_code 38 = .ok (.iconst 0, 1) := by decide +kernel
theorem D191_39 : decode prog_12_method_65_code 39 = .ok (.ireturn, 1) := by decide +kernel
theorem D191_40 : decode prog_12_method_65_code 40 = .ok (.iload_n 2, 1) := by decide +kernel
theorem D191_41 : decode prog_12_method_65_code 41 = .ok (.tableswitch 62 3 6 #[31, 41, 48, 55], 31) := by decide +kernel
theorem D191_72 : decode prog_12_method_65_code 72 = .ok (.aload_n 0, 1) := by decide +kernel
theorem D191_73 : decode prog_12_method_65_code 73 = .ok (.getfield 90, 3) := by decide +kernel
theorem D191_76 : decode prog_12_method_65_code 76 = .ok (.iload_n 1, 1) := by decide +kernel
theorem D191_77 : decode prog_12_method_65_code 77 = .ok (.iaload, 1) := by decide +kernel
theorem D191_78 : decode prog_12_method_65_code 78 = .ok (.invokestatic 416, 3) := by decide +kernel
theorem D191_81 : decode prog_12_method_65_code 81 = .ok (.ireturn, 1) := by decide +kernel
theorem D191_82 : decode prog_12_method_65_code 82 = .ok (.aload_n 0, 1) := by decide +kernel
theorem D191_83 : decode prog_12_method_65_code 83 = .ok (.getfield 93, 3) := by decide +kernel
theorem D191_86 : decode prog_12_method_65_code 86 = .ok (.iload_n 1, 1) := by decide +kernel
theorem D191_87 : decode prog_12_method_65_code 87 = .ok (.iaload, 1) := by decide +kernel
theorem D191_88 : decode prog_12_method_65_code 88 = .ok (.ireturn, 1) := by decide +kernel
theorem D191_89 : decode prog_12_method_65_code 89 = .ok (.aload_n 0, 1) := by decide +kernel
theorem D191_90 : decode prog_12_method_65_code 90 = .ok (.getfield 96, 3) := by decide +kernel
theorem D191_93 : decode prog_12_method_65_code 93 = .ok (.iload_n 1, 1) := by decide +kernel
theorem D191_94 : decode prog_12_method_65_code 94 = .ok (.iaload, 1) := by decide +kernel
theorem D191_95 : decode prog_12_method_65_code 95 = .ok (.ireturn, 1) := by decide +kernel
theorem D191_96 : decode prog_12_method_65_code 96 = .ok (.aload_n 0, 1) := by decide +kernel
theorem D191_97 : decode prog_12_method_65_code 97 = .ok (.iconst 0, 1) := by decide +kernel
theorem D191_98 : decode prog_12_method_65_code 98 = .ok (.iload_n 1, 1) := by decide +kernel
theorem D191_99 : decode prog_12_method_65_code 99 = .ok (.invokevirtual 374, 3) := by decide +kernel
theorem D191_102 : decode prog_12_method_65_code 102 = .ok (.ireturn, 1) := by decide +kernel
theorem D191_103 : decode prog_12_method_65_code 103 = .ok (.aload_n 0, 1) := by decide +kernel
theorem D191_104 : decode prog_12_method_65_code 104 = .ok (.getfield 87, 3) := by decide +kernel
theorem D191_107 : decode prog_12_method_65_code 107 = .ok (.iconst 3, 1) := by decide +kernel
theorem D191_108 : decode prog_12_method_65_code 108 = .ok (.iload_n 1, 1) := by decide +kernel
theorem D191_109 : decode prog_12_method_65_code 109 = .ok (.imul, 1) := by decide +kernel
theorem D191_110 : decode prog_12_method_65_code 110 = .ok (.iload_n 2, 1) := by decide +kernel
theorem D191_111 : decode prog_12_method_65_code 111 = .ok (.iadd, 1) := by decide +kernel
theorem D191_112 : decode prog_12_method_65_code 112 = .ok (.iaload, 1) := by decide +kernel
theorem D191_113 : decode prog_12_method_65_code 113 = .ok (.ireturn, 1) := by decide +kernel

theorem b191_0 {d : Nat} {i1 : Int32} {i2 : Int32} {ia : Nat → Nat → Int32} {la : Nat → Nat → Int64} {pl dr : Nat} {cp : Option Nat} {cw : Option Nat} {rp : Option Nat} {K : Option Value → zHP → Prop}  : zWP (d + 1) 191 0 [some (.ref 127), some (.int i1), some (.int i2)] [] (ia, la, zRA pl dr cp cw rp) K = zWM d 171 [.ref 127, .int i1] (ia, la, zRA pl dr cp cw rp) (zK (d + 1) 191 6 [some (.ref 127), some (.int i1), some (.int i2)] [.ref 127] K) := by
  refine (Q_aload_n zm_191 (Or.inl (by decide)) D191_0 rfl).trans ?_
  refine (Q_aload_n zm_191 (Or.inl (by decide)) D191_1 rfl).trans ?_
  refine (Q_iload_n zm_191 (Or.inl (by decide)) D191_2 rfl).trans ?_
  exact Q_callv (as := [.int i1]) (b := 127) (rest := [.ref 127]) zm_191 (Or.inl (by decide)) D191_3 zc_10_413 rfl zk_127.1 (by decide) (by decide +kernel) (by decide) (by simp [zcat, Value.category]) zm_171 rfl

theorem b191_6 {d : Nat} {i1 : Int32} {i2 : Int32} {s1 : Int32} {ia : Nat → Nat → Int32} {la : Nat → Nat → Int64} {pl dr : Nat} {cp : Option Nat} {cw : Option Nat} {rp : Option Nat} {K : Option Value → zHP → Prop}  : zWP d 191 6 [some (.ref 127), some (.int i1), some (.int i2)] [.int s1, .ref 127] (ia, la, zRA pl dr cp cw rp) K = (if ¬ s1 = 0 then (if i2 < 0 then zWP d 191 23 [some (.ref 127), some (.int i1), some (.int i2)] [.ref 127] (ia, la, zRA pl dr cp cw rp) K else (if i2 ≤ (6 : Int32) then zWP d 191 28 [some (.ref 127), some (.int i1), some (.int i2)] [.int (0 : Int32), .ref 127] (ia, la, zRA pl dr cp cw rp) K else zWP d 191 23 [some (.ref 127), some (.int i1), some (.int i2)] [.ref 127] (ia, la, zRA pl dr cp cw rp) K)) else zWP d 191 28 [some (.ref 127), some (.int i1), some (.int i2)] [.int (1 : Int32), .ref 127] (ia, la, zRA pl dr cp cw rp) K) := by
  refine (Q_if_ne (tgt := 13) zm_191 (Or.inl (by decide)) D191_6 (by decide)).trans ?_
  refine zif_c (fun h0_ => ?_) (fun h0_ => ?_)
  · refine (Q_iload_n zm_191 (Or.inl (by decide)) D191_13 rfl).trans ?_
    refine (Q_if_lt (tgt := 23) zm_191 (Or.inl (by decide)) D191_14 (by decide)).trans ?_
    refine zif_c (fun h1_ => ?_) (fun h1_ => ?_)
    · rfl
    · refine (Q_iload_n zm_191 (Or.inl (by decide)) D191_17 rfl).trans ?_
      refine (Q_bipush (v := 6) zm_191 (Or.inl (by decide)) D191_18 (by decide)).trans ?_
      refine (Q_ic_le (tgt := 27) zm_191 (Or.inl (by decide)) D191_20 (by decide)).trans ?_
      refine zif_c (fun h2_ => ?_) (fun h2_ => ?_)
      · refine (Q_iconst (v := 0) zm_191 (Or.inl (by decide)) D191_27 (by decide)).trans ?_
        rfl
      · rfl
  · refine (Q_iconst (v := 1) zm_191 (Or.inl (by decide)) D191_9 (by decide)).trans ?_
    refine (Q_goto (tgt := 28) zm_191 (Or.inl (by decide)) D191_10 (by decide)).trans ?_
    rfl

theorem b191_23 {d : Nat} {i1 : Int32} {i2 : Int32} {ia : Nat → Nat → Int32} {la : Nat → Nat → Int64} {pl dr : Nat} {cp : Option Nat} {cw : Option Nat} {rp : Option Nat} {K : Option Value → zHP → Prop}  : zWP d 191 23 [some (.ref 127), some (.int i1), some (.int i2)] [.ref 127] (ia, la, zRA pl dr cp cw rp) K = zWP d 191 28 [some (.ref 127), some (.int i1), some (.int i2)] [.int (2 : Int32), .ref 127] (ia, la, zRA pl dr cp cw rp) K := by
  refine (Q_iconst (v := 2) zm_191 (Or.inl (by decide)) D191_23 (by decide)).trans ?_
  refine (Q_goto (tgt := 28) zm_191 (Or.inl (by decide)) D191_24 (by decide)).trans ?_
  rfl

theorem b191_28 {d : Nat} {i1 : Int32} {i2 : Int32} {s1 : Int32} {ia : Nat → Nat → Int32} {la : Nat → Nat → Int64} {pl dr : Nat} {cp : Option Nat} {cw : Option Nat} {rp : Option Nat} {K : Option Value → zHP → Prop}  : zWP (d + 1) 191 28 [some (.ref 127), some (.int i1), some (.int i2)] [.int s1, .ref 127] (ia, la, zRA pl dr cp cw rp) K = (if ((zu ia 127 0 s1) 127 0) = 0 then (if i2 = 3 then (vp_in i1 138 ∧ zWM d 190 [.int ((zu ia 127 0 s1) 153 (i1).toNatClampNeg)] ((zu ia 127 0 s1), la, zRA pl dr cp cw rp) (zK (d + 1) 191 81 [some (.ref 127), some (.int i1), some (.int i2)] [] K)) else (if i2 = 4 then (vp_in i1 138 ∧ K (some (.int ((zu ia 127 0 s1) 154 (i1).toNatClampNeg))) ((zu ia 127 0 s1), la, zRA pl dr cp cw rp)) else (if i2 = 5 then (vp_in i1 138 ∧ K (some (.int ((zu ia 127 0 s1) 155 (i1).toNatClampNeg))) ((zu ia 127 0 s1), la, zRA pl dr cp cw rp)) else (if i2 = 6 then zWM d 173 [.ref 127, .int (0 : Int32), .int i1] ((zu ia 127 0 s1), la, zRA pl dr cp cw rp) (zK (d + 1) 191 102 [some (.ref 127), some (.int i1), some (.int i2)] [] K) else (vp_in (((3 : Int32) * i1) + i2) 414 ∧ K (some (.int ((zu ia 127 0 s1) 152 ((((3 : Int32) * i1) + i2)).toNatClampNeg))) ((zu ia 127 0 s1), la, zRA pl dr cp cw rp)))))) else K (some (.int (0 : Int32))) ((zu ia 127 0 s1), la, zRA pl dr cp cw rp)) := by
  refine (Q_putI zm_191 (Or.inl (by decide)) D191_28 zf_10_151 zs_10_0 rfl zk_127.1).trans ?_
  refine (Q_aload_n zm_191 (Or.inl (by decide)) D191_31 rfl).trans ?_
  refine (Q_getI zm_191 (Or.inl (by decide)) D191_32 zf_10_151 (Or.inl zs_10_0) zk_127.1).trans ?_
  refine (Q_if_eq (tgt := 40) zm_191 (Or.inl (by decide)) D191_35 (by decide)).trans ?_
  refine zif_c (fun h0_ => ?_) (fun h0_ => ?_)
  · refine (Q_iload_n zm_191 (Or.inl (by decide)) D191_40 rfl).trans ?_
    by_cases h1_ : i2 = 3
    · rw [if_pos h1_]
      refine (congrArg (fun q => zWP (d + 1) 191 41 [some (.ref 127), some (.int i1), some (.int i2)] (.int q :: []) ((zu ia 127 0 s1), la, zRA pl dr cp cw rp) K) h1_).trans ?_
      refine (Q_tsw (tgt := 72) zm_191 (Or.inl (by decide)) D191_41 rfl (by decide)).trans ?_
      refine (Q_aload_n zm_191 (Or.inl (by decide)) D191_72 rfl).trans ?_
      refine (Q_getR (q := 153) zm_191 (Or.inl (by decide)) D191_73 zf_10_90 zs_10_41 zk_127.1 rfl).trans ?_
      refine (Q_iload_n zm_191 (Or.inl (by decide)) D191_76 rfl).trans ?_
      refine (Q_iaload zm_191 (Or.inl (by decide)) D191_77 zk_153.1 zk_153.2).trans ?_
      refine zand_c (fun h2_ => ?_)
      exact Q_calls (as := [.int ((zu ia 127 0 s1) 153 (i1).toNatClampNeg)]) (rest := []) zm_191 (Or.inl (by decide)) D191_78 zc_10_416 rfl (by decide) (by simp [zcat, Value.category]) zm_190 rfl
    rw [if_neg h1_]
    by_cases h3_ : i2 = 4
    · rw [if_pos h3_]
      refine (congrArg (fun q => zWP (d + 1) 191 41 [some (.ref 127), some (.int i1), some (.int i2)] (.int q :: []) ((zu ia 127 0 s1), la, zRA pl dr cp cw rp) K) h3_).trans ?_
      refine (Q_tsw (tgt := 82) zm_191 (Or.inl (by decide)) D191_41 rfl (by decide)).trans ?_
      refine (Q_aload_n zm_191 (Or.inl (by decide)) D191_82 rfl).trans ?_
      refine (Q_getR (q := 154) zm_191 (Or.inl (by decide)) D191_83 zf_10_93 zs_10_42 zk_127.1 rfl).trans ?_
      refine (Q_iload_n zm_191 (Or.inl (by decide)) D191_86 rfl).trans ?_
      refine (Q_iaload zm_191 (Or.inl (by decide)) D191_87 zk_154.1 zk_154.2).trans ?_
      refine zand_c (fun h4_ => ?_)
      exact Q_ireturn zm_191 (Or.inl (by decide)) D191_88 rfl
    rw [if_neg h3_]
    by_cases h5_ : i2 = 5
    · rw [if_pos h5_]
      refine (congrArg (fun q => zWP (d + 1) 191 41 [some (.ref 127), some (.int i1), some (.int i2)] (.int q :: []) ((zu ia 127 0 s1), la, zRA pl dr cp cw rp) K) h5_).trans ?_
      refine (Q_tsw (tgt := 89) zm_191 (Or.inl (by decide)) D191_41 rfl (by decide)).trans ?_
      refine (Q_aload_n zm_191 (Or.inl (by decide)) D191_89 rfl).trans ?_
      refine (Q_getR (q := 155) zm_191 (Or.inl (by decide)) D191_90 zf_10_96 zs_10_43 zk_127.1 rfl).trans ?_
      refine (Q_iload_n zm_191 (Or.inl (by decide)) D191_93 rfl).trans ?_
      refine (Q_iaload zm_191 (Or.inl (by decide)) D191_94 zk_155.1 zk_155.2).trans ?_
      refine zand_c (fun h6_ => ?_)
      exact Q_ireturn zm_191 (Or.inl (by decide)) D191_95 rfl
    rw [if_neg h5_]
    by_cases h7_ : i2 = 6
    · rw [if_pos h7_]
      refine (congrArg (fun q => zWP (d + 1) 191 41 [some (.ref 127), some (.int i1), some (.int i2)] (.int q :: []) ((zu ia 127 0 s1), la, zRA pl dr cp cw rp) K) h7_).trans ?_
      refine (Q_tsw (tgt := 96) zm_191 (Or.inl (by decide)) D191_41 rfl (by decide)).trans ?_
      refine (Q_aload_n zm_191 (Or.inl (by decide)) D191_96 rfl).trans ?_
      refine (Q_iconst (v := 0) zm_191 (Or.inl (by decide)) D191_97 (by decide)).trans ?_
      refine (Q_iload_n zm_191 (Or.inl (by decide)) D191_98 rfl).trans ?_
      exact Q_callv (as := [.int (0 : Int32), .int i1]) (b := 127) (rest := []) zm_191 (Or.inl (by decide)) D191_99 zc_10_374 rfl zk_127.1 (by decide) (by decide +kernel) (by decide) (by simp [zcat, Value.category]) zm_173 rfl
    rw [if_neg h7_]
    refine (Q_tsw (tgt := 103) zm_191 (Or.inl (by decide)) D191_41 (zsw_out (n := 4) (by decide) (fun q hq => ?_)) (by decide)).trans ?_
    · rcases (show q = 0 ∨ q = 1 ∨ q = 2 ∨ q = 3 by omega) with rfl | rfl | rfl | rfl
      · exact h1_
      · exact h3_
      · exact h5_
      · exact h7_
    refine (Q_aload_n zm_191 (Or.inl (by decide)) D191_103 rfl).trans ?_
    refine (Q_getR (q := 152) zm_191 (Or.inl (by decide)) D191_104 zf_10_87 zs_10_40 zk_127.1 rfl).trans ?_
    refine (Q_iconst (v := 3) zm_191 (Or.inl (by decide)) D191_107 (by decide)).trans ?_
    refine (Q_iload_n zm_191 (Or.inl (by decide)) D191_108 rfl).trans ?_
    refine (Q_imul zm_191 (Or.inl (by decide)) D191_109).trans ?_
    refine (Q_iload_n zm_191 (Or.inl (by decide)) D191_110 rfl).trans ?_
    refine (Q_iadd zm_191 (Or.inl (by decide)) D191_111).trans ?_
    refine (Q_iaload zm_191 (Or.inl (by decide)) D191_112 zk_152.1 zk_152.2).trans ?_
    refine zand_c (fun h8_ => ?_)
    exact Q_ireturn zm_191 (Or.inl (by decide)) D191_113 rfl
  · refine (Q_iconst (v := 0) zm_191 (Or.inl (by decide)) D191_38 (by decide)).trans ?_
    exact Q_ireturn zm_191 (Or.inl (by decide)) D191_39 rfl

theorem b191_81 {d : Nat} {i1 : Int32} {i2 : Int32} {s0 : Int32} {ia : Nat → Nat → Int32} {la : Nat → Nat → Int64} {pl dr : Nat} {cp : Option Nat} {cw : Option Nat} {rp : Option Nat} {K : Option Value → zHP → Prop}  : zWP d 191 81 [some (.ref 127), some (.int i1), some (.int i2)] [.int s0] (ia, la, zRA pl dr cp cw rp) K = K (some (.int s0)) (ia, la, zRA pl dr cp cw rp) := by
  exact Q_ireturn zm_191 (Or.inl (by decide)) D191_81 rfl

theorem b191_102 {d : Nat} {i1 : Int32} {i2 : Int32} {s0 : Int32} {ia : Nat → Nat → Int32} {la : Nat → Nat → Int64} {pl dr : Nat} {cp : Option Nat} {cw : Option Nat} {rp : Option Nat} {K : Option Value → zHP → Prop}  : zWP d 191 102 [some (.ref 127), some (.int i1), some (.int i2)] [.int s0] (ia, la, zRA pl dr cp cw rp) K = K (some (.int s0)) (ia, la, zRA pl dr cp cw rp) := by
  exact Q_ireturn zm_191 (Or.inl (by decide)) D191_102 rfl

/-! HandsLetModel.heldBy(I)I -/
theorem D192_0 : decode prog_12_method_66_code 0 = .ok (.iconst 0, 1) := by decide +kernel
theorem D192_1 : decode prog_12_method_66_code 1 = .ok (.istore_n 2, 1) := by decide +kernel
theorem D192_2 : decode prog_12_method_66_code 2 = .ok (.iconst 0, 1) := by decide +kernel
theorem D192_3 : decode prog_12_method_66_code 3 = .ok (.istore_n 3, 1) := by decide +kernel
theorem D192_4 : decode prog_12_method_66_code 4 = .ok (.iload_n 3, 1) := by decide +kernel
theorem D192_5 : decode prog_12_method_66_code 5 = .ok (.aload_n 0, 1) := by decide +kernel
theorem D192_6 : decode prog_12_method_66_code 6 = .ok (.getfield 13, 3) := by decide +kernel
theorem D192_9 : decode prog_12_method_66_code 9 = .ok (.iconst 0, 1) := by decide +kernel
theorem D192_10 : decode prog_12_method_66_code 10 = .ok (.iaload, 1) := by decide +kernel
theorem D192_11 : decode prog_12_method_66_code 11 = .ok (.if_icmp .ge 29, 3) := by decide +kernel
theorem D192_14 : decode prog_12_method_66_code 14 = .ok (.iload_n 2, 1) := by decide +kernel
theorem D192_15 : decode prog_12_method_66_code 15 = .ok (.aload_n 0, 1) := by decide +kernel
theorem D192_16 : decode prog_12_method_66_code 16 = .ok (.iconst 0, 1) := by decide +kernel
theorem D192_17 : decode prog_12_method_66_code 17 = .ok (.iload_n 3, 1) := by decide +kernel
theorem D192_18 : decode prog_12_method_66_code 18 = .ok (.invokevirtual 374, 3) := by decide +kernel
theorem D192_21 : decode prog_12_method_66_code 21 = .ok (.iload_n 1, 1) := by decide +kernel
theorem D192_22 : decode prog_12_method_66_code 22 = .ok (.if_icmp .ne 9, 3) := by decide +kernel
theorem D192_25 : decode prog_12_method_66_code 25 = .ok (.iconst 1, 1) := by decide +kernel
theorem D192_26 : decode prog_12_method_66_code 26 = .ok (.iload_n 3, 1) := by decide +kernel
theorem D192_27 : decode prog_12_method_66_code 27 = .ok (.ishl, 1) := by decide +kernel
theorem D192_28 : decode prog_12_method_66_code 28 = .ok (.goto 4, 3) := by decide +kernel
theorem D192_31 : decode prog_12_method_66_code 31 = .ok (.iconst 0, 1) := by decide +kernel
theorem D192_32 : decode prog_12_method_66_code 32 = .ok (.ior, 1) := by decide +kernel
theorem D192_33 : decode prog_12_method_66_code 33 = .ok (.istore_n 2, 1) := by decide +kernel
theorem D192_34 : decode prog_12_method_66_code 34 = .ok (.iinc 3 1, 3) := by decide +kernel
theorem D192_37 : decode prog_12_method_66_code 37 = .ok (.goto (-33), 3) := by decide +kernel
theorem D192_40 : decode prog_12_method_66_code 40 = .ok (.iload_n 2, 1) := by decide +kernel
theorem D192_41 : decode prog_12_method_66_code 41 = .ok (.ireturn, 1) := by decide +kernel

theorem b192_0 {d : Nat} {i1 : Int32} {ia : Nat → Nat → Int32} {la : Nat → Nat → Int64} {pl dr : Nat} {cp : Option Nat} {cw : Option Nat} {rp : Option Nat} {K : Option Value → zHP → Prop}  : zWP d 192 0 [some (.ref 127), some (.int i1), none, none] [] (ia, la, zRA pl dr cp cw rp) K = zWP d 192 4 [some (.ref 127), some (.int i1), some (.int (0 : Int32)), some (.int (0 : Int32))] [] (ia, la, zRA pl dr cp cw rp) K := by
  refine (Q_iconst (v := 0) zm_192 (Or.inl (by decide)) D192_0 (by decide)).trans ?_
  refine (Q_istore_n (ls' := [some (.ref 127), some (.int i1), some (.int (0 : Int32)), none]) zm_192 (Or.inl (by decide)) D192_1 rfl (Nat.le_of_ble_eq_true rfl) rfl).trans ?_
  refine (Q_iconst (v := 0) zm_192 (Or.inl (by decide)) D192_2 (by decide)).trans ?_
  refine (Q_istore_n (ls' := [some (.ref 127), some (.int i1), some (.int (0 : Int32)), some (.int (0 : Int32))]) zm_192 (Or.inl (by decide)) D192_3 rfl (Nat.le_of_ble_eq_true rfl) rfl).trans ?_
  rfl

theorem b192_4 {d : Nat} {i1 : Int32} {i2 : Int32} {i3 : Int32} {ia : Nat → Nat → Int32} {la : Nat → Nat → Int64} {pl dr : Nat} {cp : Option Nat} {cw : Option Nat} {rp : Option Nat} {K : Option Value → zHP → Prop}  : zWP (d + 1) 192 4 [some (.ref 127), some (.int i1), some (.int i2), some (.int i3)] [] (ia, la, zRA pl dr cp cw rp) K = (if (ia 129 0) ≤ i3 then K (some (.int i2)) (ia, la, zRA pl dr cp cw rp) else zWM d 173 [.ref 127, .int (0 : Int32), .int i3] (ia, la, zRA pl dr cp cw rp) (zK (d + 1) 192 21 [some (.ref 127), some (.int i1), some (.int i2), some (.int i3)] [.int i2] K)) := by
  refine (Q_iload_n zm_192 (Or.inl (by decide)) D192_4 rfl).trans ?_
  refine (Q_aload_n zm_192 (Or.inl (by decide)) D192_5 rfl).trans ?_
  refine (Q_getR (q := 129) zm_192 (Or.inl (by decide)) D192_6 zf_10_13 zs_10_3 zk_127.1 rfl).trans ?_
  refine (Q_iconst (v := 0) zm_192 (Or.inl (by decide)) D192_9 (by decide)).trans ?_
  refine ((Q_iaload zm_192 (Or.inl (by decide)) D192_10 zk_129.1 zk_129.2).trans (zdrop (zin_spec (by decide)))).trans ?_
  refine (Q_ic_ge (tgt := 40) zm_192 (Or.inl (by decide)) D192_11 (by decide)).trans ?_
  refine zif_c (fun h0_ => ?_) (fun h0_ => ?_)
  · refine (Q_iload_n zm_192 (Or.inl (by decide)) D192_40 rfl).trans ?_
    exact Q_ireturn zm_192 (Or.inl (by decide)) D192_41 rfl
  · refine (Q_iload_n zm_192 (Or.inl (by decide)) D192_14 rfl).trans ?_
    refine (Q_aload_n zm_192 (Or.inl (by decide)) D192_15 rfl).trans ?_
    refine (Q_iconst (v := 0) zm_192 (Or.inl (by decide)) D192_16 (by decide)).trans ?_
    refine (Q_iload_n zm_192 (Or.inl (by decide)) D192_17 rfl).trans ?_
    exact Q_callv (as := [.int (0 : Int32), .int i3]) (b := 127) (rest := [.int i2]) zm_192 (Or.inl (by decide)) D192_18 zc_10_374 rfl zk_127.1 (by decide) (by decide +kernel) (by decide) (by simp [zcat, Value.category]) zm_173 rfl

theorem b192_21 {d : Nat} {i1 : Int32} {i2 : Int32} {i3 : Int32} {s0 : Int32} {s1 : Int32} {ia : Nat → Nat → Int32} {la : Nat → Nat → Int64} {pl dr : Nat} {cp : Option Nat} {cw : Option Nat} {rp : Option Nat} {K : Option Value → zHP → Prop}  : zWP d 192 21 [some (.ref 127), some (.int i1), some (.int i2), some (.int i3)] [.int s1, .int s0] (ia, la, zRA pl dr cp cw rp) K = (if ¬ s1 = i1 then zWP d 192 4 [some (.ref 127), some (.int i1), some (.int (s0 ||| (0 : Int32))), some (.int (i3 + (1 : Int32)))] [] (ia, la, zRA pl dr cp cw rp) K else zWP d 192 4 [some (.ref 127), some (.int i1), some (.int (s0 ||| ((1 : Int32) <<< (i3 &&& 31)))), some (.int (i3 + (1 : Int32)))] [] (ia, la, zRA pl dr cp cw rp) K) := by
  refine (Q_iload_n zm_192 (Or.inl (by decide)) D192_21 rfl).trans ?_
  refine (Q_ic_ne (tgt := 31) zm_192 (Or.inl (by decide)) D192_22 (by decide)).trans ?_
  refine zif_c (fun h0_ => ?_) (fun h0_ => ?_)
  · refine (Q_iconst (v := 0) zm_192 (Or.inl (by decide)) D192_31 (by decide)).trans ?_
    refine (Q_ior zm_192 (Or.inl (by decide)) D192_32).trans ?_
    refine (Q_istore_n (ls' := [some (.ref 127), some (.int i1), some (.int (s0 ||| (0 : Int32))), some (.int i3)]) zm_192 (Or.inl (by decide)) D192_33 rfl (Nat.le_of_ble_eq_true rfl) rfl).trans ?_
    refine (Q_iinc (v := 1) (ls' := [some (.ref 127), some (.int i1), some (.int (s0 ||| (0 : Int32))), some (.int (i3 + (1 : Int32)))]) zm_192 (Or.inl (by decide)) D192_34 rfl rfl (by decide) rfl).trans ?_
    refine (Q_goto (tgt := 4) zm_192 (Or.inl (by decide)) D192_37 (by decide)).trans ?_
    rfl
  · refine (Q_iconst (v := 1) zm_192 (Or.inl (by decide)) D192_25 (by decide)).trans ?_
    refine (Q_iload_n zm_192 (Or.inl (by decide)) D192_26 rfl).trans ?_
    refine (Q_ishl zm_192 (Or.inl (by decide)) D192_27).trans ?_
    refine (Q_goto (tgt := 32) zm_192 (Or.inl (by decide)) D192_28 (by decide)).trans ?_
    refine (Q_ior zm_192 (Or.inl (by decide)) D192_32).trans ?_
    refine (Q_istore_n (ls' := [some (.ref 127), some (.int i1), some (.int (s0 ||| ((1 : Int32) <<< (i3 &&& 31)))), some (.int i3)]) zm_192 (Or.inl (by decide)) D192_33 rfl (Nat.le_of_ble_eq_true rfl) rfl).trans ?_
    refine (Q_iinc (v := 1) (ls' := [some (.ref 127), some (.int i1), some (.int (s0 ||| ((1 : Int32) <<< (i3 &&& 31)))), some (.int (i3 + (1 : Int32)))]) zm_192 (Or.inl (by decide)) D192_34 rfl rfl (by decide) rfl).trans ?_
    refine (Q_goto (tgt := 4) zm_192 (Or.inl (by decide)) D192_37 (by decide)).trans ?_
    rfl

/-! HandsLetModel.man(II)I -/
theorem D193_0 : decode prog_12_method_67_code 0 = .ok (.aload_n 0, 1) := by decide +kernel
theorem D193_1 : decode prog_12_method_67_code 1 = .ok (.iconst 0, 1) := by decide +kernel
theorem D193_2 : decode prog_12_method_67_code 2 = .ok (.putfield 151, 3) := by decide +kernel
theorem D193_5 : decode prog_12_method_67_code 5 = .ok (.aload_n 0, 1) := by decide +kernel
theorem D193_6 : decode prog_12_method_67_code 6 = .ok (.iload_n 1, 1) := by decide +kernel
theorem D193_7 : decode prog_12_method_67_code 7 = .ok (.invokevirtual 413, 3) := by decide +kernel
theorem D193_10 : decode prog_12_method_67_code 10 = .ok (.ifCond .ne 5, 3) := by decide +kernel
theorem D193_13 : decode prog_12_method_67_code 13 = .ok (.iconst (-1), 1) := by decide +kernel
theorem D193_14 : decode prog_12_method_67_code 14 = .ok (.ireturn, 1) := by decide +kernel
theorem D193_15 : decode prog_12_method_67_code 15 = .ok (.iload_n 2, 1) := by decide +kernel
theorem D193_16 : decode prog_12_method_67_code 16 = .ok (.tableswitch 71 0 5 #[40, 40, 40, 51, 58, 64], 40) := by decide +kernel
theorem D193_56 : decode prog_12_method_67_code 56 = .ok (.aload_n 0, 1) := by decide +kernel
theorem D193_57 : decode prog_12_method_67_code 57 = .ok (.getfield 19, 3) := by decide +kernel
theorem D193_60 : decode prog_12_method_67_code 60 = .ok (.iconst 3, 1) := by decide +kernel
theorem D193_61 : decode prog_12_method_67_code 61 = .ok (.iload_n 1, 1) := by decide +kernel
theorem D193_62 : decode prog_12_method_67_code 62 = .ok (.imul, 1) := by decide +kernel
theorem D193_63 : decode prog_12_method_67_code 63 = .ok (.iload_n 2, 1) := by decide +kernel
theorem D193_64 : decode prog_12_method_67_code 64 = .ok (.iadd, 1) := by decide +kernel
theorem D193_65 : decode prog_12_method_67_code 65 = .ok (.iaload, 1) := by decide +kernel
theorem D193_66 : decode prog_12_method_67_code 66 = .ok (.ireturn, 1) := by decide +kernel
theorem D193_67 : decode prog_12_method_67_code 67 = .ok (.aload_n 0, 1) := by decide +kernel
theorem D193_68 : decode prog_12_method_67_code 68 = .ok (.getfield 99, 3) := by decide +kernel
theorem D193_71 : decode prog_12_method_67_code 71 = .ok (.iload_n 1, 1) := by decide +kernel
theorem D193_72 : decode prog_12_method_67_code 72 = .ok (.iaload, 1) := by decide +kernel
theorem D193_73 : decode prog_12_method_67_code 73 = .ok (.ireturn, 1) := by decide +kernel
theorem D193_74 : decode prog_12_method_67_code 74 = .ok (.aload_n 0, 1) := by decide +kernel
theorem D193_75 : decode prog_12_method_67_code 75 = .ok (.iload_n 1, 1) := by decide +kernel
theorem D193_76 : decode prog_12_method_67_code 76 = .ok (.invokevirtual 419, 3) := by decide +kernel
theorem D193_79 : decode prog_12_method_67_code 79 = .ok (.ireturn, 1) := by decide +kernel
theorem D193_80 : decode prog_12_method_67_code 80 = .ok (.aload_n 0, 1) := by decide +kernel
theorem D193_81 : decode prog_12_method_67_code 81 = .ok (.iconst 0, 1) := by decide +kernel
theorem D193_82 : decode prog_12_method_67_code 82 = .ok (.iload_n 1, 1) := by decide +kernel
theorem D193_83 : decode prog_12_method_67_code 83 = .ok (.invokevirtual 422, 3) := by decide +kernel
theorem D193_86 : decode prog_12_method_67_code 86 = .ok (.ireturn, 1) := by decide +kernel
theorem D193_87 : decode prog_12_method_67_code 87 = .ok (.iconst (-1), 1) := by decide +kernel
theorem D193_88 : decode prog_12_method_67_code 88 = .ok (.ireturn, 1) := by decide +kernel

theorem b193_0 {d : Nat} {i1 : Int32} {i2 : Int32} {ia : Nat → Nat → Int32} {la : Nat → Nat → Int64} {pl dr : Nat} {cp : Option Nat} {cw : Option Nat} {rp : Option Nat} {K : Option Value → zHP → Prop}  : zWP (d + 1) 193 0 [some (.ref 127), some (.int i1), some (.int i2)] [] (ia, la, zRA pl dr cp cw rp) K = zWM d 171 [.ref 127, .int i1] ((zu ia 127 0 (0 : Int32)), la, zRA pl dr cp cw rp) (zK (d + 1) 193 10 [some (.ref 127), some (.int i1), some (.int i2)] [] K) := by
  refine (Q_aload_n zm_193 (Or.inl (by decide)) D193_0 rfl).trans ?_
  refine (Q_iconst (v := 0) zm_193 (Or.inl (by decide)) D193_1 (by decide)).trans ?_
  refine (Q_putI zm_193 (Or.inl (by decide)) D193_2 zf_10_151 zs_10_0 rfl zk_127.1).trans ?_
  refine (Q_aload_n zm_193 (Or.inl (by decide)) D193_5 rfl).trans ?_
  refine (Q_iload_n zm_193 (Or.inl (by decide)) D193_6 rfl).trans ?_
  exact Q_callv (as := [.int i1]) (b := 127) (rest := []) zm_193 (Or.inl (by decide)) D193_7 zc_10_413 rfl zk_127.1 (by decide) (by decide +kernel) (by decide) (by simp [zcat, Value.category]) zm_171 rfl

theorem b193_10 {d : Nat} {i1 : Int32} {i2 : Int32} {s0 : Int32} {ia : Nat → Nat → Int32} {la : Nat → Nat → Int64} {pl dr : Nat} {cp : Option Nat} {cw : Option Nat} {rp : Option Nat} {K : Option Value → zHP → Prop}  : zWP (d + 1) 193 10 [some (.ref 127), some (.int i1), some (.int i2)] [.int s0] (ia, la, zRA pl dr cp cw rp) K = (if ¬ s0 = 0 then (if i2 = 0 then (vp_in (((3 : Int32) * i1) + i2) 36 ∧ K (some (.int (ia 131 ((((3 : Int32) * i1) + i2)).toNatClampNeg))) (ia, la, zRA pl dr cp cw rp)) else (if i2 = 1 then (vp_in (((3 : Int32) * i1) + i2) 36 ∧ K (some (.int (ia 131 ((((3 : Int32) * i1) + i2)).toNatClampNeg))) (ia, la, zRA pl dr cp cw rp)) else (if i2 = 2 then (vp_in (((3 : Int32) * i1) + i2) 36 ∧ K (some (.int (ia 131 ((((3 : Int32) * i1) + i2)).toNatClampNeg))) (ia, la, zRA pl dr cp cw rp)) else (if i2 = 3 then (vp_in i1 138 ∧ K (some (.int (ia 156 (i1).toNatClampNeg))) (ia, la, zRA pl dr cp cw rp)) else (if i2 = 4 then zWM d 192 [.ref 127, .int i1] (ia, la, zRA pl dr cp cw rp) (zK (d + 1) 193 79 [some (.ref 127), some (.int i1), some (.int i2)] [] K) else (if i2 = 5 then zWM d 187 [.ref 127, .int (0 : Int32), .int i1] (ia, la, zRA pl dr cp cw rp) (zK (d + 1) 193 86 [some (.ref 127), some (.int i1), some (.int i2)] [] K) else K (some (.int (-1 : Int32))) (ia, la, zRA pl dr cp cw rp))))))) else K (some (.int (-1 : Int32))) (ia, la, zRA pl dr cp cw rp)) := by
  refine (Q_if_ne (tgt := 15) zm_193 (Or.inl (by decide)) D193_10 (by decide)).trans ?_
  refine zif_c (fun h0_ => ?_) (fun h0_ => ?_)
  · refine (Q_iload_n zm_193 (Or.inl (by decide)) D193_15 rfl).trans ?_
    by_cases h1_ : i2 = 0
    · rw [if_pos h1_]
      refine (congrArg (fun q => zWP (d + 1) 193 16 [some (.ref 127), some (.int i1), some (.int i2)] (.int q :: []) (ia, la, zRA pl dr cp cw rp) K) h1_).trans ?_
      refine (Q_tsw (tgt := 56) zm_193 (Or.inl (by decide)) D193_16 rfl (by decide)).trans ?_
      refine (Q_aload_n zm_193 (Or.inl (by decide)) D193_56 rfl).trans ?_
      refine (Q_getR (q := 131) zm_193 (Or.inl (by decide)) D193_57 zf_10_19 zs_10_5 zk_127.1 rfl).trans ?_
      refine (Q_iconst (v := 3) zm_193 (Or.inl (by decide)) D193_60 (by decide)).trans ?_
      refine (Q_iload_n zm_193 (Or.inl (by decide)) D193_61 rfl).trans ?_
      refine (Q_imul zm_193 (Or.inl (by decide)) D193_62).trans ?_
      refine (Q_iload_n zm_193 (Or.inl (by decide)) D193_63 rfl).trans ?_
      refine (Q_iadd zm_193 (Or.inl (by decide)) D193_64).trans ?_
      refine (Q_iaload zm_193 (Or.inl (by decide)) D193_65 zk_131.1 zk_131.2).trans ?_
      refine zand_c (fun h2_ => ?_)
      exact Q_ireturn zm_193 (Or.inl (by decide)) D193_66 rfl
    rw [if_neg h1_]
    by_cases h3_ : i2 = 1
    · rw [if_pos h3_]
      refine (congrArg (fun q => zWP (d + 1) 193 16 [some (.ref 127), some (.int i1), some (.int i2)] (.int q :: []) (ia, la, zRA pl dr cp cw rp) K) h3_).trans ?_
      refine (Q_tsw (tgt := 56) zm_193 (Or.inl (by decide)) D193_16 rfl (by decide)).trans ?_
      refine (Q_aload_n zm_193 (Or.inl (by decide)) D193_56 rfl).trans ?_
      refine (Q_getR (q := 131) zm_193 (Or.inl (by decide)) D193_57 zf_10_19 zs_10_5 zk_127.1 rfl).trans ?_
      refine (Q_iconst (v := 3) zm_193 (Or.inl (by decide)) D193_60 (by decide)).trans ?_
      refine (Q_iload_n zm_193 (Or.inl (by decide)) D193_61 rfl).trans ?_
      refine (Q_imul zm_193 (Or.inl (by decide)) D193_62).trans ?_
      refine (Q_iload_n zm_193 (Or.inl (by decide)) D193_63 rfl).trans ?_
      refine (Q_iadd zm_193 (Or.inl (by decide)) D193_64).trans ?_
      refine (Q_iaload zm_193 (Or.inl (by decide)) D193_65 zk_131.1 zk_131.2).trans ?_
      refine zand_c (fun h4_ => ?_)
      exact Q_ireturn zm_193 (Or.inl (by decide)) D193_66 rfl
    rw [if_neg h3_]
    by_cases h5_ : i2 = 2
    · rw [if_pos h5_]
      refine (congrArg (fun q => zWP (d + 1) 193 16 [some (.ref 127), some (.int i1), some (.int i2)] (.int q :: []) (ia, la, zRA pl dr cp cw rp) K) h5_).trans ?_
      refine (Q_tsw (tgt := 56) zm_193 (Or.inl (by decide)) D193_16 rfl (by decide)).trans ?_
      refine (Q_aload_n zm_193 (Or.inl (by decide)) D193_56 rfl).trans ?_
      refine (Q_getR (q := 131) zm_193 (Or.inl (by decide)) D193_57 zf_10_19 zs_10_5 zk_127.1 rfl).trans ?_
      refine (Q_iconst (v := 3) zm_193 (Or.inl (by decide)) D193_60 (by decide)).trans ?_
      refine (Q_iload_n zm_193 (Or.inl (by decide)) D193_61 rfl).trans ?_
      refine (Q_imul zm_193 (Or.inl (by decide)) D193_62).trans ?_
      refine (Q_iload_n zm_193 (Or.inl (by decide)) D193_63 rfl).trans ?_
      refine (Q_iadd zm_193 (Or.inl (by decide)) D193_64).trans ?_
      refine (Q_iaload zm_193 (Or.inl (by decide)) D193_65 zk_131.1 zk_131.2).trans ?_
      refine zand_c (fun h6_ => ?_)
      exact Q_ireturn zm_193 (Or.inl (by decide)) D193_66 rfl
    rw [if_neg h5_]
    by_cases h7_ : i2 = 3
    · rw [if_pos h7_]
      refine (congrArg (fun q => zWP (d + 1) 193 16 [some (.ref 127), some (.int i1), some (.int i2)] (.int q :: []) (ia, la, zRA pl dr cp cw rp) K) h7_).trans ?_
      refine (Q_tsw (tgt := 67) zm_193 (Or.inl (by decide)) D193_16 rfl (by decide)).trans ?_
      refine (Q_aload_n zm_193 (Or.inl (by decide)) D193_67 rfl).trans ?_
      refine (Q_getR (q := 156) zm_193 (Or.inl (by decide)) D193_68 zf_10_99 zs_10_44 zk_127.1 rfl).trans ?_
      refine (Q_iload_n zm_193 (Or.inl (by decide)) D193_71 rfl).trans ?_
      refine (Q_iaload zm_193 (Or.inl (by decide)) D193_72 zk_156.1 zk_156.2).trans ?_
      refine zand_c (fun h8_ => ?_)
      exact Q_ireturn zm_193 (Or.inl (by decide)) D193_73 rfl
    rw [if_neg h7_]
    by_cases h9_ : i2 = 4
    · rw [if_pos h9_]
      refine (congrArg (fun q => zWP (d + 1) 193 16 [some (.ref 127), some (.int i1), some (.int i2)] (.int q :: []) (ia, la, zRA pl dr cp cw rp) K) h9_).trans ?_
      refine (Q_tsw (tgt := 74) zm_193 (Or.inl (by decide)) D193_16 rfl (by decide)).trans ?_
      refine (Q_aload_n zm_193 (Or.inl (by decide)) D193_74 rfl).trans ?_
      refine (Q_iload_n zm_193 (Or.inl (by decide)) D193_75 rfl).trans ?_
      exact Q_callv (as := [.int i1]) (b := 127) (rest := []) zm_193 (Or.inl (by decide)) D193_76 zc_10_419 rfl zk_127.1 (by decide) (by decide +kernel) (by decide) (by simp [zcat, Value.category]) zm_192 rfl
    rw [if_neg h9_]
    by_cases h10_ : i2 = 5
    · rw [if_pos h10_]
      refine (congrArg (fun q => zWP (d + 1) 193 16 [some (.ref 127), some (.int i1), some (.int i2)] (.int q :: []) (ia, la, zRA pl dr cp cw rp) K) h10_).trans ?_
      refine (Q_tsw (tgt := 80) zm_193 (Or.inl (by decide)) D193_16 rfl (by decide)).trans ?_
      refine (Q_aload_n zm_193 (Or.inl (by decide)) D193_80 rfl).trans ?_
      refine (Q_iconst (v := 0) zm_193 (Or.inl (by decide)) D193_81 (by decide)).trans ?_
      refine (Q_iload_n zm_193 (Or.inl (by decide)) D193_82 rfl).trans ?_
      exact Q_callv (as := [.int (0 : Int32), .int i1]) (b := 127) (rest := []) zm_193 (Or.inl (by decide)) D193_83 zc_10_422 rfl zk_127.1 (by decide) (by decide +kernel) (by decide) (by simp [zcat, Value.category]) zm_187 rfl
    rw [if_neg h10_]
    refine (Q_tsw (tgt := 87) zm_193 (Or.inl (by decide)) D193_16 (zsw_out (n := 6) (by decide) (fun q hq => ?_)) (by decide)).trans ?_
    · rcases (show q = 0 ∨ q = 1 ∨ q = 2 ∨ q = 3 ∨ q = 4 ∨ q = 5 by omega) with rfl | rfl | rfl | rfl | rfl | rfl
      · exact h1_
      · exact h3_
      · exact h5_
      · exact h7_
      · exact h9_
      · exact h10_
    refine (Q_iconst (v := -1) zm_193 (Or.inl (by decide)) D193_87 (by decide)).trans ?_
    exact Q_ireturn zm_193 (Or.inl (by decide)) D193_88 rfl
  · refine (Q_iconst (v := -1) zm_193 (Or.inl (by decide)) D193_13 (by decide)).trans ?_
    exact Q_ireturn zm_193 (Or.inl (by decide)) D193_14 rfl

theorem b193_79 {d : Nat} {i1 : Int32} {i2 : Int32} {s0 : Int32} {ia : Nat → Nat → Int32} {la : Nat → Nat → Int64} {pl dr : Nat} {cp : Option Nat} {cw : Option Nat} {rp : Option Nat} {K : Option Value → zHP → Prop}  : zWP d 193 79 [some (.ref 127), some (.int i1), some (.int i2)] [.int s0] (ia, la, zRA pl dr cp cw rp) K = K (some (.int s0)) (ia, la, zRA pl dr cp cw rp) := by
  exact Q_ireturn zm_193 (Or.inl (by decide)) D193_79 rfl

theorem b193_86 {d : Nat} {i1 : Int32} {i2 : Int32} {s0 : Int32} {ia : Nat → Nat → Int32} {la : Nat → Nat → Int64} {pl dr : Nat} {cp : Option Nat} {cw : Option Nat} {rp : Option Nat} {K : Option Value → zHP → Prop}  : zWP d 193 86 [some (.ref 127), some (.int i1), some (.int i2)] [.int s0] (ia, la, zRA pl dr cp cw rp) K = K (some (.int s0)) (ia, la, zRA pl dr cp cw rp) := by
  exact Q_ireturn zm_193 (Or.inl (by decide)) D193_86 rfl

/-! HandsLetModel.letter(II)I -/
theorem D194_0 : decode prog_12_method_68_code 0 = .ok (.aload_n 0, 1) := by decide +kernel
theorem D194_1 : decode prog_12_method_68_code 1 = .ok (.iconst 0, 1) := by decide +kernel
theorem D194_2 : decode prog_12_method_68_code 2 = .ok (.putfield 151, 3) := by decide +kernel
theorem D194_5 : decode prog_12_method_68_code 5 = .ok (.iload_n 1, 1) := by decide +kernel
theorem D194_6 : decode prog_12_method_68_code 6 = .ok (.ifCond .lt 13, 3) := by decide +kernel
theorem D194_9 : decode prog_12_method_68_code 9 = .ok (.iload_n 1, 1) := by decide +kernel
theorem D194_10 : decode prog_12_method_68_code 10 = .ok (.aload_n 0, 1) := by decide +kernel
theorem D194_11 : decode prog_12_method_68_code 11 = .ok (.getfield 13, 3) := by decide +kernel
theorem D194_14 : decode prog_12_method_68_code 14 = .ok (.iconst 2, 1) := by decide +kernel
theorem D194_15 : decode prog_12_method_68_code 15 = .ok (.iaload, 1) := by decide +kernel
theorem D194_16 : decode prog_12_method_68_code 16 = .ok (.if_icmp .lt 5, 3) := by decide +kernel
theorem D194_19 : decode prog_12_method_68_code 19 = .ok (.iconst (-1), 1) := by decide +kernel
theorem D194_20 : decode prog_12_method_68_code 20 = .ok (.ireturn, 1) := by decide +kernel
theorem D194_21 : decode prog_12_method_68_code 21 = .ok (.iload_n 2, 1) := by decide +kernel
theorem D194_22 : decode prog_12_method_68_code 22 = .ok (.tableswitch 114 0 8 #[50, 57, 64, 71, 78, 89, 100, 100, 100], 50) := by decide +kernel
theorem D194_72 : decode prog_12_method_68_code 72 = .ok (.aload_n 0, 1) := by decide +kernel
theorem D194_73 : decode prog_12_method_68_code 73 = .ok (.getfield 40, 3) := by decide +kernel
theorem D194_76 : decode prog_12_method_68_code 76 = .ok (.iload_n 1, 1) := by decide +kernel
theorem D194_77 : decode prog_12_method_68_code 77 = .ok (.iaload, 1) := by decide +kernel
theorem D194_78 : decode prog_12_method_68_code 78 = .ok (.ireturn, 1) := by decide +kernel
theorem D194_79 : decode prog_12_method_68_code 79 = .ok (.aload_n 0, 1) := by decide +kernel
theorem D194_80 : decode prog_12_method_68_code 80 = .ok (.getfield 43, 3) := by decide +kernel
theorem D194_83 : decode prog_12_method_68_code 83 = .ok (.iload_n 1, 1) := by decide +kernel
theorem D194_84 : decode prog_12_method_68_code 84 = .ok (.iaload, 1) := by decide +kernel
theorem D194_85 : decode prog_12_method_68_code 85 = .ok (.ireturn, 1) := by decide +kernel
theorem D194_86 : decode prog_12_method_68_code 86 = .ok (.aload_n 0, 1) := by decide +kernel
theorem D194_87 : decode prog_12_method_68_code 87 = .ok (.getfield 46, 3) := by decide +kernel
theorem D194_90 : decode prog_12_method_68_code 90 = .ok (.iload_n 1, 1) := by decide +kernel
theorem D194_91 : decode prog_12_method_68_code 91 = .ok (.iaload, 1) := by decide +kernel
theorem D194_92 : decode prog_12_method_68_code 92 = .ok (.ireturn, 1) := by decide +kernel
theorem D194_93 : decode prog_12_method_68_code 93 = .ok (.aload_n 0, 1) := by decide +kernel
theorem D194_94 : decode prog_12_method_68_code 94 = .ok (.getfield 102, 3) := by decide +kernel
theorem D194_97 : decode prog_12_method_68_code 97 = .ok (.iload_n 1, 1) := by decide +kernel
theorem D194_98 : decode prog_12_method_68_code 98 = .ok (.iaload, 1) := by decide +kernel
theorem D194_99 : decode prog_12_method_68_code 99 = .ok (.ireturn, 1) := by decide +kernel
theorem D194_100 : decode prog_12_method_68_code 100 = .ok (.aload_n 0, 1) := by decide +kernel
theorem D194_101 : decode prog_12_method_68_code 101 = .ok (.getfield 81, 3) := by decide +kernel
theorem D194_104 : decode prog_12_method_68_code 104 = .ok (.iconst 0, 1) := by decide +kernel
theorem D194_105 : decode prog_12_method_68_code 105 = .ok (.iaload, 1) := by decide +kernel
theorem D194_106 : decode prog_12_method_68_code 106 = .ok (.iload_n 1, 1) := by decide +kernel
theorem D194_107 : decode prog_12_method_68_code 107 = .ok (.ishr, 1) := by decide +kernel
theorem D194_108 : decode prog_12_method_68_code 108 = .ok (.iconst 1, 1) := by decide +kernel
theorem D194_109 : decode prog_12_method_68_code 109 = .ok (.iand, 1) := by decide +kernel
theorem D194_110 : decode prog_12_method_68_code 110 = .ok (.ireturn, 1) := by decide +kernel
theorem D194_111 : decode prog_12_method_68_code 111 = .ok (.aload_n 0, 1) := by decide +kernel
theorem D194_112 : decode prog_12_method_68_code 112 = .ok (.getfield 84, 3) := by decide +kernel
theorem D194_115 : decode prog_12_method_68_code 115 = .ok (.iconst 0, 1) := by decide +kernel
theorem D194_116 : decode prog_12_method_68_code 116 = .ok (.iaload, 1) := by decide +kernel
theorem D194_117 : decode prog_12_method_68_code 117 = .ok (.iload_n 1, 1) := by decide +kernel
theorem D194_118 : decode prog_12_method_68_code 118 = .ok (.ishr, 1) := by decide +kernel
theorem D194_119 : decode prog_12_method_68_code 119 = .ok (.iconst 1, 1) := by decide +kernel
theorem D194_120 : decode prog_12_method_68_code 120 = .ok (.iand, 1) := by decide +kernel
theorem D194_121 : decode prog_12_method_68_code 121 = .ok (.ireturn, 1) := by decide +kernel
theorem D194_122 : decode prog_12_method_68_code 122 = .ok (.aload_n 0, 1) := by decide +kernel
theorem D194_123 : decode prog_12_method_68_code 123 = .ok (.getfield 105, 3) := by decide +kernel
theorem D194_126 : decode prog_12_method_68_code 126 = .ok (.iconst 3, 1) := by decide +kernel
theorem D194_127 : decode prog_12_method_68_code 127 = .ok (.iload_n 1, 1) := by decide +kernel
theorem D194_128 : decode prog_12_method_68_code 128 = .ok (.imul, 1) := by decide +kernel
theorem D194_129 : decode prog_12_method_68_code 129 = .ok (.iload_n 2, 1) := by decide +kernel
theorem D194_130 : decode prog_12_method_68_code 130 = .ok (.iadd, 1) := by decide +kernel
theorem D194_131 : decode prog_12_method_68_code 131 = .ok (.bipush 6, 2) := by decide +kernel
theorem D194_133 : decode prog_12_method_68_code 133 = .ok (.isub, 1) := by decide +kernel
theorem D194_134 : decode prog_12_method_68_code 134 = .ok (.iaload, 1) := by decide +kernel
theorem D194_135 : decode prog_12_method_68_code 135 = .ok (.ireturn, 1) := by decide +kernel
theorem D194_136 : decode prog_12_method_68_code 136 = .ok (.iconst (-1), 1) := by decide +kernel
theorem D194_137 : decode prog_12_method_68_code 137 = .ok (.ireturn, 1) := by decide +kernel

theorem b194_0 {d : Nat} {i1 : Int32} {i2 : Int32} {ia : Nat → Nat → Int32} {la : Nat → Nat → Int64} {pl dr : Nat} {cp : Option Nat} {cw : Option Nat} {rp : Option Nat} {K : Option Value → zHP → Prop}  : zWP d 194 0 [some (.ref 127), some (.int i1), some (.int i2)] [] (ia, la, zRA pl dr cp cw rp) K = (if i1 < 0 then K (some (.int (-1 : Int32))) ((zu ia 127 0 (0 : Int32)), la, zRA pl dr cp cw rp) else (if i1 < ((zu ia 127 0 (0 : Int32)) 129 2) then (if i2 = 0 then (vp_in i1 24 ∧ K (some (.int ((zu ia 127 0 (0 : Int32)) 138 (i1).toNatClampNeg))) ((zu ia 127 0 (0 : Int32)), la, zRA pl dr cp cw rp)) else (if i2 = 1 then (vp_in i1 24 ∧ K (some (.int ((zu ia 127 0 (0 : Int32)) 139 (i1).toNatClampNeg))) ((zu ia 127 0 (0 : Int32)), la, zRA pl dr cp cw rp)) else (if i2 = 2 then (vp_in i1 24 ∧ K (some (.int ((zu ia 127 0 (0 : Int32)) 140 (i1).toNatClampNeg))) ((zu ia 127 0 (0 : Int32)), la, zRA pl dr cp cw rp)) else (if i2 = 3 then (vp_in i1 276 ∧ K (some (.int ((zu ia 127 0 (0 : Int32)) 157 (i1).toNatClampNeg))) ((zu ia 127 0 (0 : Int32)), la, zRA pl dr cp cw rp)) else (if i2 = 4 then K (some (.int ((((zu ia 127 0 (0 : Int32)) 150 0) >>> (i1 &&& 31)) &&& (1 : Int32)))) ((zu ia 127 0 (0 : Int32)), la, zRA pl dr cp cw rp) else (if i2 = 5 then K (some (.int ((((zu ia 127 0 (0 : Int32)) 151 0) >>> (i1 &&& 31)) &&& (1 : Int32)))) ((zu ia 127 0 (0 : Int32)), la, zRA pl dr cp cw rp) else (if i2 = 6 then zWP d 194 122 [some (.ref 127), some (.int i1), some (.int i2)] [] ((zu ia 127 0 (0 : Int32)), la, zRA pl dr cp cw rp) K else (if i2 = 7 then zWP d 194 122 [some (.ref 127), some (.int i1), some (.int i2)] [] ((zu ia 127 0 (0 : Int32)), la, zRA pl dr cp cw rp) K else (if i2 = 8 then zWP d 194 122 [some (.ref 127), some (.int i1), some (.int i2)] [] ((zu ia 127 0 (0 : Int32)), la, zRA pl dr cp cw rp) K else K (some (.int (-1 : Int32))) ((zu ia 127 0 (0 : Int32)), la, zRA pl dr cp cw rp)))))))))) else K (some (.int (-1 : Int32))) ((zu ia 127 0 (0 : Int32)), la, zRA pl dr cp cw rp))) := by
  refine (Q_aload_n zm_194 (Or.inl (by decide)) D194_0 rfl).trans ?_
  refine (Q_iconst (v := 0) zm_194 (Or.inl (by decide)) D194_1 (by decide)).trans ?_
  refine (Q_putI zm_194 (Or.inl (by decide)) D194_2 zf_10_151 zs_10_0 rfl zk_127.1).trans ?_
  refine (Q_iload_n zm_194 (Or.inl (by decide)) D194_5 rfl).trans ?_
  refine (Q_if_lt (tgt := 19) zm_194 (Or.inl (by decide)) D194_6 (by decide)).trans ?_
  refine zif_c (fun h0_ => ?_) (fun h0_ => ?_)
  · refine (Q_iconst (v := -1) zm_194 (Or.inl (by decide)) D194_19 (by decide)).trans ?_
    exact Q_ireturn zm_194 (Or.inl (by decide)) D194_20 rfl
  · refine (Q_iload_n zm_194 (Or.inl (by decide)) D194_9 rfl).trans ?_
    refine (Q_aload_n zm_194 (Or.inl (by decide)) D194_10 rfl).trans ?_
    refine (Q_getR (q := 129) zm_194 (Or.inl (by decide)) D194_11 zf_10_13 zs_10_3 zk_127.1 rfl).trans ?_
    refine (Q_iconst (v := 2) zm_194 (Or.inl (by decide)) D194_14 (by decide)).trans ?_
    refine ((Q_iaload zm_194 (Or.inl (by decide)) D194_15 zk_129.1 zk_129.2).trans (zdrop (zin_spec (by decide)))).trans ?_
    refine (Q_ic_lt (tgt := 21) zm_194 (Or.inl (by decide)) D194_16 (by decide)).trans ?_
    refine zif_c (fun h1_ => ?_) (fun h1_ => ?_)
    · refine (Q_iload_n zm_194 (Or.inl (by decide)) D194_21 rfl).trans ?_
      by_cases h2_ : i2 = 0
      · rw [if_pos h2_]
        refine (congrArg (fun q => zWP d 194 22 [some (.ref 127), some (.int i1), some (.int i2)] (.int q :: []) ((zu ia 127 0 (0 : Int32)), la, zRA pl dr cp cw rp) K) h2_).trans ?_
        refine (Q_tsw (tgt := 72) zm_194 (Or.inl (by decide)) D194_22 rfl (by decide)).trans ?_
        refine (Q_aload_n zm_194 (Or.inl (by decide)) D194_72 rfl).trans ?_
        refine (Q_getR (q := 138) zm_194 (Or.inl (by decide)) D194_73 zf_10_40 zs_10_12 zk_127.1 rfl).trans ?_
        refine (Q_iload_n zm_194 (Or.inl (by decide)) D194_76 rfl).trans ?_
        refine (Q_iaload zm_194 (Or.inl (by decide)) D194_77 zk_138.1 zk_138.2).trans ?_
        refine zand_c (fun h3_ => ?_)
        exact Q_ireturn zm_194 (Or.inl (by decide)) D194_78 rfl
      rw [if_neg h2_]
      by_cases h4_ : i2 = 1
      · rw [if_pos h4_]
        refine (congrArg (fun q => zWP d 194 22 [some (.ref 127), some (.int i1), some (.int i2)] (.int q :: []) ((zu ia 127 0 (0 : Int32)), la, zRA pl dr cp cw rp) K) h4_).trans ?_
        refine (Q_tsw (tgt := 79) zm_194 (Or.inl (by decide)) D194_22 rfl (by decide)).trans ?_
        refine (Q_aload_n zm_194 (Or.inl (by decide)) D194_79 rfl).trans ?_
        refine (Q_getR (q := 139) zm_194 (Or.inl (by decide)) D194_80 zf_10_43 zs_10_13 zk_127.1 rfl).trans ?_
        refine (Q_iload_n zm_194 (Or.inl (by decide)) D194_83 rfl).trans ?_
        refine (Q_iaload zm_194 (Or.inl (by decide)) D194_84 zk_139.1 zk_139.2).trans ?_
        refine zand_c (fun h5_ => ?_)
        exact Q_ireturn zm_194 (Or.inl (by decide)) D194_85 rfl
      rw [if_neg h4_]
      by_cases h6_ : i2 = 2
      · rw [if_pos h6_]
        refine (congrArg (fun q => zWP d 194 22 [some (.ref 127), some (.int i1), some (.int i2)] (.int q :: []) ((zu ia 127 0 (0 : Int32)), la, zRA pl dr cp cw rp) K) h6_).trans ?_
        refine (Q_tsw (tgt := 86) zm_194 (Or.inl (by decide)) D194_22 rfl (by decide)).trans ?_
        refine (Q_aload_n zm_194 (Or.inl (by decide)) D194_86 rfl).trans ?_
        refine (Q_getR (q := 140) zm_194 (Or.inl (by decide)) D194_87 zf_10_46 zs_10_14 zk_127.1 rfl).trans ?_
        refine (Q_iload_n zm_194 (Or.inl (by decide)) D194_90 rfl).trans ?_
        refine (Q_iaload zm_194 (Or.inl (by decide)) D194_91 zk_140.1 zk_140.2).trans ?_
        refine zand_c (fun h7_ => ?_)
        exact Q_ireturn zm_194 (Or.inl (by decide)) D194_92 rfl
      rw [if_neg h6_]
      by_cases h8_ : i2 = 3
      · rw [if_pos h8_]
        refine (congrArg (fun q => zWP d 194 22 [some (.ref 127), some (.int i1), some (.int i2)] (.int q :: []) ((zu ia 127 0 (0 : Int32)), la, zRA pl dr cp cw rp) K) h8_).trans ?_
        refine (Q_tsw (tgt := 93) zm_194 (Or.inl (by decide)) D194_22 rfl (by decide)).trans ?_
        refine (Q_aload_n zm_194 (Or.inl (by decide)) D194_93 rfl).trans ?_
        refine (Q_getR (q := 157) zm_194 (Or.inl (by decide)) D194_94 zf_10_102 zs_10_45 zk_127.1 rfl).trans ?_
        refine (Q_iload_n zm_194 (Or.inl (by decide)) D194_97 rfl).trans ?_
        refine (Q_iaload zm_194 (Or.inl (by decide)) D194_98 zk_157.1 zk_157.2).trans ?_
        refine zand_c (fun h9_ => ?_)
        exact Q_ireturn zm_194 (Or.inl (by decide)) D194_99 rfl
      rw [if_neg h8_]
      by_cases h10_ : i2 = 4
      · rw [if_pos h10_]
        refine (congrArg (fun q => zWP d 194 22 [some (.ref 127), some (.int i1), some (.int i2)] (.int q :: []) ((zu ia 127 0 (0 : Int32)), la, zRA pl dr cp cw rp) K) h10_).trans ?_
        refine (Q_tsw (tgt := 100) zm_194 (Or.inl (by decide)) D194_22 rfl (by decide)).trans ?_
        refine (Q_aload_n zm_194 (Or.inl (by decide)) D194_100 rfl).trans ?_
        refine (Q_getR (q := 150) zm_194 (Or.inl (by decide)) D194_101 zf_10_81 zs_10_38 zk_127.1 rfl).trans ?_
        refine (Q_iconst (v := 0) zm_194 (Or.inl (by decide)) D194_104 (by decide)).trans ?_
        refine ((Q_iaload zm_194 (Or.inl (by decide)) D194_105 zk_150.1 zk_150.2).trans (zdrop (zin_spec (by decide)))).trans ?_
        refine (Q_iload_n zm_194 (Or.inl (by decide)) D194_106 rfl).trans ?_
        refine (Q_ishr zm_194 (Or.inl (by decide)) D194_107).trans ?_
        refine (Q_iconst (v := 1) zm_194 (Or.inl (by decide)) D194_108 (by decide)).trans ?_
        refine (Q_iand zm_194 (Or.inl (by decide)) D194_109).trans ?_
        exact Q_ireturn zm_194 (Or.inl (by decide)) D194_110 rfl
      rw [if_neg h10_]
      by_cases h11_ : i2 = 5
      · rw [if_pos h11_]
        refine (congrArg (fun q => zWP d 194 22 [some (.ref 127), some (.int i1), some (.int i2)] (.int q :: []) ((zu ia 127 0 (0 : Int32)), la, zRA pl dr cp cw rp) K) h11_).trans ?_
        refine (Q_tsw (tgt := 111) zm_194 (Or.inl (by decide)) D194_22 rfl (by decide)).trans ?_
        refine (Q_aload_n zm_194 (Or.inl (by decide)) D194_111 rfl).trans ?_
        refine (Q_getR (q := 151) zm_194 (Or.inl (by decide)) D194_112 zf_10_84 zs_10_39 zk_127.1 rfl).trans ?_
        refine (Q_iconst (v := 0) zm_194 (Or.inl (by decide)) D194_115 (by decide)).trans ?_
        refine ((Q_iaload zm_194 (Or.inl (by decide)) D194_116 zk_151.1 zk_151.2).trans (zdrop (zin_spec (by decide)))).trans ?_
        refine (Q_iload_n zm_194 (Or.inl (by decide)) D194_117 rfl).trans ?_
        refine (Q_ishr zm_194 (Or.inl (by decide)) D194_118).trans ?_
        refine (Q_iconst (v := 1) zm_194 (Or.inl (by decide)) D194_119 (by decide)).trans ?_
        refine (Q_iand zm_194 (Or.inl (by decide)) D194_120).trans ?_
        exact Q_ireturn zm_194 (Or.inl (by decide)) D194_121 rfl
      rw [if_neg h11_]
      by_cases h12_ : i2 = 6
      · rw [if_pos h12_]
        refine (congrArg (fun q => zWP d 194 22 [some (.ref 127), some (.int i1), some (.int i2)] (.int q :: []) ((zu ia 127 0 (0 : Int32)), la, zRA pl dr cp cw rp) K) h12_).trans ?_
        refine (Q_tsw (tgt := 122) zm_194 (Or.inl (by decide)) D194_22 rfl (by decide)).trans ?_
        rfl
      rw [if_neg h12_]
      by_cases h13_ : i2 = 7
      · rw [if_pos h13_]
        refine (congrArg (fun q => zWP d 194 22 [some (.ref 127), some (.int i1), some (.int i2)] (.int q :: []) ((zu ia 127 0 (0 : Int32)), la, zRA pl dr cp cw rp) K) h13_).trans ?_
        refine (Q_tsw (tgt := 122) zm_194 (Or.inl (by decide)) D194_22 rfl (by decide)).trans ?_
        rfl
      rw [if_neg h13_]
      by_cases h14_ : i2 = 8
      · rw [if_pos h14_]
        refine (congrArg (fun q => zWP d 194 22 [some (.ref 127), some (.int i1), some (.int i2)] (.int q :: []) ((zu ia 127 0 (0 : Int32)), la, zRA pl dr cp cw rp) K) h14_).trans ?_
        refine (Q_tsw (tgt := 122) zm_194 (Or.inl (by decide)) D194_22 rfl (by decide)).trans ?_
        rfl
      rw [if_neg h14_]
      refine (Q_tsw (tgt := 136) zm_194 (Or.inl (by decide)) D194_22 (zsw_out (n := 9) (by decide) (fun q hq => ?_)) (by decide)).trans ?_
      · rcases (show q = 0 ∨ q = 1 ∨ q = 2 ∨ q = 3 ∨ q = 4 ∨ q = 5 ∨ q = 6 ∨ q = 7 ∨ q = 8 by omega) with rfl | rfl | rfl | rfl | rfl | rfl | rfl | rfl | rfl
        · exact h2_
        · exact h4_
        · exact h6_
        · exact h8_
        · exact h10_
        · exact h11_
        · exact h12_
        · exact h13_
        · exact h14_
      refine (Q_iconst (v := -1) zm_194 (Or.inl (by decide)) D194_136 (by decide)).trans ?_
      exact Q_ireturn zm_194 (Or.inl (by decide)) D194_137 rfl
    · refine (Q_iconst (v := -1) zm_194 (Or.inl (by decide)) D194_19 (by decide)).trans ?_
      exact Q_ireturn zm_194 (Or.inl (by decide)) D194_20 rfl

theorem b194_122 {d : Nat} {i1 : Int32} {i2 : Int32} {ia : Nat → Nat → Int32} {la : Nat → Nat → Int64} {pl dr : Nat} {cp : Option Nat} {cw : Option Nat} {rp : Option Nat} {K : Option Value → zHP → Prop}  : zWP d 194 122 [some (.ref 127), some (.int i1), some (.int i2)] [] (ia, la, zRA pl dr cp cw rp) K = (vp_in ((((3 : Int32) * i1) + i2) - (6 : Int32)) 828 ∧ K (some (.int (ia 158 (((((3 : Int32) * i1) + i2) - (6 : Int32))).toNatClampNeg))) (ia, la, zRA pl dr cp cw rp)) := by
  refine (Q_aload_n zm_194 (Or.inl (by decide)) D194_122 rfl).trans ?_
  refine (Q_getR (q := 158) zm_194 (Or.inl (by decide)) D194_123 zf_10_105 zs_10_46 zk_127.1 rfl).trans ?_
  refine (Q_iconst (v := 3) zm_194 (Or.inl (by decide)) D194_126 (by decide)).trans ?_
  refine (Q_iload_n zm_194 (Or.inl (by decide)) D194_127 rfl).trans ?_
  refine (Q_imul zm_194 (Or.inl (by decide)) D194_128).trans ?_
  refine (Q_iload_n zm_194 (Or.inl (by decide)) D194_129 rfl).trans ?_
  refine (Q_iadd zm_194 (Or.inl (by decide)) D194_130).trans ?_
  refine (Q_bipush (v := 6) zm_194 (Or.inl (by decide)) D194_131 (by decide)).trans ?_
  refine (Q_isub zm_194 (Or.inl (by decide)) D194_133).trans ?_
  refine (Q_iaload zm_194 (Or.inl (by decide)) D194_134 zk_158.1 zk_158.2).trans ?_
  refine zand_c (fun h0_ => ?_)
  exact Q_ireturn zm_194 (Or.inl (by decide)) D194_135 rfl

/-! HandsLetModel.law(IIII)J -/
theorem D195_0 : decode prog_12_method_69_code 0 = .ok (.aload_n 0, 1) := by decide +kernel
theorem D195_1 : decode prog_12_method_69_code 1 = .ok (.iconst 0, 1) := by decide +kernel
theorem D195_2 : decode prog_12_method_69_code 2 = .ok (.putfield 151, 3) := by decide +kernel
theorem D195_5 : decode prog_12_method_69_code 5 = .ok (.iload_n 1, 1) := by decide +kernel
theorem D195_6 : decode prog_12_method_69_code 6 = .ok (.ifCond .lt 32, 3) := by decide +kernel
theorem D195_9 : decode prog_12_method_69_code 9 = .ok (.iload_n 1, 1) := by decide +kernel
theorem D195_10 : decode prog_12_method_69_code 10 = .ok (.iconst 2, 1) := by decide +kernel
theorem D195_11 : decode prog_12_method_69_code 11 = .ok (.if_icmp .gt 27, 3) := by decide +kernel
theorem D195_14 : decode prog_12_method_69_code 14 = .ok (.aload_n 0, 1) := by decide +kernel
theorem D195_15 : decode prog_12_method_69_code 15 = .ok (.iload_n 1, 1) := by decide +kernel
theorem D195_16 : decode prog_12_method_69_code 16 = .ok (.invokevirtual 344, 3) := by decide +kernel
theorem D195_19 : decode prog_12_method_69_code 19 = .ok (.ifCond .eq 19, 3) := by decide +kernel
theorem D195_22 : decode prog_12_method_69_code 22 = .ok (.aload_n 0, 1) := by decide +kernel
theorem D195_23 : decode prog_12_method_69_code 23 = .ok (.iload_n 2, 1) := by decide +kernel
theorem D195_24 : decode prog_12_method_69_code 24 = .ok (.invokevirtual 413, 3) := by decide +kernel
theorem D195_27 : decode prog_12_method_69_code 27 = .ok (.ifCond .eq 11, 3) := by decide +kernel
theorem D195_30 : decode prog_12_method_69_code 30 = .ok (.aload_n 0, 1) := by decide +kernel
theorem D195_31 : decode prog_12_method_69_code 31 = .ok (.iload_n 3, 1) := by decide +kernel
theorem D195_32 : decode prog_12_method_69_code 32 = .ok (.invokevirtual 413, 3) := by decide +kernel
theorem D195_35 : decode prog_12_method_69_code 35 = .ok (.ifCond .ne 7, 3) := by decide +kernel
theorem D195_38 : decode prog_12_method_69_code 38 = .ok (.ldc2_w 427, 3) := by decide +kernel
theorem D195_41 : decode prog_12_method_69_code 41 = .ok (.lreturn, 1) := by decide +kernel
theorem D195_42 : decode prog_12_method_69_code 42 = .ok (.iload_n 1, 1) := by decide +kernel
theorem D195_43 : decode prog_12_method_69_code 43 = .ok (.ifCond .ne 19, 3) := by decide +kernel
theorem D195_46 : decode prog_12_method_69_code 46 = .ok (.iload 4, 2) := by decide +kernel
theorem D195_48 : decode prog_12_method_69_code 48 = .ok (.ifCond .lt 10, 3) := by decide +kernel
theorem D195_51 : decode prog_12_method_69_code 51 = .ok (.iload 4, 2) := by decide +kernel
theorem D195_53 : decode prog_12_method_69_code 53 = .ok (.bipush 99, 2) := by decide +kernel
theorem D195_55 : decode prog_12_method_69_code 55 = .ok (.if_icmp .le 7, 3) := by decide +kernel
theorem D195_58 : decode prog_12_method_69_code 58 = .ok (.ldc2_w 427, 3) := by decide +kernel
theorem D195_61 : decode prog_12_method_69_code 61 = .ok (.lreturn, 1) := by decide +kernel
theorem D195_62 : decode prog_12_method_69_code 62 = .ok (.aload_n 0, 1) := by decide +kernel
theorem D195_63 : decode prog_12_method_69_code 63 = .ok (.iconst 0, 1) := by decide +kernel
theorem D195_64 : decode prog_12_method_69_code 64 = .ok (.iload_n 2, 1) := by decide +kernel
theorem D195_65 : decode prog_12_method_69_code 65 = .ok (.iload_n 3, 1) := by decide +kernel
theorem D195_66 : decode prog_12_method_69_code 66 = .ok (.iload_n 1, 1) := by decide +kernel
theorem D195_67 : decode prog_12_method_69_code 67 = .ok (.ifCond .ne 8, 3) := by decide +kernel
theorem D195_70 : decode prog_12_method_69_code 70 = .ok (.iload 4, 2) := by decide +kernel
theorem D195_72 : decode prog_12_method_69_code 72 = .ok (.goto 4, 3) := by decide +kernel
theorem D195_75 : decode prog_12_method_69_code 75 = .ok (.iconst 0, 1) := by decide +kernel
theorem D195_76 : decode prog_12_method_69_code 76 = .ok (.invokevirtual 360, 3) := by decide +kernel
theorem D195_79 : decode prog_12_method_69_code 79 = .ok (.aload_n 0, 1) := by decide +kernel
theorem D195_80 : decode prog_12_method_69_code 80 = .ok (.iload_n 1, 1) := by decide +kernel
theorem D195_81 : decode prog_12_method_69_code 81 = .ok (.invokevirtual 347, 3) := by decide +kernel
theorem D195_84 : decode prog_12_method_69_code 84 = .ok (.ifCond .eq 12, 3) := by decide +kernel
theorem D195_87 : decode prog_12_method_69_code 87 = .ok (.aload_n 0, 1) := by decide +kernel
theorem D195_88 : decode prog_12_method_69_code 88 = .ok (.getfield 69, 3) := by decide +kernel
theorem D195_91 : decode prog_12_method_69_code 91 = .ok (.iconst 0, 1) := by decide +kernel
theorem D195_92 : decode prog_12_method_69_code 92 = .ok (.laload, 1) := by decide +kernel
theorem D195_93 : decode prog_12_method_69_code 93 = .ok (.goto 6, 3) := by decide +kernel
theorem D195_96 : decode prog_12_method_69_code 96 = .ok (.ldc2_w 427, 3) := by decide +kernel
theorem D195_99 : decode prog_12_method_69_code 99 = .ok (.lreturn, 1) := by decide +kernel

theorem b195_0 {d : Nat} {i1 : Int32} {i2 : Int32} {i3 : Int32} {i4 : Int32} {ia : Nat → Nat → Int32} {la : Nat → Nat → Int64} {pl dr : Nat} {cp : Option Nat} {cw : Option Nat} {rp : Option Nat} {K : Option Value → zHP → Prop}  : zWP (d + 1) 195 0 [some (.ref 127), some (.int i1), some (.int i2), some (.int i3), some (.int i4)] [] (ia, la, zRA pl dr cp cw rp) K = (if i1 < 0 then K (some (.long (-9223372036854775808 : Int64))) ((zu ia 127 0 (0 : Int32)), la, zRA pl dr cp cw rp) else (if (2 : Int32) < i1 then K (some (.long (-9223372036854775808 : Int64))) ((zu ia 127 0 (0 : Int32)), la, zRA pl dr cp cw rp) else zWM d 167 [.ref 127, .int i1] ((zu ia 127 0 (0 : Int32)), la, zRA pl dr cp cw rp) (zK (d + 1) 195 19 [some (.ref 127), some (.int i1), some (.int i2), some (.int i3), some (.int i4)] [] K))) := by
  refine (Q_aload_n zm_195 (Or.inl (by decide)) D195_0 rfl).trans ?_
  refine (Q_iconst (v := 0) zm_195 (Or.inl (by decide)) D195_1 (by decide)).trans ?_
  refine (Q_putI zm_195 (Or.inl (by decide)) D195_2 zf_10_151 zs_10_0 rfl zk_127.1).trans ?_
  refine (Q_iload_n zm_195 (Or.inl (by decide)) D195_5 rfl).trans ?_
  refine (Q_if_lt (tgt := 38) zm_195 (Or.inl (by decide)) D195_6 (by decide)).trans ?_
  refine zif_c (fun h0_ => ?_) (fun h0_ => ?_)
  · refine (Q_ldc2_w (v := -9223372036854775808) zm_195 (Or.inl (by decide)) D195_38 (by decide +kernel)).trans ?_
    exact Q_lreturn zm_195 (Or.inl (by decide)) D195_41 rfl
  · refine (Q_iload_n zm_195 (Or.inl (by decide)) D195_9 rfl).trans ?_
    refine (Q_iconst (v := 2) zm_195 (Or.inl (by decide)) D195_10 (by decide)).trans ?_
    refine (Q_ic_gt (tgt := 38) zm_195 (Or.inl (by decide)) D195_11 (by decide)).trans ?_
    refine zif_c (fun h1_ => ?_) (fun h1_ => ?_)
    · refine (Q_ldc2_w (v := -9223372036854775808) zm_195 (Or.inl (by decide)) D195_38 (by decide +kernel)).trans ?_
      exact Q_lreturn zm_195 (Or.inl (by decide)) D195_41 rfl
    · refine (Q_aload_n zm_195 (Or.inl (by decide)) D195_14 rfl).trans ?_
      refine (Q_iload_n zm_195 (Or.inl (by decide)) D195_15 rfl).trans ?_
      exact Q_callv (as := [.int i1]) (b := 127) (rest := []) zm_195 (Or.inl (by decide)) D195_16 zc_10_344 rfl zk_127.1 (by decide) (by decide +kernel) (by decide) (by simp [zcat, Value.category]) zm_167 rfl

theorem b195_19 {d : Nat} {i1 : Int32} {i2 : Int32} {i3 : Int32} {i4 : Int32} {s0 : Int32} {ia : Nat → Nat → Int32} {la : Nat → Nat → Int64} {pl dr : Nat} {cp : Option Nat} {cw : Option Nat} {rp : Option Nat} {K : Option Value → zHP → Prop}  : zWP (d + 1) 195 19 [some (.ref 127), some (.int i1), some (.int i2), some (.int i3), some (.int i4)] [.int s0] (ia, la, zRA pl dr cp cw rp) K = (if s0 = 0 then K (some (.long (-9223372036854775808 : Int64))) (ia, la, zRA pl dr cp cw rp) else zWM d 171 [.ref 127, .int i2] (ia, la, zRA pl dr cp cw rp) (zK (d + 1) 195 27 [some (.ref 127), some (.int i1), some (.int i2), some (.int i3), some (.int i4)] [] K)) := by
  refine (Q_if_eq (tgt := 38) zm_195 (Or.inl (by decide)) D195_19 (by decide)).trans ?_
  refine zif_c (fun h0_ => ?_) (fun h0_ => ?_)
  · refine (Q_ldc2_w (v := -9223372036854775808) zm_195 (Or.inl (by decide)) D195_38 (by decide +kernel)).trans ?_
    exact Q_lreturn zm_195 (Or.inl (by decide)) D195_41 rfl
  · refine (Q_aload_n zm_195 (Or.inl (by decide)) D195_22 rfl).trans ?_
    refine (Q_iload_n zm_195 (Or.inl (by decide)) D195_23 rfl).trans ?_
    exact Q_callv (as := [.int i2]) (b := 127) (rest := []) zm_195 (Or.inl (by decide)) D195_24 zc_10_413 rfl zk_127.1 (by decide) (by decide +kernel) (by decide) (by simp [zcat, Value.category]) zm_171 rfl

theorem b195_27 {d : Nat} {i1 : Int32} {i2 : Int32} {i3 : Int32} {i4 : Int32} {s0 : Int32} {ia : Nat → Nat → Int32} {la : Nat → Nat → Int64} {pl dr : Nat} {cp : Option Nat} {cw : Option Nat} {rp : Option Nat} {K : Option Value → zHP → Prop}  : zWP (d + 1) 195 27 [some (.ref 127), some (.int i1), some (.int i2), some (.int i3), some (.int i4)] [.int s0] (ia, la, zRA pl dr cp cw rp) K = (if s0 = 0 then K (some (.long (-9223372036854775808 : Int64))) (ia, la, zRA pl dr cp cw rp) else zWM d 171 [.ref 127, .int i3] (ia, la, zRA pl dr cp cw rp) (zK (d + 1) 195 35 [some (.ref 127), some (.int i1), some (.int i2), some (.int i3), some (.int i4)] [] K)) := by
  refine (Q_if_eq (tgt := 38) zm_195 (Or.inl (by decide)) D195_27 (by decide)).trans ?_
  refine zif_c (fun h0_ => ?_) (fun h0_ => ?_)
  · refine (Q_ldc2_w (v := -9223372036854775808) zm_195 (Or.inl (by decide)) D195_38 (by decide +kernel)).trans ?_
    exact Q_lreturn zm_195 (Or.inl (by decide)) D195_41 rfl
  · refine (Q_aload_n zm_195 (Or.inl (by decide)) D195_30 rfl).trans ?_
    refine (Q_iload_n zm_195 (Or.inl (by decide)) D195_31 rfl).trans ?_
    exact Q_callv (as := [.int i3]) (b := 127) (rest := []) zm_195 (Or.inl (by decide)) D195_32 zc_10_413 rfl zk_127.1 (by decide) (by decide +kernel) (by decide) (by simp [zcat, Value.category]) zm_171 rfl

theorem b195_35 {d : Nat} {i1 : Int32} {i2 : Int32} {i3 : Int32} {i4 : Int32} {s0 : Int32} {ia : Nat → Nat → Int32} {la : Nat → Nat → Int64} {pl dr : Nat} {cp : Option Nat} {cw : Option Nat} {rp : Option Nat} {K : Option Value → zHP → Prop}  : zWP d 195 35 [some (.ref 127), some (.int i1), some (.int i2), some (.int i3), some (.int i4)] [.int s0] (ia, la, zRA pl dr cp cw rp) K = (if ¬ s0 = 0 then (if ¬ i1 = 0 then zWP d 195 62 [some (.ref 127), some (.int i1), some (.int i2), some (.int i3), some (.int i4)] [] (ia, la, zRA pl dr cp cw rp) K else (if i4 < 0 then K (some (.long (-9223372036854775808 : Int64))) (ia, la, zRA pl dr cp cw rp) else (if i4 ≤ (99 : Int32) then zWP d 195 62 [some (.ref 127), some (.int i1), some (.int i2), some (.int i3), some (.int i4)] [] (ia, la, zRA pl dr cp cw rp) K else K (some (.long (-9223372036854775808 : Int64))) (ia, la, zRA pl dr cp cw rp)))) else K (some (.long (-9223372036854775808 : Int64))) (ia, la, zRA pl dr cp cw rp)) := by
  refine (Q_if_ne (tgt := 42) zm_195 (Or.inl (by decide)) D195_35 (by decide)).trans ?_
  refine zif_c (fun h0_ => ?_) (fun h0_ => ?_)
  · refine (Q_iload_n zm_195 (Or.inl (by decide)) D195_42 rfl).trans ?_
    refine (Q_if_ne (tgt := 62) zm_195 (Or.inl (by decide)) D195_43 (by decide)).trans ?_
    refine zif_c (fun h1_ => ?_) (fun h1_ => ?_)
    · rfl
    · refine (Q_iload zm_195 (Or.inl (by decide)) D195_46 rfl).trans ?_
      refine (Q_if_lt (tgt := 58) zm_195 (Or.inl (by decide)) D195_48 (by decide)).trans ?_
      refine zif_c (fun h2_ => ?_) (fun h2_ => ?_)
      · refine (Q_ldc2_w (v := -9223372036854775808) zm_195 (Or.inl (by decide)) D195_58 (by decide +kernel)).trans ?_
        exact Q_lreturn zm_195 (Or.inl (by decide)) D195_61 rfl
      · refine (Q_iload zm_195 (Or.inl (by decide)) D195_51 rfl).trans ?_
        refine (Q_bipush (v := 99) zm_195 (Or.inl (by decide)) D195_53 (by decide)).trans ?_
        refine (Q_ic_le (tgt := 62) zm_195 (Or.inl (by decide)) D195_55 (by decide)).trans ?_
        refine zif_c (fun h3_ => ?_) (fun h3_ => ?_)
        · rfl
        · refine (Q_ldc2_w (v := -9223372036854775808) zm_195 (Or.inl (by decide)) D195_58 (by decide +kernel)).trans ?_
          exact Q_lreturn zm_195 (Or.inl (by decide)) D195_61 rfl
  · refine (Q_ldc2_w (v := -9223372036854775808) zm_195 (Or.inl (by decide)) D195_38 (by decide +kernel)).trans ?_
    exact Q_lreturn zm_195 (Or.inl (by decide)) D195_41 rfl

theorem b195_62 {d : Nat} {i1 : Int32} {i2 : Int32} {i3 : Int32} {i4 : Int32} {ia : Nat → Nat → Int32} {la : Nat → Nat → Int64} {pl dr : Nat} {cp : Option Nat} {cw : Option Nat} {rp : Option Nat} {K : Option Value → zHP → Prop}  : zWP (d + 1) 195 62 [some (.ref 127), some (.int i1), some (.int i2), some (.int i3), some (.int i4)] [] (ia, la, zRA pl dr cp cw rp) K = (if ¬ i1 = 0 then zWM d 175 [.ref 127, .int (0 : Int32), .int i2, .int i3, .int (0 : Int32)] (ia, la, zRA pl dr cp cw rp) (zK (d + 1) 195 79 [some (.ref 127), some (.int i1), some (.int i2), some (.int i3), some (.int i4)] [] K) else zWM d 175 [.ref 127, .int (0 : Int32), .int i2, .int i3, .int i4] (ia, la, zRA pl dr cp cw rp) (zK (d + 1) 195 79 [some (.ref 127), some (.int i1), some (.int i2), some (.int i3), some (.int i4)] [] K)) := by
  refine (Q_aload_n zm_195 (Or.inl (by decide)) D195_62 rfl).trans ?_
  refine (Q_iconst (v := 0) zm_195 (Or.inl (by decide)) D195_63 (by decide)).trans ?_
  refine (Q_iload_n zm_195 (Or.inl (by decide)) D195_64 rfl).trans ?_
  refine (Q_iload_n zm_195 (Or.inl (by decide)) D195_65 rfl).trans ?_
  refine (Q_iload_n zm_195 (Or.inl (by decide)) D195_66 rfl).trans ?_
  refine (Q_if_ne (tgt := 75) zm_195 (Or.inl (by decide)) D195_67 (by decide)).trans ?_
  refine zif_c (fun h0_ => ?_) (fun h0_ => ?_)
  · refine (Q_iconst (v := 0) zm_195 (Or.inl (by decide)) D195_75 (by decide)).trans ?_
    exact Q_callv (as := [.int (0 : Int32), .int i2, .int i3, .int (0 : Int32)]) (b := 127) (rest := []) zm_195 (Or.inl (by decide)) D195_76 zc_10_360 rfl zk_127.1 (by decide) (by decide +kernel) (by decide) (by simp [zcat, Value.category]) zm_175 rfl
  · refine (Q_iload zm_195 (Or.inl (by decide)) D195_70 rfl).trans ?_
    refine (Q_goto (tgt := 76) zm_195 (Or.inl (by decide)) D195_72 (by decide)).trans ?_
    exact Q_callv (as := [.int (0 : Int32), .int i2, .int i3, .int i4]) (b := 127) (rest := []) zm_195 (Or.inl (by decide)) D195_76 zc_10_360 rfl zk_127.1 (by decide) (by decide +kernel) (by decide) (by simp [zcat, Value.category]) zm_175 rfl

theorem b195_79 {d : Nat} {i1 : Int32} {i2 : Int32} {i3 : Int32} {i4 : Int32} {ia : Nat → Nat → Int32} {la : Nat → Nat → Int64} {pl dr : Nat} {cp : Option Nat} {cw : Option Nat} {rp : Option Nat} {K : Option Value → zHP → Prop}  : zWP (d + 1) 195 79 [some (.ref 127), some (.int i1), some (.int i2), some (.int i3), some (.int i4)] [] (ia, la, zRA pl dr cp cw rp) K = zWM d 166 [.ref 127, .int i1] (ia, la, zRA pl dr cp cw rp) (zK (d + 1) 195 84 [some (.ref 127), some (.int i1), some (.int i2), some (.int i3), some (.int i4)] [] K) := by
  refine (Q_aload_n zm_195 (Or.inl (by decide)) D195_79 rfl).trans ?_
  refine (Q_iload_n zm_195 (Or.inl (by decide)) D195_80 rfl).trans ?_
  exact Q_callv (as := [.int i1]) (b := 127) (rest := []) zm_195 (Or.inl (by decide)) D195_81 zc_10_347 rfl zk_127.1 (by decide) (by decide +kernel) (by decide) (by simp [zcat, Value.category]) zm_166 rfl

theorem b195_84 {d : Nat} {i1 : Int32} {i2 : Int32} {i3 : Int32} {i4 : Int32} {s0 : Int32} {ia : Nat → Nat → Int32} {la : Nat → Nat → Int64} {pl dr : Nat} {cp : Option Nat} {cw : Option Nat} {rp : Option Nat} {K : Option Value → zHP → Prop}  : zWP d 195 84 [some (.ref 127), some (.int i1), some (.int i2), some (.int i3), some (.int i4)] [.int s0] (ia, la, zRA pl dr cp cw rp) K = (if s0 = 0 then K (some (.long (-9223372036854775808 : Int64))) (ia, la, zRA pl dr cp cw rp) else K (some (.long (la 146 0))) (ia, la, zRA pl dr cp cw rp)) := by
  refine (Q_if_eq (tgt := 96) zm_195 (Or.inl (by decide)) D195_84 (by decide)).trans ?_
  refine zif_c (fun h0_ => ?_) (fun h0_ => ?_)
  · refine (Q_ldc2_w (v := -9223372036854775808) zm_195 (Or.inl (by decide)) D195_96 (by decide +kernel)).trans ?_
    exact Q_lreturn zm_195 (Or.inl (by decide)) D195_99 rfl
  · refine (Q_aload_n zm_195 (Or.inl (by decide)) D195_87 rfl).trans ?_
    refine (Q_getR (q := 146) zm_195 (Or.inl (by decide)) D195_88 zf_10_69 zs_10_33 zk_127.1 rfl).trans ?_
    refine (Q_iconst (v := 0) zm_195 (Or.inl (by decide)) D195_91 (by decide)).trans ?_
    refine ((Q_laload zm_195 (Or.inl (by decide)) D195_92 zk_146.1 zk_146.2).trans (zdrop (zin_spec (by decide)))).trans ?_
    refine (Q_goto (tgt := 99) zm_195 (Or.inl (by decide)) D195_93 (by decide)).trans ?_
    exact Q_lreturn zm_195 (Or.inl (by decide)) D195_99 rfl

/-! HandsLetModel.keepNow()V -/
theorem D196_0 : decode prog_12_method_70_code 0 = .ok (.aload_n 0, 1) := by decide +kernel
theorem D196_1 : decode prog_12_method_70_code 1 = .ok (.getfield 314, 3) := by decide +kernel
theorem D196_4 : decode prog_12_method_70_code 4 = .ok (.bipush 20, 2) := by decide +kernel
theorem D196_6 : decode prog_12_method_70_code 6 = .ok (.if_icmp .ne 39, 3) := by decide +kernel
theorem D196_9 : decode prog_12_method_70_code 9 = .ok (.iconst 1, 1) := by decide +kernel
theorem D196_10 : decode prog_12_method_70_code 10 = .ok (.istore_n 1, 1) := by decide +kernel
theorem D196_11 : decode prog_12_method_70_code 11 = .ok (.iload_n 1, 1) := by decide +kernel
theorem D196_12 : decode prog_12_method_70_code 12 = .ok (.bipush 20, 2) := by decide +kernel
theorem D196_14 : decode prog_12_method_70_code 14 = .ok (.if_icmp .ge 21, 3) := by decide +kernel
theorem D196_17 : decode prog_12_method_70_code 17 = .ok (.aload_n 0, 1) := by decide +kernel
theorem D196_18 : decode prog_12_method_70_code 18 = .ok (.iconst 3, 1) := by decide +kernel
theorem D196_19 : decode prog_12_method_70_code 19 = .ok (.iload_n 1, 1) := by decide +kernel
theorem D196_20 : decode prog_12_method_70_code 20 = .ok (.iadd, 1) := by decide +kernel
theorem D196_21 : decode prog_12_method_70_code 21 = .ok (.iconst 1, 1) := by decide +kernel
theorem D196_22 : decode prog_12_method_70_code 22 = .ok (.isub, 1) := by decide +kernel
theorem D196_23 : decode prog_12_method_70_code 23 = .ok (.iconst 3, 1) := by decide +kernel
theorem D196_24 : decode prog_12_method_70_code 24 = .ok (.iload_n 1, 1) := by decide +kernel
theorem D196_25 : decode prog_12_method_70_code 25 = .ok (.iadd, 1) := by decide +kernel
theorem D196_26 : decode prog_12_method_70_code 26 = .ok (.invokevirtual 429, 3) := by decide +kernel
theorem D196_29 : decode prog_12_method_70_code 29 = .ok (.iinc 1 1, 3) := by decide +kernel
theorem D196_32 : decode prog_12_method_70_code 32 = .ok (.goto (-21), 3) := by decide +kernel
theorem D196_35 : decode prog_12_method_70_code 35 = .ok (.aload_n 0, 1) := by decide +kernel
theorem D196_36 : decode prog_12_method_70_code 36 = .ok (.dup, 1) := by decide +kernel
theorem D196_37 : decode prog_12_method_70_code 37 = .ok (.getfield 314, 3) := by decide +kernel
theorem D196_40 : decode prog_12_method_70_code 40 = .ok (.iconst 1, 1) := by decide +kernel
theorem D196_41 : decode prog_12_method_70_code 41 = .ok (.isub, 1) := by decide +kernel
theorem D196_42 : decode prog_12_method_70_code 42 = .ok (.putfield 314, 3) := by decide +kernel
theorem D196_45 : decode prog_12_method_70_code 45 = .ok (.aload_n 0, 1) := by decide +kernel
theorem D196_46 : decode prog_12_method_70_code 46 = .ok (.iconst 3, 1) := by decide +kernel
theorem D196_47 : decode prog_12_method_70_code 47 = .ok (.aload_n 0, 1) := by decide +kernel
theorem D196_48 : decode prog_12_method_70_code 48 = .ok (.getfield 314, 3) := by decide +kernel
theorem D196_51 : decode prog_12_method_70_code 51 = .ok (.iadd, 1) := by decide +kernel
theorem D196_52 : decode prog_12_method_70_code 52 = .ok (.iconst 0, 1) := by decide +kernel
theorem D196_53 : decode prog_12_method_70_code 53 = .ok (.invokevirtual 429, 3) := by decide +kernel
theorem D196_56 : decode prog_12_method_70_code 56 = .ok (.aload_n 0, 1) := by decide +kernel
theorem D196_57 : decode prog_12_method_70_code 57 = .ok (.dup, 1) := by decide +kernel
theorem D196_58 : decode prog_12_method_70_code 58 = .ok (.getfield 314, 3) := by decide +kernel
theorem D196_61 : decode prog_12_method_70_code 61 = .ok (.iconst 1, 1) := by decide +kernel
theorem D196_62 : decode prog_12_method_70_code 62 = .ok (.iadd, 1) := by decide +kernel
theorem D196_63 : decode prog_12_method_70_code 63 = .ok (.putfield 314, 3) := by decide +kernel
theorem D196_66 : decode prog_12_method_70_code 66 = .ok (.return_, 1) := by decide +kernel

theorem b196_0 {d : Nat}  {ia : Nat → Nat → Int32} {la : Nat → Nat → Int64} {pl dr : Nat} {cp : Option Nat} {cw : Option Nat} {rp : Option Nat} {K : Option Value → zHP → Prop}  : zWP (d + 1) 196 0 [some (.ref 127), none] [] (ia, la, zRA pl dr cp cw rp) K = (if ¬ (ia 127 48) = (20 : Int32) then zWM d 170 [.ref 127, .int ((3 : Int32) + (ia 127 48)), .int (0 : Int32)] (ia, la, zRA pl dr cp cw rp) (zK (d + 1) 196 56 [some (.ref 127), none] [] K) else zWP (d + 1) 196 11 [some (.ref 127), some (.int (1 : Int32))] [] (ia, la, zRA pl dr cp cw rp) K) := by
  refine (Q_aload_n zm_196 (Or.inl (by decide)) D196_0 rfl).trans ?_
  refine (Q_getI zm_196 (Or.inl (by decide)) D196_1 zf_10_314 (Or.inl zs_10_48) zk_127.1).trans ?_
  refine (Q_bipush (v := 20) zm_196 (Or.inl (by decide)) D196_4 (by decide)).trans ?_
  refine (Q_ic_ne (tgt := 45) zm_196 (Or.inl (by decide)) D196_6 (by decide)).trans ?_
  refine zif_c (fun h0_ => ?_) (fun h0_ => ?_)
  · refine (Q_aload_n zm_196 (Or.inl (by decide)) D196_45 rfl).trans ?_
    refine (Q_iconst (v := 3) zm_196 (Or.inl (by decide)) D196_46 (by decide)).trans ?_
    refine (Q_aload_n zm_196 (Or.inl (by decide)) D196_47 rfl).trans ?_
    refine (Q_getI zm_196 (Or.inl (by decide)) D196_48 zf_10_314 (Or.inl zs_10_48) zk_127.1).trans ?_
    refine (Q_iadd zm_196 (Or.inl (by decide)) D196_51).trans ?_
    refine (Q_iconst (v := 0) zm_196 (Or.inl (by decide)) D196_52 (by decide)).trans ?_
    exact Q_callv (as := [.int ((3 : Int32) + (ia 127 48)), .int (0 : Int32)]) (b := 127) (rest := []) zm_196 (Or.inl (by decide)) D196_53 zc_10_429 rfl zk_127.1 (by decide) (by decide +kernel) (by decide) (by simp [zcat, Value.category]) zm_170 rfl
  · refine (Q_iconst (v := 1) zm_196 (Or.inl (by decide)) D196_9 (by decide)).trans ?_
    refine (Q_istore_n (ls' := [some (.ref 127), some (.int (1 : Int32))]) zm_196 (Or.inl (by decide)) D196_10 rfl (Nat.le_of_ble_eq_true rfl) rfl).trans ?_
    rfl

theorem b196_56 {d : Nat} {a1 : Option Value} {ia : Nat → Nat → Int32} {la : Nat → Nat → Int64} {pl dr : Nat} {cp : Option Nat} {cw : Option Nat} {rp : Option Nat} {K : Option Value → zHP → Prop}  : zWP d 196 56 [some (.ref 127), a1] [] (ia, la, zRA pl dr cp cw rp) K = K none ((zu ia 127 48 ((ia 127 48) + (1 : Int32))), la, zRA pl dr cp cw rp) := by
  refine (Q_aload_n zm_196 (Or.inl (by decide)) D196_56 rfl).trans ?_
  refine (Q_dup zm_196 (Or.inl (by decide)) D196_57 rfl).trans ?_
  refine (Q_getI zm_196 (Or.inl (by decide)) D196_58 zf_10_314 (Or.inl zs_10_48) zk_127.1).trans ?_
  refine (Q_iconst (v := 1) zm_196 (Or.inl (by decide)) D196_61 (by decide)).trans ?_
  refine (Q_iadd zm_196 (Or.inl (by decide)) D196_62).trans ?_
  refine (Q_putI zm_196 (Or.inl (by decide)) D196_63 zf_10_314 zs_10_48 rfl zk_127.1).trans ?_
  exact Q_return zm_196 (Or.inl (by decide)) D196_66 rfl

theorem b196_11 {d : Nat} {i1 : Int32} {ia : Nat → Nat → Int32} {la : Nat → Nat → Int64} {pl dr : Nat} {cp : Option Nat} {cw : Option Nat} {rp : Option Nat} {K : Option Value → zHP → Prop}  : zWP (d + 1) 196 11 [some (.ref 127), some (.int i1)] [] (ia, la, zRA pl dr cp cw rp) K = (if (20 : Int32) ≤ i1 then zWM d 170 [.ref 127, .int ((3 : Int32) + ((zu ia 127 48 ((ia 127 48) - (1 : Int32))) 127 48)), .int (0 : Int32)] ((zu ia 127 48 ((ia 127 48) - (1 : Int32))), la, zRA pl dr cp cw rp) (zK (d + 1) 196 56 [some (.ref 127), some (.int i1)] [] K) else zWM d 170 [.ref 127, .int (((3 : Int32) + i1) - (1 : Int32)), .int ((3 : Int32) + i1)] (ia, la, zRA pl dr cp cw rp) (zK (d + 1) 196 29 [some (.ref 127), some (.int i1)] [] K)) := by
  refine (Q_iload_n zm_196 (Or.inl (by decide)) D196_11 rfl).trans ?_
  refine (Q_bipush (v := 20) zm_196 (Or.inl (by decide)) D196_12 (by decide)).trans ?_
  refine (Q_ic_ge (tgt := 35) zm_196 (Or.inl (by decide)) D196_14 (by decide)).trans ?_
  refine zif_c (fun h0_ => ?_) (fun h0_ => ?_)
  · refine (Q_aload_n zm_196 (Or.inl (by decide)) D196_35 rfl).trans ?_
    refine (Q_dup zm_196 (Or.inl (by decide)) D196_36 rfl).trans ?_
    refine (Q_getI zm_196 (Or.inl (by decide)) D196_37 zf_10_314 (Or.inl zs_10_48) zk_127.1).trans ?_
    refine (Q_iconst (v := 1) zm_196 (Or.inl (by decide)) D196_40 (by decide)).trans ?_
    refine (Q_isub zm_196 (Or.inl (by decide)) D196_41).trans ?_
    refine (Q_putI zm_196 (Or.inl (by decide)) D196_42 zf_10_314 zs_10_48 rfl zk_127.1).trans ?_
    refine (Q_aload_n zm_196 (Or.inl (by decide)) D196_45 rfl).trans ?_
    refine (Q_iconst (v := 3) zm_196 (Or.inl (by decide)) D196_46 (by decide)).trans ?_
    refine (Q_aload_n zm_196 (Or.inl (by decide)) D196_47 rfl).trans ?_
    refine (Q_getI zm_196 (Or.inl (by decide)) D196_48 zf_10_314 (Or.inl zs_10_48) zk_127.1).trans ?_
    refine (Q_iadd zm_196 (Or.inl (by decide)) D196_51).trans ?_
    refine (Q_iconst (v := 0) zm_196 (Or.inl (by decide)) D196_52 (by decide)).trans ?_
    exact Q_callv (as := [.int ((3 : Int32) + ((zu ia 127 48 ((ia 127 48) - (1 : Int32))) 127 48)), .int (0 : Int32)]) (b := 127) (rest := []) zm_196 (Or.inl (by decide)) D196_53 zc_10_429 rfl zk_127.1 (by decide) (by decide +kernel) (by decide) (by simp [zcat, Value.category]) zm_170 rfl
  · refine (Q_aload_n zm_196 (Or.inl (by decide)) D196_17 rfl).trans ?_
    refine (Q_iconst (v := 3) zm_196 (Or.inl (by decide)) D196_18 (by decide)).trans ?_
    refine (Q_iload_n zm_196 (Or.inl (by decide)) D196_19 rfl).trans ?_
    refine (Q_iadd zm_196 (Or.inl (by decide)) D196_20).trans ?_
    refine (Q_iconst (v := 1) zm_196 (Or.inl (by decide)) D196_21 (by decide)).trans ?_
    refine (Q_isub zm_196 (Or.inl (by decide)) D196_22).trans ?_
    refine (Q_iconst (v := 3) zm_196 (Or.inl (by decide)) D196_23 (by decide)).trans ?_
    refine (Q_iload_n zm_196 (Or.inl (by decide)) D196_24 rfl).trans ?_
    refine (Q_iadd zm_196 (Or.inl (by decide)) D196_25).trans ?_
    exact Q_callv (as := [.int (((3 : Int32) + i1) - (1 : Int32)), .int ((3 : Int32) + i1)]) (b := 127) (rest := []) zm_196 (Or.inl (by decide)) D196_26 zc_10_429 rfl zk_127.1 (by decide) (by decide +kernel) (by decide) (by simp [zcat, Value.category]) zm_170 rfl

theorem b196_29 {d : Nat} {i1 : Int32} {ia : Nat → Nat → Int32} {la : Nat → Nat → Int64} {pl dr : Nat} {cp : Option Nat} {cw : Option Nat} {rp : Option Nat} {K : Option Value → zHP → Prop}  : zWP d 196 29 [some (.ref 127), some (.int i1)] [] (ia, la, zRA pl dr cp cw rp) K = zWP d 196 11 [some (.ref 127), some (.int (i1 + (1 : Int32)))] [] (ia, la, zRA pl dr cp cw rp) K := by
  refine (Q_iinc (v := 1) (ls' := [some (.ref 127), some (.int (i1 + (1 : Int32)))]) zm_196 (Or.inl (by decide)) D196_29 rfl rfl (by decide) rfl).trans ?_
  refine (Q_goto (tgt := 11) zm_196 (Or.inl (by decide)) D196_32 (by decide)).trans ?_
  rfl

/-! HandsLetModel.let(IIII)I -/
theorem D197_0 : decode prog_12_method_71_code 0 = .ok (.aload_n 0, 1) := by decide +kernel
theorem D197_1 : decode prog_12_method_71_code 1 = .ok (.iconst 0, 1) := by decide +kernel
theorem D197_2 : decode prog_12_method_71_code 2 = .ok (.putfield 151, 3) := by decide +kernel
theorem D197_5 : decode prog_12_method_71_code 5 = .ok (.aload_n 0, 1) := by decide +kernel
theorem D197_6 : decode prog_12_method_71_code 6 = .ok (.iload_n 1, 1) := by decide +kernel
theorem D197_7 : decode prog_12_method_71_code 7 = .ok (.invokevirtual 413, 3) := by decide +kernel
theorem D197_10 : decode prog_12_method_71_code 10 = .ok (.ifCond .eq 39, 3) := by decide +kernel
theorem D197_13 : decode prog_12_method_71_code 13 = .ok (.aload_n 0, 1) := by decide +kernel
theorem D197_14 : decode prog_12_method_71_code 14 = .ok (.iload_n 2, 1) := by decide +kernel
theorem D197_15 : decode prog_12_method_71_code 15 = .ok (.invokevirtual 413, 3) := by decide +kernel
theorem D197_18 : decode prog_12_method_71_code 18 = .ok (.ifCond .eq 31, 3) := by decide +kernel
theorem D197_21 : decode prog_12_method_71_code 21 = .ok (.iload_n 1, 1) := by decide +kernel
theorem D197_22 : decode prog_12_method_71_code 22 = .ok (.iload_n 2, 1) := by decide +kernel
theorem D197_23 : decode prog_12_method_71_code 23 = .ok (.if_icmp .eq 26, 3) := by decide +kernel
theorem D197_26 : decode prog_12_method_71_code 26 = .ok (.iload_n 3, 1) := by decide +kernel
theorem D197_27 : decode prog_12_method_71_code 27 = .ok (.iconst 1, 1) := by decide +kernel
theorem D197_28 : decode prog_12_method_71_code 28 = .ok (.if_icmp .lt 21, 3) := by decide +kernel
theorem D197_31 : decode prog_12_method_71_code 31 = .ok (.iload_n 3, 1) := by decide +kernel
theorem D197_32 : decode prog_12_method_71_code 32 = .ok (.bipush 99, 2) := by decide +kernel
theorem D197_34 : decode prog_12_method_71_code 34 = .ok (.if_icmp .gt 15, 3) := by decide +kernel
theorem D197_37 : decode prog_12_method_71_code 37 = .ok (.iload 4, 2) := by decide +kernel
theorem D197_39 : decode prog_12_method_71_code 39 = .ok (.ifCond .lt 10, 3) := by decide +kernel
theorem D197_42 : decode prog_12_method_71_code 42 = .ok (.iload 4, 2) := by decide +kernel
theorem D197_44 : decode prog_12_method_71_code 44 = .ok (.bipush 99, 2) := by decide +kernel
theorem D197_46 : decode prog_12_method_71_code 46 = .ok (.if_icmp .le 5, 3) := by decide +kernel
theorem D197_49 : decode prog_12_method_71_code 49 = .ok (.iconst (-1), 1) := by decide +kernel
theorem D197_50 : decode prog_12_method_71_code 50 = .ok (.ireturn, 1) := by decide +kernel
theorem D197_51 : decode prog_12_method_71_code 51 = .ok (.aload_n 0, 1) := by decide +kernel
theorem D197_52 : decode prog_12_method_71_code 52 = .ok (.iconst 0, 1) := by decide +kernel
theorem D197_53 : decode prog_12_method_71_code 53 = .ok (.iload_n 1, 1) := by decide +kernel
theorem D197_54 : decode prog_12_method_71_code 54 = .ok (.iload_n 2, 1) := by decide +kernel
theorem D197_55 : decode prog_12_method_71_code 55 = .ok (.iload 4, 2) := by decide +kernel
theorem D197_57 : decode prog_12_method_71_code 57 = .ok (.invokevirtual 386, 3) := by decide +kernel
theorem D197_60 : decode prog_12_method_71_code 60 = .ok (.ifCond .ne 6, 3) := by decide +kernel
theorem D197_63 : decode prog_12_method_71_code 63 = .ok (.bipush (-2), 2) := by decide +kernel
theorem D197_65 : decode prog_12_method_71_code 65 = .ok (.ireturn, 1) := by decide +kernel
theorem D197_66 : decode prog_12_method_71_code 66 = .ok (.aload_n 0, 1) := by decide +kernel
theorem D197_67 : decode prog_12_method_71_code 67 = .ok (.invokevirtual 432, 3) := by decide +kernel
theorem D197_70 : decode prog_12_method_71_code 70 = .ok (.aload_n 0, 1) := by decide +kernel
theorem D197_71 : decode prog_12_method_71_code 71 = .ok (.iconst 0, 1) := by decide +kernel
theorem D197_72 : decode prog_12_method_71_code 72 = .ok (.iload_n 1, 1) := by decide +kernel
theorem D197_73 : decode prog_12_method_71_code 73 = .ok (.iload_n 2, 1) := by decide +kernel
theorem D197_74 : decode prog_12_method_71_code 74 = .ok (.iload_n 3, 1) := by decide +kernel
theorem D197_75 : decode prog_12_method_71_code 75 = .ok (.iload 4, 2) := by decide +kernel
theorem D197_77 : decode prog_12_method_71_code 77 = .ok (.invokevirtual 390, 3) := by decide +kernel
theorem D197_80 : decode prog_12_method_71_code 80 = .ok (.aload_n 0, 1) := by decide +kernel
theorem D197_81 : decode prog_12_method_71_code 81 = .ok (.getfield 99, 3) := by decide +kernel
theorem D197_84 : decode prog_12_method_71_code 84 = .ok (.iload_n 2, 1) := by decide +kernel
theorem D197_85 : decode prog_12_method_71_code 85 = .ok (.iaload, 1) := by decide +kernel
theorem D197_86 : decode prog_12_method_71_code 86 = .ok (.ireturn, 1) := by decide +kernel

theorem b197_0 {d : Nat} {i1 : Int32} {i2 : Int32} {i3 : Int32} {i4 : Int32} {ia : Nat → Nat → Int32} {la : Nat → Nat → Int64} {pl dr : Nat} {cp : Option Nat} {cw : Option Nat} {rp : Option Nat} {K : Option Value → zHP → Prop}  : zWP (d + 1) 197 0 [some (.ref 127), some (.int i1), some (.int i2), some (.int i3), some (.int i4)] [] (ia, la, zRA pl dr cp cw rp) K = zWM d 171 [.ref 127, .int i1] ((zu ia 127 0 (0 : Int32)), la, zRA pl dr cp cw rp) (zK (d + 1) 197 10 [some (.ref 127), some (.int i1), some (.int i2), some (.int i3), some (.int i4)] [] K) := by
  refine (Q_aload_n zm_197 (Or.inl (by decide)) D197_0 rfl).trans ?_
  refine (Q_iconst (v := 0) zm_197 (Or.inl (by decide)) D197_1 (by decide)).trans ?_
  refine (Q_putI zm_197 (Or.inl (by decide)) D197_2 zf_10_151 zs_10_0 rfl zk_127.1).trans ?_
  refine (Q_aload_n zm_197 (Or.inl (by decide)) D197_5 rfl).trans ?_
  refine (Q_iload_n zm_197 (Or.inl (by decide)) D197_6 rfl).trans ?_
  exact Q_callv (as := [.int i1]) (b := 127) (rest := []) zm_197 (Or.inl (by decide)) D197_7 zc_10_413 rfl zk_127.1 (by decide) (by decide +kernel) (by decide) (by simp [zcat, Value.category]) zm_171 rfl

theorem b197_10 {d : Nat} {i1 : Int32} {i2 : Int32} {i3 : Int32} {i4 : Int32} {s0 : Int32} {ia : Nat → Nat → Int32} {la : Nat → Nat → Int64} {pl dr : Nat} {cp : Option Nat} {cw : Option Nat} {rp : Option Nat} {K : Option Value → zHP → Prop}  : zWP (d + 1) 197 10 [some (.ref 127), some (.int i1), some (.int i2), some (.int i3), some (.int i4)] [.int s0] (ia, la, zRA pl dr cp cw rp) K = (if s0 = 0 then K (some (.int (-1 : Int32))) (ia, la, zRA pl dr cp cw rp) else zWM d 171 [.ref 127, .int i2] (ia, la, zRA pl dr cp cw rp) (zK (d + 1) 197 18 [some (.ref 127), some (.int i1), some (.int i2), some (.int i3), some (.int i4)] [] K)) := by
  refine (Q_if_eq (tgt := 49) zm_197 (Or.inl (by decide)) D197_10 (by decide)).trans ?_
  refine zif_c (fun h0_ => ?_) (fun h0_ => ?_)
  · refine (Q_iconst (v := -1) zm_197 (Or.inl (by decide)) D197_49 (by decide)).trans ?_
    exact Q_ireturn zm_197 (Or.inl (by decide)) D197_50 rfl
  · refine (Q_aload_n zm_197 (Or.inl (by decide)) D197_13 rfl).trans ?_
    refine (Q_iload_n zm_197 (Or.inl (by decide)) D197_14 rfl).trans ?_
    exact Q_callv (as := [.int i2]) (b := 127) (rest := []) zm_197 (Or.inl (by decide)) D197_15 zc_10_413 rfl zk_127.1 (by decide) (by decide +kernel) (by decide) (by simp [zcat, Value.category]) zm_171 rfl

theorem b197_18 {d : Nat} {i1 : Int32} {i2 : Int32} {i3 : Int32} {i4 : Int32} {s0 : Int32} {ia : Nat → Nat → Int32} {la : Nat → Nat → Int64} {pl dr : Nat} {cp : Option Nat} {cw : Option Nat} {rp : Option Nat} {K : Option Value → zHP → Prop}  : zWP (d + 1) 197 18 [some (.ref 127), some (.int i1), some (.int i2), some (.int i3), some (.int i4)] [.int s0] (ia, la, zRA pl dr cp cw rp) K = (if s0 = 0 then K (some (.int (-1 : Int32))) (ia, la, zRA pl dr cp cw rp) else (if i1 = i2 then K (some (.int (-1 : Int32))) (ia, la, zRA pl dr cp cw rp) else (if i3 < (1 : Int32) then K (some (.int (-1 : Int32))) (ia, la, zRA pl dr cp cw rp) else (if (99 : Int32) < i3 then K (some (.int (-1 : Int32))) (ia, la, zRA pl dr cp cw rp) else (if i4 < 0 then K (some (.int (-1 : Int32))) (ia, la, zRA pl dr cp cw rp) else (if i4 ≤ (99 : Int32) then zWM d 178 [.ref 127, .int (0 : Int32), .int i1, .int i2, .int i4] (ia, la, zRA pl dr cp cw rp) (zK (d + 1) 197 60 [some (.ref 127), some (.int i1), some (.int i2), some (.int i3), some (.int i4)] [] K) else K (some (.int (-1 : Int32))) (ia, la, zRA pl dr cp cw rp))))))) := by
  refine (Q_if_eq (tgt := 49) zm_197 (Or.inl (by decide)) D197_18 (by decide)).trans ?_
  refine zif_c (fun h0_ => ?_) (fun h0_ => ?_)
  · refine (Q_iconst (v := -1) zm_197 (Or.inl (by decide)) D197_49 (by decide)).trans ?_
    exact Q_ireturn zm_197 (Or.inl (by decide)) D197_50 rfl
  · refine (Q_iload_n zm_197 (Or.inl (by decide)) D197_21 rfl).trans ?_
    refine (Q_iload_n zm_197 (Or.inl (by decide)) D197_22 rfl).trans ?_
    refine (Q_ic_eq (tgt := 49) zm_197 (Or.inl (by decide)) D197_23 (by decide)).trans ?_
    refine zif_c (fun h1_ => ?_) (fun h1_ => ?_)
    · refine (Q_iconst (v := -1) zm_197 (Or.inl (by decide)) D197_49 (by decide)).trans ?_
      exact Q_ireturn zm_197 (Or.inl (by decide)) D197_50 rfl
    · refine (Q_iload_n zm_197 (Or.inl (by decide)) D197_26 rfl).trans ?_
      refine (Q_iconst (v := 1) zm_197 (Or.inl (by decide)) D197_27 (by decide)).trans ?_
      refine (Q_ic_lt (tgt := 49) zm_197 (Or.inl (by decide)) D197_28 (by decide)).trans ?_
      refine zif_c (fun h2_ => ?_) (fun h2_ => ?_)
      · refine (Q_iconst (v := -1) zm_197 (Or.inl (by decide)) D197_49 (by decide)).trans ?_
        exact Q_ireturn zm_197 (Or.inl (by decide)) D197_50 rfl
      · refine (Q_iload_n zm_197 (Or.inl (by decide)) D197_31 rfl).trans ?_
        refine (Q_bipush (v := 99) zm_197 (Or.inl (by decide)) D197_32 (by decide)).trans ?_
        refine (Q_ic_gt (tgt := 49) zm_197 (Or.inl (by decide)) D197_34 (by decide)).trans ?_
        refine zif_c (fun h3_ => ?_) (fun h3_ => ?_)
        · refine (Q_iconst (v := -1) zm_197 (Or.inl (by decide)) D197_49 (by decide)).trans ?_
          exact Q_ireturn zm_197 (Or.inl (by decide)) D197_50 rfl
        · refine (Q_iload zm_197 (Or.inl (by decide)) D197_37 rfl).trans ?_
          refine (Q_if_lt (tgt := 49) zm_197 (Or.inl (by decide)) D197_39 (by decide)).trans ?_
          refine zif_c (fun h4_ => ?_) (fun h4_ => ?_)
          · refine (Q_iconst (v := -1) zm_197 (Or.inl (by decide)) D197_49 (by decide)).trans ?_
            exact Q_ireturn zm_197 (Or.inl (by decide)) D197_50 rfl
          · refine (Q_iload zm_197 (Or.inl (by decide)) D197_42 rfl).trans ?_
            refine (Q_bipush (v := 99) zm_197 (Or.inl (by decide)) D197_44 (by decide)).trans ?_
            refine (Q_ic_le (tgt := 51) zm_197 (Or.inl (by decide)) D197_46 (by decide)).trans ?_
            refine zif_c (fun h5_ => ?_) (fun h5_ => ?_)
            · refine (Q_aload_n zm_197 (Or.inl (by decide)) D197_51 rfl).trans ?_
              refine (Q_iconst (v := 0) zm_197 (Or.inl (by decide)) D197_52 (by decide)).trans ?_
              refine (Q_iload_n zm_197 (Or.inl (by decide)) D197_53 rfl).trans ?_
              refine (Q_iload_n zm_197 (Or.inl (by decide)) D197_54 rfl).trans ?_
              refine (Q_iload zm_197 (Or.inl (by decide)) D197_55 rfl).trans ?_
              exact Q_callv (as := [.int (0 : Int32), .int i1, .int i2, .int i4]) (b := 127) (rest := []) zm_197 (Or.inl (by decide)) D197_57 zc_10_386 rfl zk_127.1 (by decide) (by decide +kernel) (by decide) (by simp [zcat, Value.category]) zm_178 rfl
            · refine (Q_iconst (v := -1) zm_197 (Or.inl (by decide)) D197_49 (by decide)).trans ?_
              exact Q_ireturn zm_197 (Or.inl (by decide)) D197_50 rfl

theorem b197_60 {d : Nat} {i1 : Int32} {i2 : Int32} {i3 : Int32} {i4 : Int32} {s0 : Int32} {ia : Nat → Nat → Int32} {la : Nat → Nat → Int64} {pl dr : Nat} {cp : Option Nat} {cw : Option Nat} {rp : Option Nat} {K : Option Value → zHP → Prop}  : zWP (d + 1) 197 60 [some (.ref 127), some (.int i1), some (.int i2), some (.int i3), some (.int i4)] [.int s0] (ia, la, zRA pl dr cp cw rp) K = (if ¬ s0 = 0 then zWM d 196 [.ref 127] (ia, la, zRA pl dr cp cw rp) (zK (d + 1) 197 70 [some (.ref 127), some (.int i1), some (.int i2), some (.int i3), some (.int i4)] [] K) else K (some (.int (-2 : Int32))) (ia, la, zRA pl dr cp cw rp)) := by
  refine (Q_if_ne (tgt := 66) zm_197 (Or.inl (by decide)) D197_60 (by decide)).trans ?_
  refine zif_c (fun h0_ => ?_) (fun h0_ => ?_)
  · refine (Q_aload_n zm_197 (Or.inl (by decide)) D197_66 rfl).trans ?_
    exact Q_callv (as := []) (b := 127) (rest := []) zm_197 (Or.inl (by decide)) D197_67 zc_10_432 rfl zk_127.1 (by decide) (by decide +kernel) (by decide) (by simp [zcat, Value.category]) zm_196 rfl
  · refine (Q_bipush (v := -2) zm_197 (Or.inl (by decide)) D197_63 (by decide)).trans ?_
    exact Q_ireturn zm_197 (Or.inl (by decide)) D197_65 rfl

theorem b197_70 {d : Nat} {i1 : Int32} {i2 : Int32} {i3 : Int32} {i4 : Int32} {ia : Nat → Nat → Int32} {la : Nat → Nat → Int64} {pl dr : Nat} {cp : Option Nat} {cw : Option Nat} {rp : Option Nat} {K : Option Value → zHP → Prop}  : zWP (d + 1) 197 70 [some (.ref 127), some (.int i1), some (.int i2), some (.int i3), some (.int i4)] [] (ia, la, zRA pl dr cp cw rp) K = zWM d 179 [.ref 127, .int (0 : Int32), .int i1, .int i2, .int i3, .int i4] (ia, la, zRA pl dr cp cw rp) (zK (d + 1) 197 80 [some (.ref 127), some (.int i1), some (.int i2), some (.int i3), some (.int i4)] [] K) := by
  refine (Q_aload_n zm_197 (Or.inl (by decide)) D197_70 rfl).trans ?_
  refine (Q_iconst (v := 0) zm_197 (Or.inl (by decide)) D197_71 (by decide)).trans ?_
  refine (Q_iload_n zm_197 (Or.inl (by decide)) D197_72 rfl).trans ?_
  refine (Q_iload_n zm_197 (Or.inl (by decide)) D197_73 rfl).trans ?_
  refine (Q_iload_n zm_197 (Or.inl (by decide)) D197_74 rfl).trans ?_
  refine (Q_iload zm_197 (Or.inl (by decide)) D197_75 rfl).trans ?_
  exact Q_callv (as := [.int (0 : Int32), .int i1, .int i2, .int i3, .int i4]) (b := 127) (rest := []) zm_197 (Or.inl (by decide)) D197_77 zc_10_390 rfl zk_127.1 (by decide) (by decide +kernel) (by decide) (by simp [zcat, Value.category]) zm_179 rfl

theorem b197_80 {d : Nat} {i1 : Int32} {i2 : Int32} {i3 : Int32} {i4 : Int32} {ia : Nat → Nat → Int32} {la : Nat → Nat → Int64} {pl dr : Nat} {cp : Option Nat} {cw : Option Nat} {rp : Option Nat} {K : Option Value → zHP → Prop}  : zWP d 197 80 [some (.ref 127), some (.int i1), some (.int i2), some (.int i3), some (.int i4)] [] (ia, la, zRA pl dr cp cw rp) K = (vp_in i2 138 ∧ K (some (.int (ia 156 (i2).toNatClampNeg))) (ia, la, zRA pl dr cp cw rp)) := by
  refine (Q_aload_n zm_197 (Or.inl (by decide)) D197_80 rfl).trans ?_
  refine (Q_getR (q := 156) zm_197 (Or.inl (by decide)) D197_81 zf_10_99 zs_10_44 zk_127.1 rfl).trans ?_
  refine (Q_iload_n zm_197 (Or.inl (by decide)) D197_84 rfl).trans ?_
  refine (Q_iaload zm_197 (Or.inl (by decide)) D197_85 zk_156.1 zk_156.2).trans ?_
  refine zand_c (fun h0_ => ?_)
  exact Q_ireturn zm_197 (Or.inl (by decide)) D197_86 rfl

/-! HandsLetModel.end(I)I -/
theorem D198_0 : decode prog_12_method_72_code 0 = .ok (.aload_n 0, 1) := by decide +kernel
theorem D198_1 : decode prog_12_method_72_code 1 = .ok (.iconst 0, 1) := by decide +kernel
theorem D198_2 : decode prog_12_method_72_code 2 = .ok (.putfield 151, 3) := by decide +kernel
theorem D198_5 : decode prog_12_method_72_code 5 = .ok (.aload_n 0, 1) := by decide +kernel
theorem D198_6 : decode prog_12_method_72_code 6 = .ok (.iload_n 1, 1) := by decide +kernel
theorem D198_7 : decode prog_12_method_72_code 7 = .ok (.invokevirtual 413, 3) := by decide +kernel
theorem D198_10 : decode prog_12_method_72_code 10 = .ok (.ifCond .ne 5, 3) := by decide +kernel
theorem D198_13 : decode prog_12_method_72_code 13 = .ok (.iconst (-1), 1) := by decide +kernel
theorem D198_14 : decode prog_12_method_72_code 14 = .ok (.ireturn, 1) := by decide +kernel
theorem D198_15 : decode prog_12_method_72_code 15 = .ok (.aload_n 0, 1) := by decide +kernel
theorem D198_16 : decode prog_12_method_72_code 16 = .ok (.iconst 0, 1) := by decide +kernel
theorem D198_17 : decode prog_12_method_72_code 17 = .ok (.iload_n 1, 1) := by decide +kernel
theorem D198_18 : decode prog_12_method_72_code 18 = .ok (.invokevirtual 340, 3) := by decide +kernel
theorem D198_21 : decode prog_12_method_72_code 21 = .ok (.ifCond .ne 6, 3) := by decide +kernel
theorem D198_24 : decode prog_12_method_72_code 24 = .ok (.bipush (-2), 2) := by decide +kernel
theorem D198_26 : decode prog_12_method_72_code 26 = .ok (.ireturn, 1) := by decide +kernel
theorem D198_27 : decode prog_12_method_72_code 27 = .ok (.aload_n 0, 1) := by decide +kernel
theorem D198_28 : decode prog_12_method_72_code 28 = .ok (.invokevirtual 432, 3) := by decide +kernel
theorem D198_31 : decode prog_12_method_72_code 31 = .ok (.aload_n 0, 1) := by decide +kernel
theorem D198_32 : decode prog_12_method_72_code 32 = .ok (.iconst 0, 1) := by decide +kernel
theorem D198_33 : decode prog_12_method_72_code 33 = .ok (.iload_n 1, 1) := by decide +kernel
theorem D198_34 : decode prog_12_method_72_code 34 = .ok (.invokevirtual 404, 3) := by decide +kernel
theorem D198_37 : decode prog_12_method_72_code 37 = .ok (.aload_n 0, 1) := by decide +kernel
theorem D198_38 : decode prog_12_method_72_code 38 = .ok (.getfield 96, 3) := by decide +kernel
theorem D198_41 : decode prog_12_method_72_code 41 = .ok (.iload_n 1, 1) := by decide +kernel
theorem D198_42 : decode prog_12_method_72_code 42 = .ok (.iaload, 1) := by decide +kernel
theorem D198_43 : decode prog_12_method_72_code 43 = .ok (.ireturn, 1) := by decide +kernel

theorem b198_0 {d : Nat} {i1 : Int32} {ia : Nat → Nat → Int32} {la : Nat → Nat → Int64} {pl dr : Nat} {cp : Option Nat} {cw : Option Nat} {rp : Option Nat} {K : Option Value → zHP → Prop}  : zWP (d + 1) 198 0 [some (.ref 127), some (.int i1)] [] (ia, la, zRA pl dr cp cw rp) K = zWM d 171 [.ref 127, .int i1] ((zu ia 127 0 (0 : Int32)), la, zRA pl dr cp cw rp) (zK (d + 1) 198 10 [some (.ref 127), some (.int i1)] [] K) := by
  refine (Q_aload_n zm_198 (Or.inl (by decide)) D198_0 rfl).trans ?_
  refine (Q_iconst (v := 0) zm_198 (Or.inl (by decide)) D198_1 (by decide)).trans ?_
  refine (Q_putI zm_198 (Or.inl (by decide)) D198_2 zf_10_151 zs_10_0 rfl zk_127.1).trans ?_
  refine (Q_aload_n zm_198 (Or.inl (by decide)) D198_5 rfl).trans ?_
  refine (Q_iload_n zm_198 (Or.inl (by decide)) D198_6 rfl).trans ?_
  exact Q_callv (as := [.int i1]) (b := 127) (rest := []) zm_198 (Or.inl (by decide)) D198_7 zc_10_413 rfl zk_127.1 (by decide) (by decide +kernel) (by decide) (by simp [zcat, Value.category]) zm_171 rfl

theorem b198_10 {d : Nat} {i1 : Int32} {s0 : Int32} {ia : Nat → Nat → Int32} {la : Nat → Nat → Int64} {pl dr : Nat} {cp : Option Nat} {cw : Option Nat} {rp : Option Nat} {K : Option Value → zHP → Prop}  : zWP (d + 1) 198 10 [some (.ref 127), some (.int i1)] [.int s0] (ia, la, zRA pl dr cp cw rp) K = (if ¬ s0 = 0 then zWM d 172 [.ref 127, .int (0 : Int32), .int i1] (ia, la, zRA pl dr cp cw rp) (zK (d + 1) 198 21 [some (.ref 127), some (.int i1)] [] K) else K (some (.int (-1 : Int32))) (ia, la, zRA pl dr cp cw rp)) := by
  refine (Q_if_ne (tgt := 15) zm_198 (Or.inl (by decide)) D198_10 (by decide)).trans ?_
  refine zif_c (fun h0_ => ?_) (fun h0_ => ?_)
  · refine (Q_aload_n zm_198 (Or.inl (by decide)) D198_15 rfl).trans ?_
    refine (Q_iconst (v := 0) zm_198 (Or.inl (by decide)) D198_16 (by decide)).trans ?_
    refine (Q_iload_n zm_198 (Or.inl (by decide)) D198_17 rfl).trans ?_
    exact Q_callv (as := [.int (0 : Int32), .int i1]) (b := 127) (rest := []) zm_198 (Or.inl (by decide)) D198_18 zc_10_340 rfl zk_127.1 (by decide) (by decide +kernel) (by decide) (by simp [zcat, Value.category]) zm_172 rfl
  · refine (Q_iconst (v := -1) zm_198 (Or.inl (by decide)) D198_13 (by decide)).trans ?_
    exact Q_ireturn zm_198 (Or.inl (by decide)) D198_14 rfl

theorem b198_21 {d : Nat} {i1 : Int32} {s0 : Int32} {ia : Nat → Nat → Int32} {la : Nat → Nat → Int64} {pl dr : Nat} {cp : Option Nat} {cw : Option Nat} {rp : Option Nat} {K : Option Value → zHP → Prop}  : zWP (d + 1) 198 21 [some (.ref 127), some (.int i1)] [.int s0] (ia, la, zRA pl dr cp cw rp) K = (if ¬ s0 = 0 then zWM d 196 [.ref 127] (ia, la, zRA pl dr cp cw rp) (zK (d + 1) 198 31 [some (.ref 127), some (.int i1)] [] K) else K (some (.int (-2 : Int32))) (ia, la, zRA pl dr cp cw rp)) := by
  refine (Q_if_ne (tgt := 27) zm_198 (Or.inl (by decide)) D198_21 (by decide)).trans ?_
  refine zif_c (fun h0_ => ?_) (fun h0_ => ?_)
  · refine (Q_aload_n zm_198 (Or.inl (by decide)) D198_27 rfl).trans ?_
    exact Q_callv (as := []) (b := 127) (rest := []) zm_198 (Or.inl (by decide)) D198_28 zc_10_432 rfl zk_127.1 (by decide) (by decide +kernel) (by decide) (by simp [zcat, Value.category]) zm_196 rfl
  · refine (Q_bipush (v := -2) zm_198 (Or.inl (by decide)) D198_24 (by decide)).trans ?_
    exact Q_ireturn zm_198 (Or.inl (by decide)) D198_26 rfl

theorem b198_31 {d : Nat} {i1 : Int32} {ia : Nat → Nat → Int32} {la : Nat → Nat → Int64} {pl dr : Nat} {cp : Option Nat} {cw : Option Nat} {rp : Option Nat} {K : Option Value → zHP → Prop}  : zWP (d + 1) 198 31 [some (.ref 127), some (.int i1)] [] (ia, la, zRA pl dr cp cw rp) K = zWM d 184 [.ref 127, .int (0 : Int32), .int i1] (ia, la, zRA pl dr cp cw rp) (zK (d + 1) 198 37 [some (.ref 127), some (.int i1)] [] K) := by
  refine (Q_aload_n zm_198 (Or.inl (by decide)) D198_31 rfl).trans ?_
  refine (Q_iconst (v := 0) zm_198 (Or.inl (by decide)) D198_32 (by decide)).trans ?_
  refine (Q_iload_n zm_198 (Or.inl (by decide)) D198_33 rfl).trans ?_
  exact Q_callv (as := [.int (0 : Int32), .int i1]) (b := 127) (rest := []) zm_198 (Or.inl (by decide)) D198_34 zc_10_404 rfl zk_127.1 (by decide) (by decide +kernel) (by decide) (by simp [zcat, Value.category]) zm_184 rfl

theorem b198_37 {d : Nat} {i1 : Int32} {ia : Nat → Nat → Int32} {la : Nat → Nat → Int64} {pl dr : Nat} {cp : Option Nat} {cw : Option Nat} {rp : Option Nat} {K : Option Value → zHP → Prop}  : zWP d 198 37 [some (.ref 127), some (.int i1)] [] (ia, la, zRA pl dr cp cw rp) K = (vp_in i1 138 ∧ K (some (.int (ia 155 (i1).toNatClampNeg))) (ia, la, zRA pl dr cp cw rp)) := by
  refine (Q_aload_n zm_198 (Or.inl (by decide)) D198_37 rfl).trans ?_
  refine (Q_getR (q := 155) zm_198 (Or.inl (by decide)) D198_38 zf_10_96 zs_10_43 zk_127.1 rfl).trans ?_
  refine (Q_iload_n zm_198 (Or.inl (by decide)) D198_41 rfl).trans ?_
  refine (Q_iaload zm_198 (Or.inl (by decide)) D198_42 zk_155.1 zk_155.2).trans ?_
  refine zand_c (fun h0_ => ?_)
  exact Q_ireturn zm_198 (Or.inl (by decide)) D198_43 rfl

/-! HandsLetModel.lesson(II)V -/
theorem D199_0 : decode prog_12_method_73_code 0 = .ok (.iconst 0, 1) := by decide +kernel
theorem D199_1 : decode prog_12_method_73_code 1 = .ok (.istore_n 3, 1) := by decide +kernel
theorem D199_2 : decode prog_12_method_73_code 2 = .ok (.iload_n 3, 1) := by decide +kernel
theorem D199_3 : decode prog_12_method_73_code 3 = .ok (.iconst 3, 1) := by decide +kernel
theorem D199_4 : decode prog_12_method_73_code 4 = .ok (.if_icmp .ge 55, 3) := by decide +kernel
theorem D199_7 : decode prog_12_method_73_code 7 = .ok (.iconst 3, 1) := by decide +kernel
theorem D199_8 : decode prog_12_method_73_code 8 = .ok (.bipush 6, 2) := by decide +kernel
theorem D199_10 : decode prog_12_method_73_code 10 = .ok (.iload_n 1, 1) := by decide +kernel
theorem D199_11 : decode prog_12_method_73_code 11 = .ok (.imul, 1) := by decide +kernel
theorem D199_12 : decode prog_12_method_73_code 12 = .ok (.iload_n 2, 1) := by decide +kernel
theorem D199_13 : decode prog_12_method_73_code 13 = .ok (.iadd, 1) := by decide +kernel
theorem D199_14 : decode prog_12_method_73_code 14 = .ok (.imul, 1) := by decide +kernel
theorem D199_15 : decode prog_12_method_73_code 15 = .ok (.iload_n 3, 1) := by decide +kernel
theorem D199_16 : decode prog_12_method_73_code 16 = .ok (.iadd, 1) := by decide +kernel
theorem D199_17 : decode prog_12_method_73_code 17 = .ok (.istore 4, 2) := by decide +kernel
theorem D199_19 : decode prog_12_method_73_code 19 = .ok (.aload_n 0, 1) := by decide +kernel
theorem D199_20 : decode prog_12_method_73_code 20 = .ok (.getfield 87, 3) := by decide +kernel
theorem D199_23 : decode prog_12_method_73_code 23 = .ok (.iload 4, 2) := by decide +kernel
theorem D199_25 : decode prog_12_method_73_code 25 = .ok (.dup2, 1) := by decide +kernel
theorem D199_26 : decode prog_12_method_73_code 26 = .ok (.iaload, 1) := by decide +kernel
theorem D199_27 : decode prog_12_method_73_code 27 = .ok (.sipush 1000, 3) := by decide +kernel
theorem D199_30 : decode prog_12_method_73_code 30 = .ok (.aload_n 0, 1) := by decide +kernel
theorem D199_31 : decode prog_12_method_73_code 31 = .ok (.getfield 19, 3) := by decide +kernel
theorem D199_34 : decode prog_12_method_73_code 34 = .ok (.iconst 3, 1) := by decide +kernel
theorem D199_35 : decode prog_12_method_73_code 35 = .ok (.iload_n 2, 1) := by decide +kernel
theorem D199_36 : decode prog_12_method_73_code 36 = .ok (.imul, 1) := by decide +kernel
theorem D199_37 : decode prog_12_method_73_code 37 = .ok (.iload_n 3, 1) := by decide +kernel
theorem D199_38 : decode prog_12_method_73_code 38 = .ok (.iadd, 1) := by decide +kernel
theorem D199_39 : decode prog_12_method_73_code 39 = .ok (.iaload, 1) := by decide +kernel
theorem D199_40 : decode prog_12_method_73_code 40 = .ok (.imul, 1) := by decide +kernel
theorem D199_41 : decode prog_12_method_73_code 41 = .ok (.aload_n 0, 1) := by decide +kernel
theorem D199_42 : decode prog_12_method_73_code 42 = .ok (.getfield 87, 3) := by decide +kernel
theorem D199_45 : decode prog_12_method_73_code 45 = .ok (.iload 4, 2) := by decide +kernel
theorem D199_47 : decode prog_12_method_73_code 47 = .ok (.iaload, 1) := by decide +kernel
theorem D199_48 : decode prog_12_method_73_code 48 = .ok (.isub, 1) := by decide +kernel
theorem D199_49 : decode prog_12_method_73_code 49 = .ok (.iconst 2, 1) := by decide +kernel
theorem D199_50 : decode prog_12_method_73_code 50 = .ok (.idiv, 1) := by decide +kernel
theorem D199_51 : decode prog_12_method_73_code 51 = .ok (.iadd, 1) := by decide +kernel
theorem D199_52 : decode prog_12_method_73_code 52 = .ok (.iastore, 1) := by decide +kernel
theorem D199_53 : decode prog_12_method_73_code 53 = .ok (.iinc 3 1, 3) := by decide +kernel
theorem D199_56 : decode prog_12_method_73_code 56 = .ok (.goto (-54), 3) := by decide +kernel
theorem D199_59 : decode prog_12_method_73_code 59 = .ok (.return_, 1) := by decide +kernel

theorem b199_0 {d : Nat} {i1 : Int32} {i2 : Int32} {ia : Nat → Nat → Int32} {la : Nat → Nat → Int64} {pl dr : Nat} {cp : Option Nat} {cw : Option Nat} {rp : Option Nat} {K : Option Value → zHP → Prop}  : zWP d 199 0 [some (.ref 127), some (.int i1), some (.int i2), none, none] [] (ia, la, zRA pl dr cp cw rp) K = zWP d 199 2 [some (.ref 127), some (.int i1), some (.int i2), some (.int (0 : Int32)), none] [] (ia, la, zRA pl dr cp cw rp) K := by
  refine (Q_iconst (v := 0) zm_199 (Or.inl (by decide)) D199_0 (by decide)).trans ?_
  refine (Q_istore_n (ls' := [some (.ref 127), some (.int i1), some (.int i2), some (.int (0 : Int32)), none]) zm_199 (Or.inl (by decide)) D199_1 rfl (Nat.le_of_ble_eq_true rfl) rfl).trans ?_
  rfl

theorem b199_2 {d : Nat} {i1 : Int32} {i2 : Int32} {i3 : Int32} {a4 : Option Value} {ia : Nat → Nat → Int32} {la : Nat → Nat → Int64} {pl dr : Nat} {cp : Option Nat} {cw : Option Nat} {rp : Option Nat} {K : Option Value → zHP → Prop}  : zWP d 199 2 [some (.ref 127), some (.int i1), some (.int i2), some (.int i3), a4] [] (ia, la, zRA pl dr cp cw rp) K = (if (3 : Int32) ≤ i3 then K none (ia, la, zRA pl dr cp cw rp) else (vp_in (((3 : Int32) * (((6 : Int32) * i1) + i2)) + i3) 414 ∧ (vp_in (((3 : Int32) * i2) + i3) 36 ∧ zWP d 199 2 [some (.ref 127), some (.int i1), some (.int i2), some (.int (i3 + (1 : Int32))), some (.int (((3 : Int32) * (((6 : Int32) * i1) + i2)) + i3))] [] ((zu ia 152 ((((3 : Int32) * (((6 : Int32) * i1) + i2)) + i3)).toNatClampNeg ((ia 152 ((((3 : Int32) * (((6 : Int32) * i1) + i2)) + i3)).toNatClampNeg) + ((((1000 : Int32) * (ia 131 ((((3 : Int32) * i2) + i3)).toNatClampNeg)) - (ia 152 ((((3 : Int32) * (((6 : Int32) * i1) + i2)) + i3)).toNatClampNeg)) / (2 : Int32)))), la, zRA pl dr cp cw rp) K))) := by
  refine (Q_iload_n zm_199 (Or.inl (by decide)) D199_2 rfl).trans ?_
  refine (Q_iconst (v := 3) zm_199 (Or.inl (by decide)) D199_3 (by decide)).trans ?_
  refine (Q_ic_ge (tgt := 59) zm_199 (Or.inl (by decide)) D199_4 (by decide)).trans ?_
  refine zif_c (fun h0_ => ?_) (fun h0_ => ?_)
  · exact Q_return zm_199 (Or.inl (by decide)) D199_59 rfl
  · refine (Q_iconst (v := 3) zm_199 (Or.inl (by decide)) D199_7 (by decide)).trans ?_
    refine (Q_bipush (v := 6) zm_199 (Or.inl (by decide)) D199_8 (by decide)).trans ?_
    refine (Q_iload_n zm_199 (Or.inl (by decide)) D199_10 rfl).trans ?_
    refine (Q_imul zm_199 (Or.inl (by decide)) D199_11).trans ?_
    refine (Q_iload_n zm_199 (Or.inl (by decide)) D199_12 rfl).trans ?_
    refine (Q_iadd zm_199 (Or.inl (by decide)) D199_13).trans ?_
    refine (Q_imul zm_199 (Or.inl (by decide)) D199_14).trans ?_
    refine (Q_iload_n zm_199 (Or.inl (by decide)) D199_15 rfl).trans ?_
    refine (Q_iadd zm_199 (Or.inl (by decide)) D199_16).trans ?_
    refine (Q_istore (ls' := [some (.ref 127), some (.int i1), some (.int i2), some (.int i3), some (.int (((3 : Int32) * (((6 : Int32) * i1) + i2)) + i3))]) zm_199 (Or.inl (by decide)) D199_17 rfl (Nat.le_of_ble_eq_true rfl) rfl).trans ?_
    refine (Q_aload_n zm_199 (Or.inl (by decide)) D199_19 rfl).trans ?_
    refine (Q_getR (q := 152) zm_199 (Or.inl (by decide)) D199_20 zf_10_87 zs_10_40 zk_127.1 rfl).trans ?_
    refine (Q_iload zm_199 (Or.inl (by decide)) D199_23 rfl).trans ?_
    refine (Q_dup2 zm_199 (Or.inl (by decide)) D199_25 rfl rfl).trans ?_
    refine (Q_iaload zm_199 (Or.inl (by decide)) D199_26 zk_152.1 zk_152.2).trans ?_
    refine zand_c (fun h1_ => ?_)
    refine (Q_sipush (v := 1000) zm_199 (Or.inl (by decide)) D199_27 (by decide)).trans ?_
    refine (Q_aload_n zm_199 (Or.inl (by decide)) D199_30 rfl).trans ?_
    refine (Q_getR (q := 131) zm_199 (Or.inl (by decide)) D199_31 zf_10_19 zs_10_5 zk_127.1 rfl).trans ?_
    refine (Q_iconst (v := 3) zm_199 (Or.inl (by decide)) D199_34 (by decide)).trans ?_
    refine (Q_iload_n zm_199 (Or.inl (by decide)) D199_35 rfl).trans ?_
    refine (Q_imul zm_199 (Or.inl (by decide)) D199_36).trans ?_
    refine (Q_iload_n zm_199 (Or.inl (by decide)) D199_37 rfl).trans ?_
    refine (Q_iadd zm_199 (Or.inl (by decide)) D199_38).trans ?_
    refine (Q_iaload zm_199 (Or.inl (by decide)) D199_39 zk_131.1 zk_131.2).trans ?_
    refine zand_c (fun h2_ => ?_)
    refine (Q_imul zm_199 (Or.inl (by decide)) D199_40).trans ?_
    refine (Q_aload_n zm_199 (Or.inl (by decide)) D199_41 rfl).trans ?_
    refine (Q_getR (q := 152) zm_199 (Or.inl (by decide)) D199_42 zf_10_87 zs_10_40 zk_127.1 rfl).trans ?_
    refine (Q_iload zm_199 (Or.inl (by decide)) D199_45 rfl).trans ?_
    refine ((Q_iaload zm_199 (Or.inl (by decide)) D199_47 zk_152.1 zk_152.2).trans (zdrop h1_)).trans ?_
    refine (Q_isub zm_199 (Or.inl (by decide)) D199_48).trans ?_
    refine (Q_iconst (v := 2) zm_199 (Or.inl (by decide)) D199_49 (by decide)).trans ?_
    refine (Q_idiv zm_199 (Or.inl (by decide)) D199_50 (by decide)).trans ?_
    refine (Q_iadd zm_199 (Or.inl (by decide)) D199_51).trans ?_
    refine ((Q_iastore zm_199 (Or.inl (by decide)) D199_52 zk_152.1 zk_152.2).trans (zdrop h1_)).trans ?_
    refine (Q_iinc (v := 1) (ls' := [some (.ref 127), some (.int i1), some (.int i2), some (.int (i3 + (1 : Int32))), some (.int (((3 : Int32) * (((6 : Int32) * i1) + i2)) + i3))]) zm_199 (Or.inl (by decide)) D199_53 rfl rfl (by decide) rfl).trans ?_
    refine (Q_goto (tgt := 2) zm_199 (Or.inl (by decide)) D199_56 (by decide)).trans ?_
    rfl

/-! HandsLetModel.teach(I)I -/
theorem D200_0 : decode prog_12_method_74_code 0 = .ok (.aload_n 0, 1) := by decide +kernel
theorem D200_1 : decode prog_12_method_74_code 1 = .ok (.iconst 0, 1) := by decide +kernel
theorem D200_2 : decode prog_12_method_74_code 2 = .ok (.putfield 151, 3) := by decide +kernel
theorem D200_5 : decode prog_12_method_74_code 5 = .ok (.aload_n 0, 1) := by decide +kernel
theorem D200_6 : decode prog_12_method_74_code 6 = .ok (.iload_n 1, 1) := by decide +kernel
theorem D200_7 : decode prog_12_method_74_code 7 = .ok (.invokevirtual 413, 3) := by decide +kernel
theorem D200_10 : decode prog_12_method_74_code 10 = .ok (.ifCond .ne 5, 3) := by decide +kernel
theorem D200_13 : decode prog_12_method_74_code 13 = .ok (.iconst (-1), 1) := by decide +kernel
theorem D200_14 : decode prog_12_method_74_code 14 = .ok (.ireturn, 1) := by decide +kernel
theorem D200_15 : decode prog_12_method_74_code 15 = .ok (.aload_n 0, 1) := by decide +kernel
theorem D200_16 : decode prog_12_method_74_code 16 = .ok (.iconst 0, 1) := by decide +kernel
theorem D200_17 : decode prog_12_method_74_code 17 = .ok (.iload_n 1, 1) := by decide +kernel
theorem D200_18 : decode prog_12_method_74_code 18 = .ok (.invokevirtual 340, 3) := by decide +kernel
theorem D200_21 : decode prog_12_method_74_code 21 = .ok (.ifCond .eq 6, 3) := by decide +kernel
theorem D200_24 : decode prog_12_method_74_code 24 = .ok (.bipush (-2), 2) := by decide +kernel
theorem D200_26 : decode prog_12_method_74_code 26 = .ok (.ireturn, 1) := by decide +kernel
theorem D200_27 : decode prog_12_method_74_code 27 = .ok (.aload_n 0, 1) := by decide +kernel
theorem D200_28 : decode prog_12_method_74_code 28 = .ok (.invokevirtual 432, 3) := by decide +kernel
theorem D200_31 : decode prog_12_method_74_code 31 = .ok (.aload_n 0, 1) := by decide +kernel
theorem D200_32 : decode prog_12_method_74_code 32 = .ok (.iconst 0, 1) := by decide +kernel
theorem D200_33 : decode prog_12_method_74_code 33 = .ok (.iload_n 1, 1) := by decide +kernel
theorem D200_34 : decode prog_12_method_74_code 34 = .ok (.invokevirtual 435, 3) := by decide +kernel
theorem D200_37 : decode prog_12_method_74_code 37 = .ok (.aload_n 0, 1) := by decide +kernel
theorem D200_38 : decode prog_12_method_74_code 38 = .ok (.iconst 0, 1) := by decide +kernel
theorem D200_39 : decode prog_12_method_74_code 39 = .ok (.iload_n 1, 1) := by decide +kernel
theorem D200_40 : decode prog_12_method_74_code 40 = .ok (.iload_n 1, 1) := by decide +kernel
theorem D200_41 : decode prog_12_method_74_code 41 = .ok (.invokevirtual 438, 3) := by decide +kernel
theorem D200_44 : decode prog_12_method_74_code 44 = .ok (.ireturn, 1) := by decide +kernel

theorem b200_0 {d : Nat} {i1 : Int32} {ia : Nat → Nat → Int32} {la : Nat → Nat → Int64} {pl dr : Nat} {cp : Option Nat} {cw : Option Nat} {rp : Option Nat} {K : Option Value → zHP → Prop}  : zWP (d + 1) 200 0 [some (.ref 127), some (.int i1)] [] (ia, la, zRA pl dr cp cw rp) K = zWM d 171 [.ref 127, .int i1] ((zu ia 127 0 (0 : Int32)), la, zRA pl dr cp cw rp) (zK (d + 1) 200 10 [some (.ref 127), some (.int i1)] [] K) := by
  refine (Q_aload_n zm_200 (Or.inl (by decide)) D200_0 rfl).trans ?_
  refine (Q_iconst (v := 0) zm_200 (Or.inl (by decide)) D200_1 (by decide)).trans ?_
  refine (Q_putI zm_200 (Or.inl (by decide)) D200_2 zf_10_151 zs_10_0 rfl zk_127.1).trans ?_
  refine (Q_aload_n zm_200 (Or.inl (by decide)) D200_5 rfl).trans ?_
  refine (Q_iload_n zm_200 (Or.inl (by decide)) D200_6 rfl).trans ?_
  exact Q_callv (as := [.int i1]) (b := 127) (rest := []) zm_200 (Or.inl (by decide)) D200_7 zc_10_413 rfl zk_127.1 (by decide) (by decide +kernel) (by decide) (by simp [zcat, Value.category]) zm_171 rfl

theorem b200_10 {d : Nat} {i1 : Int32} {s0 : Int32} {ia : Nat → Nat → Int32} {la : Nat → Nat → Int64} {pl dr : Nat} {cp : Option Nat} {cw : Option Nat} {rp : Option Nat} {K : Option Value → zHP → Prop}  : zWP (d + 1) 200 10 [some (.ref 127), some (.int i1)] [.int s0] (ia, la, zRA pl dr cp cw rp) K = (if ¬ s0 = 0 then zWM d 172 [.ref 127, .int (0 : Int32), .int i1] (ia, la, zRA pl dr cp cw rp) (zK (d + 1) 200 21 [some (.ref 127), some (.int i1)] [] K) else K (some (.int (-1 : Int32))) (ia, la, zRA pl dr cp cw rp)) := by
  refine (Q_if_ne (tgt := 15) zm_200 (Or.inl (by decide)) D200_10 (by decide)).trans ?_
  refine zif_c (fun h0_ => ?_) (fun h0_ => ?_)
  · refine (Q_aload_n zm_200 (Or.inl (by decide)) D200_15 rfl).trans ?_
    refine (Q_iconst (v := 0) zm_200 (Or.inl (by decide)) D200_16 (by decide)).trans ?_
    refine (Q_iload_n zm_200 (Or.inl (by decide)) D200_17 rfl).trans ?_
    exact Q_callv (as := [.int (0 : Int32), .int i1]) (b := 127) (rest := []) zm_200 (Or.inl (by decide)) D200_18 zc_10_340 rfl zk_127.1 (by decide) (by decide +kernel) (by decide) (by simp [zcat, Value.category]) zm_172 rfl
  · refine (Q_iconst (v := -1) zm_200 (Or.inl (by decide)) D200_13 (by decide)).trans ?_
    exact Q_ireturn zm_200 (Or.inl (by decide)) D200_14 rfl

theorem b200_21 {d : Nat} {i1 : Int32} {s0 : Int32} {ia : Nat → Nat → Int32} {la : Nat → Nat → Int64} {pl dr : Nat} {cp : Option Nat} {cw : Option Nat} {rp : Option Nat} {K : Option Value → zHP → Prop}  : zWP (d + 1) 200 21 [some (.ref 127), some (.int i1)] [.int s0] (ia, la, zRA pl dr cp cw rp) K = (if s0 = 0 then zWM d 196 [.ref 127] (ia, la, zRA pl dr cp cw rp) (zK (d + 1) 200 31 [some (.ref 127), some (.int i1)] [] K) else K (some (.int (-2 : Int32))) (ia, la, zRA pl dr cp cw rp)) := by
  refine (Q_if_eq (tgt := 27) zm_200 (Or.inl (by decide)) D200_21 (by decide)).trans ?_
  refine zif_c (fun h0_ => ?_) (fun h0_ => ?_)
  · refine (Q_aload_n zm_200 (Or.inl (by decide)) D200_27 rfl).trans ?_
    exact Q_callv (as := []) (b := 127) (rest := []) zm_200 (Or.inl (by decide)) D200_28 zc_10_432 rfl zk_127.1 (by decide) (by decide +kernel) (by decide) (by simp [zcat, Value.category]) zm_196 rfl
  · refine (Q_bipush (v := -2) zm_200 (Or.inl (by decide)) D200_24 (by decide)).trans ?_
    exact Q_ireturn zm_200 (Or.inl (by decide)) D200_26 rfl

theorem b200_31 {d : Nat} {i1 : Int32} {ia : Nat → Nat → Int32} {la : Nat → Nat → Int64} {pl dr : Nat} {cp : Option Nat} {cw : Option Nat} {rp : Option Nat} {K : Option Value → zHP → Prop}  : zWP (d + 1) 200 31 [some (.ref 127), some (.int i1)] [] (ia, la, zRA pl dr cp cw rp) K = zWM d 199 [.ref 127, .int (0 : Int32), .int i1] (ia, la, zRA pl dr cp cw rp) (zK (d + 1) 200 37 [some (.ref 127), some (.int i1)] [] K) := by
  refine (Q_aload_n zm_200 (Or.inl (by decide)) D200_31 rfl).trans ?_
  refine (Q_iconst (v := 0) zm_200 (Or.inl (by decide)) D200_32 (by decide)).trans ?_
  refine (Q_iload_n zm_200 (Or.inl (by decide)) D200_33 rfl).trans ?_
  exact Q_callv (as := [.int (0 : Int32), .int i1]) (b := 127) (rest := []) zm_200 (Or.inl (by decide)) D200_34 zc_10_435 rfl zk_127.1 (by decide) (by decide +kernel) (by decide) (by simp [zcat, Value.category]) zm_199 rfl

theorem b200_37 {d : Nat} {i1 : Int32} {ia : Nat → Nat → Int32} {la : Nat → Nat → Int64} {pl dr : Nat} {cp : Option Nat} {cw : Option Nat} {rp : Option Nat} {K : Option Value → zHP → Prop}  : zWP (d + 1) 200 37 [some (.ref 127), some (.int i1)] [] (ia, la, zRA pl dr cp cw rp) K = zWM d 189 [.ref 127, .int (0 : Int32), .int i1, .int i1] (ia, la, zRA pl dr cp cw rp) (zK (d + 1) 200 44 [some (.ref 127), some (.int i1)] [] K) := by
  refine (Q_aload_n zm_200 (Or.inl (by decide)) D200_37 rfl).trans ?_
  refine (Q_iconst (v := 0) zm_200 (Or.inl (by decide)) D200_38 (by decide)).trans ?_
  refine (Q_iload_n zm_200 (Or.inl (by decide)) D200_39 rfl).trans ?_
  refine (Q_iload_n zm_200 (Or.inl (by decide)) D200_40 rfl).trans ?_
  exact Q_callv (as := [.int (0 : Int32), .int i1, .int i1]) (b := 127) (rest := []) zm_200 (Or.inl (by decide)) D200_41 zc_10_438 rfl zk_127.1 (by decide) (by decide +kernel) (by decide) (by simp [zcat, Value.category]) zm_189 rfl

theorem b200_44 {d : Nat} {i1 : Int32} {s0 : Int32} {ia : Nat → Nat → Int32} {la : Nat → Nat → Int64} {pl dr : Nat} {cp : Option Nat} {cw : Option Nat} {rp : Option Nat} {K : Option Value → zHP → Prop}  : zWP d 200 44 [some (.ref 127), some (.int i1)] [.int s0] (ia, la, zRA pl dr cp cw rp) K = K (some (.int s0)) (ia, la, zRA pl dr cp cw rp) := by
  exact Q_ireturn zm_200 (Or.inl (by decide)) D200_44 rfl

/-! HandsLetModel.go(I)I -/
theorem D201_0 : decode prog_12_method_75_code 0 = .ok (.aload_n 0, 1) := by decide +kernel
theorem D201_1 : decode prog_12_method_75_code 1 = .ok (.iconst 0, 1) := by decide +kernel
theorem D201_2 : decode prog_12_method_75_code 2 = .ok (.putfield 151, 3) := by decide +kernel
theorem D201_5 : decode prog_12_method_75_code 5 = .ok (.iload_n 1, 1) := by decide +kernel
theorem D201_6 : decode prog_12_method_75_code 6 = .ok (.ifCond .lt 24, 3) := by decide +kernel
theorem D201_9 : decode prog_12_method_75_code 9 = .ok (.iload_n 1, 1) := by decide +kernel
theorem D201_10 : decode prog_12_method_75_code 10 = .ok (.sipush 200, 3) := by decide +kernel
theorem D201_13 : decode prog_12_method_75_code 13 = .ok (.if_icmp .gt 17, 3) := by decide +kernel
theorem D201_16 : decode prog_12_method_75_code 16 = .ok (.aload_n 0, 1) := by decide +kernel
theorem D201_17 : decode prog_12_method_75_code 17 = .ok (.getfield 72, 3) := by decide +kernel
theorem D201_20 : decode prog_12_method_75_code 20 = .ok (.iconst 0, 1) := by decide +kernel
theorem D201_21 : decode prog_12_method_75_code 21 = .ok (.iaload, 1) := by decide +kernel
theorem D201_22 : decode prog_12_method_75_code 22 = .ok (.iload_n 1, 1) := by decide +kernel
theorem D201_23 : decode prog_12_method_75_code 23 = .ok (.iadd, 1) := by decide +kernel
theorem D201_24 : decode prog_12_method_75_code 24 = .ok (.sipush 9800, 3) := by decide +kernel
theorem D201_27 : decode prog_12_method_75_code 27 = .ok (.if_icmp .le 5, 3) := by decide +kernel
theorem D201_30 : decode prog_12_method_75_code 30 = .ok (.iconst (-1), 1) := by decide +kernel
theorem D201_31 : decode prog_12_method_75_code 31 = .ok (.ireturn, 1) := by decide +kernel
theorem D201_32 : decode prog_12_method_75_code 32 = .ok (.iload_n 1, 1) := by decide +kernel
theorem D201_33 : decode prog_12_method_75_code 33 = .ok (.ifCond .le 8, 3) := by decide +kernel
theorem D201_36 : decode prog_12_method_75_code 36 = .ok (.aload_n 0, 1) := by decide +kernel
theorem D201_37 : decode prog_12_method_75_code 37 = .ok (.iconst 0, 1) := by decide +kernel
theorem D201_38 : decode prog_12_method_75_code 38 = .ok (.putfield 314, 3) := by decide +kernel
theorem D201_41 : decode prog_12_method_75_code 41 = .ok (.iconst 0, 1) := by decide +kernel
theorem D201_42 : decode prog_12_method_75_code 42 = .ok (.istore_n 2, 1) := by decide +kernel
theorem D201_43 : decode prog_12_method_75_code 43 = .ok (.iload_n 2, 1) := by decide +kernel
theorem D201_44 : decode prog_12_method_75_code 44 = .ok (.iload_n 1, 1) := by decide +kernel
theorem D201_45 : decode prog_12_method_75_code 45 = .ok (.if_icmp .ge 15, 3) := by decide +kernel
theorem D201_48 : decode prog_12_method_75_code 48 = .ok (.aload_n 0, 1) := by decide +kernel
theorem D201_49 : decode prog_12_method_75_code 49 = .ok (.iconst 0, 1) := by decide +kernel
theorem D201_50 : decode prog_12_method_75_code 50 = .ok (.iconst 1, 1) := by decide +kernel
theorem D201_51 : decode prog_12_method_75_code 51 = .ok (.invokevirtual 407, 3) := by decide +kernel
theorem D201_54 : decode prog_12_method_75_code 54 = .ok (.iinc 2 1, 3) := by decide +kernel
theorem D201_57 : decode prog_12_method_75_code 57 = .ok (.goto (-14), 3) := by decide +kernel
theorem D201_60 : decode prog_12_method_75_code 60 = .ok (.aload_n 0, 1) := by decide +kernel
theorem D201_61 : decode prog_12_method_75_code 61 = .ok (.getfield 72, 3) := by decide +kernel
theorem D201_64 : decode prog_12_method_75_code 64 = .ok (.iconst 0, 1) := by decide +kernel
theorem D201_65 : decode prog_12_method_75_code 65 = .ok (.iaload, 1) := by decide +kernel
theorem D201_66 : decode prog_12_method_75_code 66 = .ok (.ireturn, 1) := by decide +kernel

theorem b201_0 {d : Nat} {i1 : Int32} {ia : Nat → Nat → Int32} {la : Nat → Nat → Int64} {pl dr : Nat} {cp : Option Nat} {cw : Option Nat} {rp : Option Nat} {K : Option Value → zHP → Prop}  : zWP d 201 0 [some (.ref 127), some (.int i1), none] [] (ia, la, zRA pl dr cp cw rp) K = (if i1 < 0 then K (some (.int (-1 : Int32))) ((zu ia 127 0 (0 : Int32)), la, zRA pl dr cp cw rp) else (if (200 : Int32) < i1 then K (some (.int (-1 : Int32))) ((zu ia 127 0 (0 : Int32)), la, zRA pl dr cp cw rp) else (if (((zu ia 127 0 (0 : Int32)) 147 0) + i1) ≤ (9800 : Int32) then (if i1 ≤ 0 then zWP d 201 43 [some (.ref 127), some (.int i1), some (.int (0 : Int32))] [] ((zu ia 127 0 (0 : Int32)), la, zRA pl dr cp cw rp) K else zWP d 201 43 [some (.ref 127), some (.int i1), some (.int (0 : Int32))] [] ((zu (zu ia 127 0 (0 : Int32)) 127 48 (0 : Int32)), la, zRA pl dr cp cw rp) K) else K (some (.int (-1 : Int32))) ((zu ia 127 0 (0 : Int32)), la, zRA pl dr cp cw rp)))) := by
  refine (Q_aload_n zm_201 (Or.inl (by decide)) D201_0 rfl).trans ?_
  refine (Q_iconst (v := 0) zm_201 (Or.inl (by decide)) D201_1 (by decide)).trans ?_
  refine (Q_putI zm_201 (Or.inl (by decide)) D201_2 zf_10_151 zs_10_0 rfl zk_127.1).trans ?_
  refine (Q_iload_n zm_201 (Or.inl (by decide)) D201_5 rfl).trans ?_
  refine (Q_if_lt (tgt := 30) zm_201 (Or.inl (by decide)) D201_6 (by decide)).trans ?_
  refine zif_c (fun h0_ => ?_) (fun h0_ => ?_)
  · refine (Q_iconst (v := -1) zm_201 (Or.inl (by decide)) D201_30 (by decide)).trans ?_
    exact Q_ireturn zm_201 (Or.inl (by decide)) D201_31 rfl
  · refine (Q_iload_n zm_201 (Or.inl (by decide)) D201_9 rfl).trans ?_
    refine (Q_sipush (v := 200) zm_201 (Or.inl (by decide)) D201_10 (by decide)).trans ?_
    refine (Q_ic_gt (tgt := 30) zm_201 (Or.inl (by decide)) D201_13 (by decide)).trans ?_
    refine zif_c (fun h1_ => ?_) (fun h1_ => ?_)
    · refine (Q_iconst (v := -1) zm_201 (Or.inl (by decide)) D201_30 (by decide)).trans ?_
      exact Q_ireturn zm_201 (Or.inl (by decide)) D201_31 rfl
    · refine (Q_aload_n zm_201 (Or.inl (by decide)) D201_16 rfl).trans ?_
      refine (Q_getR (q := 147) zm_201 (Or.inl (by decide)) D201_17 zf_10_72 zs_10_35 zk_127.1 rfl).trans ?_
      refine (Q_iconst (v := 0) zm_201 (Or.inl (by decide)) D201_20 (by decide)).trans ?_
      refine ((Q_iaload zm_201 (Or.inl (by decide)) D201_21 zk_147.1 zk_147.2).trans (zdrop (zin_spec (by decide)))).trans ?_
      refine (Q_iload_n zm_201 (Or.inl (by decide)) D201_22 rfl).trans ?_
      refine (Q_iadd zm_201 (Or.inl (by decide)) D201_23).trans ?_
      refine (Q_sipush (v := 9800) zm_201 (Or.inl (by decide)) D201_24 (by decide)).trans ?_
      refine (Q_ic_le (tgt := 32) zm_201 (Or.inl (by decide)) D201_27 (by decide)).trans ?_
      refine zif_c (fun h2_ => ?_) (fun h2_ => ?_)
      · refine (Q_iload_n zm_201 (Or.inl (by decide)) D201_32 rfl).trans ?_
        refine (Q_if_le (tgt := 41) zm_201 (Or.inl (by decide)) D201_33 (by decide)).trans ?_
        refine zif_c (fun h3_ => ?_) (fun h3_ => ?_)
        · refine (Q_iconst (v := 0) zm_201 (Or.inl (by decide)) D201_41 (by decide)).trans ?_
          refine (Q_istore_n (ls' := [some (.ref 127), some (.int i1), some (.int (0 : Int32))]) zm_201 (Or.inl (by decide)) D201_42 rfl (Nat.le_of_ble_eq_true rfl) rfl).trans ?_
          rfl
        · refine (Q_aload_n zm_201 (Or.inl (by decide)) D201_36 rfl).trans ?_
          refine (Q_iconst (v := 0) zm_201 (Or.inl (by decide)) D201_37 (by decide)).trans ?_
          refine (Q_putI zm_201 (Or.inl (by decide)) D201_38 zf_10_314 zs_10_48 rfl zk_127.1).trans ?_
          refine (Q_iconst (v := 0) zm_201 (Or.inl (by decide)) D201_41 (by decide)).trans ?_
          refine (Q_istore_n (ls' := [some (.ref 127), some (.int i1), some (.int (0 : Int32))]) zm_201 (Or.inl (by decide)) D201_42 rfl (Nat.le_of_ble_eq_true rfl) rfl).trans ?_
          rfl
      · refine (Q_iconst (v := -1) zm_201 (Or.inl (by decide)) D201_30 (by decide)).trans ?_
        exact Q_ireturn zm_201 (Or.inl (by decide)) D201_31 rfl

theorem b201_43 {d : Nat} {i1 : Int32} {i2 : Int32} {ia : Nat → Nat → Int32} {la : Nat → Nat → Int64} {pl dr : Nat} {cp : Option Nat} {cw : Option Nat} {rp : Option Nat} {K : Option Value → zHP → Prop}  : zWP (d + 1) 201 43 [some (.ref 127), some (.int i1), some (.int i2)] [] (ia, la, zRA pl dr cp cw rp) K = (if i1 ≤ i2 then K (some (.int (ia 147 0))) (ia, la, zRA pl dr cp cw rp) else zWM d 185 [.ref 127, .int (0 : Int32), .int (1 : Int32)] (ia, la, zRA pl dr cp cw rp) (zK (d + 1) 201 54 [some (.ref 127), some (.int i1), some (.int i2)] [] K)) := by
  refine (Q_iload_n zm_201 (Or.inl (by decide)) D201_43 rfl).trans ?_
  refine (Q_iload_n zm_201 (Or.inl (by decide)) D201_44 rfl).trans ?_
  refine (Q_ic_ge (tgt := 60) zm_201 (Or.inl (by decide)) D201_45 (by decide)).trans ?_
  refine zif_c (fun h0_ => ?_) (fun h0_ => ?_)
  · refine (Q_aload_n zm_201 (Or.inl (by decide)) D201_60 rfl).trans ?_
    refine (Q_getR (q := 147) zm_201 (Or.inl (by decide)) D201_61 zf_10_72 zs_10_35 zk_127.1 rfl).trans ?_
    refine (Q_iconst (v := 0) zm_201 (Or.inl (by decide)) D201_64 (by decide)).trans ?_
    refine ((Q_iaload zm_201 (Or.inl (by decide)) D201_65 zk_147.1 zk_147.2).trans (zdrop (zin_spec (by decide)))).trans ?_
    exact Q_ireturn zm_201 (Or.inl (by decide)) D201_66 rfl
  · refine (Q_aload_n zm_201 (Or.inl (by decide)) D201_48 rfl).trans ?_
    refine (Q_iconst (v := 0) zm_201 (Or.inl (by decide)) D201_49 (by decide)).trans ?_
    refine (Q_iconst (v := 1) zm_201 (Or.inl (by decide)) D201_50 (by decide)).trans ?_
    exact Q_callv (as := [.int (0 : Int32), .int (1 : Int32)]) (b := 127) (rest := []) zm_201 (Or.inl (by decide)) D201_51 zc_10_407 rfl zk_127.1 (by decide) (by decide +kernel) (by decide) (by simp [zcat, Value.category]) zm_185 rfl

theorem b201_54 {d : Nat} {i1 : Int32} {i2 : Int32} {ia : Nat → Nat → Int32} {la : Nat → Nat → Int64} {pl dr : Nat} {cp : Option Nat} {cw : Option Nat} {rp : Option Nat} {K : Option Value → zHP → Prop}  : zWP d 201 54 [some (.ref 127), some (.int i1), some (.int i2)] [] (ia, la, zRA pl dr cp cw rp) K = zWP d 201 43 [some (.ref 127), some (.int i1), some (.int (i2 + (1 : Int32)))] [] (ia, la, zRA pl dr cp cw rp) K := by
  refine (Q_iinc (v := 1) (ls' := [some (.ref 127), some (.int i1), some (.int (i2 + (1 : Int32)))]) zm_201 (Or.inl (by decide)) D201_54 rfl rfl (by decide) rfl).trans ?_
  refine (Q_goto (tgt := 43) zm_201 (Or.inl (by decide)) D201_57 (by decide)).trans ?_
  rfl

/-! HandsLetModel.ahead(III)I -/
theorem D202_0 : decode prog_12_method_76_code 0 = .ok (.aload_n 0, 1) := by decide +kernel
theorem D202_1 : decode prog_12_method_76_code 1 = .ok (.iconst 0, 1) := by decide +kernel
theorem D202_2 : decode prog_12_method_76_code 2 = .ok (.putfield 151, 3) := by decide +kernel
theorem D202_5 : decode prog_12_method_76_code 5 = .ok (.iload_n 1, 1) := by decide +kernel
theorem D202_6 : decode prog_12_method_76_code 6 = .ok (.ifCond .lt 36, 3) := by decide +kernel
theorem D202_9 : decode prog_12_method_76_code 9 = .ok (.iload_n 1, 1) := by decide +kernel
theorem D202_10 : decode prog_12_method_76_code 10 = .ok (.sipush 200, 3) := by decide +kernel
theorem D202_13 : decode prog_12_method_76_code 13 = .ok (.if_icmp .gt 29, 3) := by decide +kernel
theorem D202_16 : decode prog_12_method_76_code 16 = .ok (.iload_n 2, 1) := by decide +kernel
theorem D202_17 : decode prog_12_method_76_code 17 = .ok (.ifCond .lt 25, 3) := by decide +kernel
theorem D202_20 : decode prog_12_method_76_code 20 = .ok (.iload_n 2, 1) := by decide +kernel
theorem D202_21 : decode prog_12_method_76_code 21 = .ok (.iconst 4, 1) := by decide +kernel
theorem D202_22 : decode prog_12_method_76_code 22 = .ok (.if_icmp .gt 20, 3) := by decide +kernel
theorem D202_25 : decode prog_12_method_76_code 25 = .ok (.iload_n 2, 1) := by decide +kernel
theorem D202_26 : decode prog_12_method_76_code 26 = .ok (.ifCond .eq 8, 3) := by decide +kernel
theorem D202_29 : decode prog_12_method_76_code 29 = .ok (.iload_n 2, 1) := by decide +kernel
theorem D202_30 : decode prog_12_method_76_code 30 = .ok (.iconst 3, 1) := by decide +kernel
theorem D202_31 : decode prog_12_method_76_code 31 = .ok (.if_icmp .ne 13, 3) := by decide +kernel
theorem D202_34 : decode prog_12_method_76_code 34 = .ok (.aload_n 0, 1) := by decide +kernel
theorem D202_35 : decode prog_12_method_76_code 35 = .ok (.iload_n 3, 1) := by decide +kernel
theorem D202_36 : decode prog_12_method_76_code 36 = .ok (.invokevirtual 413, 3) := by decide +kernel
theorem D202_39 : decode prog_12_method_76_code 39 = .ok (.ifCond .ne 5, 3) := by decide +kernel
theorem D202_42 : decode prog_12_method_76_code 42 = .ok (.iconst (-1), 1) := by decide +kernel
theorem D202_43 : decode prog_12_method_76_code 43 = .ok (.ireturn, 1) := by decide +kernel
theorem D202_44 : decode prog_12_method_76_code 44 = .ok (.aload_n 0, 1) := by decide +kernel
theorem D202_45 : decode prog_12_method_76_code 45 = .ok (.iconst 1, 1) := by decide +kernel
theorem D202_46 : decode prog_12_method_76_code 46 = .ok (.iconst 0, 1) := by decide +kernel
theorem D202_47 : decode prog_12_method_76_code 47 = .ok (.invokevirtual 429, 3) := by decide +kernel
theorem D202_50 : decode prog_12_method_76_code 50 = .ok (.aload_n 0, 1) := by decide +kernel
theorem D202_51 : decode prog_12_method_76_code 51 = .ok (.iload_n 1, 1) := by decide +kernel
theorem D202_52 : decode prog_12_method_76_code 52 = .ok (.invokevirtual 441, 3) := by decide +kernel
theorem D202_55 : decode prog_12_method_76_code 55 = .ok (.iload_n 2, 1) := by decide +kernel
theorem D202_56 : decode prog_12_method_76_code 56 = .ok (.tableswitch 88 0 3 #[32, 42, 56, 76], 32) := by decide +kernel
theorem D202_88 : decode prog_12_method_76_code 88 = .ok (.aload_n 0, 1) := by decide +kernel
theorem D202_89 : decode prog_12_method_76_code 89 = .ok (.getfield 99, 3) := by decide +kernel
theorem D202_92 : decode prog_12_method_76_code 92 = .ok (.bipush 6, 2) := by decide +kernel
theorem D202_94 : decode prog_12_method_76_code 94 = .ok (.iload_n 3, 1) := by decide +kernel
theorem D202_95 : decode prog_12_method_76_code 95 = .ok (.iadd, 1) := by decide +kernel
theorem D202_96 : decode prog_12_method_76_code 96 = .ok (.iaload, 1) := by decide +kernel
theorem D202_97 : decode prog_12_method_76_code 97 = .ok (.ireturn, 1) := by decide +kernel
theorem D202_98 : decode prog_12_method_76_code 98 = .ok (.aload_n 0, 1) := by decide +kernel
theorem D202_99 : decode prog_12_method_76_code 99 = .ok (.iconst 1, 1) := by decide +kernel
theorem D202_100 : decode prog_12_method_76_code 100 = .ok (.iconst (-1), 1) := by decide +kernel
theorem D202_101 : decode prog_12_method_76_code 101 = .ok (.invokevirtual 422, 3) := by decide +kernel
theorem D202_104 : decode prog_12_method_76_code 104 = .ok (.aload_n 0, 1) := by decide +kernel
theorem D202_105 : decode prog_12_method_76_code 105 = .ok (.iconst 0, 1) := by decide +kernel
theorem D202_106 : decode prog_12_method_76_code 106 = .ok (.iconst (-1), 1) := by decide +kernel
theorem D202_107 : decode prog_12_method_76_code 107 = .ok (.invokevirtual 422, 3) := by decide +kernel
theorem D202_110 : decode prog_12_method_76_code 110 = .ok (.isub, 1) := by decide +kernel
theorem D202_111 : decode prog_12_method_76_code 111 = .ok (.ireturn, 1) := by decide +kernel
theorem D202_112 : decode prog_12_method_76_code 112 = .ok (.aload_n 0, 1) := by decide +kernel
theorem D202_113 : decode prog_12_method_76_code 113 = .ok (.getfield 81, 3) := by decide +kernel
theorem D202_116 : decode prog_12_method_76_code 116 = .ok (.iconst 1, 1) := by decide +kernel
theorem D202_117 : decode prog_12_method_76_code 117 = .ok (.iaload, 1) := by decide +kernel
theorem D202_118 : decode prog_12_method_76_code 118 = .ok (.invokestatic 444, 3) := by decide +kernel
theorem D202_121 : decode prog_12_method_76_code 121 = .ok (.aload_n 0, 1) := by decide +kernel
theorem D202_122 : decode prog_12_method_76_code 122 = .ok (.getfield 81, 3) := by decide +kernel
theorem D202_125 : decode prog_12_method_76_code 125 = .ok (.iconst 0, 1) := by decide +kernel
theorem D202_126 : decode prog_12_method_76_code 126 = .ok (.iaload, 1) := by decide +kernel
theorem D202_127 : decode prog_12_method_76_code 127 = .ok (.invokestatic 444, 3) := by decide +kernel
theorem D202_130 : decode prog_12_method_76_code 130 = .ok (.isub, 1) := by decide +kernel
theorem D202_131 : decode prog_12_method_76_code 131 = .ok (.ireturn, 1) := by decide +kernel
theorem D202_132 : decode prog_12_method_76_code 132 = .ok (.aload_n 0, 1) := by decide +kernel
theorem D202_133 : decode prog_12_method_76_code 133 = .ok (.getfield 87, 3) := by decide +kernel
theorem D202_136 : decode prog_12_method_76_code 136 = .ok (.iconst 3, 1) := by decide +kernel
theorem D202_137 : decode prog_12_method_76_code 137 = .ok (.bipush 6, 2) := by decide +kernel
theorem D202_139 : decode prog_12_method_76_code 139 = .ok (.iload_n 3, 1) := by decide +kernel
theorem D202_140 : decode prog_12_method_76_code 140 = .ok (.iadd, 1) := by decide +kernel
theorem D202_141 : decode prog_12_method_76_code 141 = .ok (.imul, 1) := by decide +kernel
theorem D202_142 : decode prog_12_method_76_code 142 = .ok (.iaload, 1) := by decide +kernel
theorem D202_143 : decode prog_12_method_76_code 143 = .ok (.ireturn, 1) := by decide +kernel
theorem D202_144 : decode prog_12_method_76_code 144 = .ok (.aload_n 0, 1) := by decide +kernel
theorem D202_145 : decode prog_12_method_76_code 145 = .ok (.getfield 84, 3) := by decide +kernel
theorem D202_148 : decode prog_12_method_76_code 148 = .ok (.iconst 1, 1) := by decide +kernel
theorem D202_149 : decode prog_12_method_76_code 149 = .ok (.iaload, 1) := by decide +kernel
theorem D202_150 : decode prog_12_method_76_code 150 = .ok (.invokestatic 444, 3) := by decide +kernel
theorem D202_153 : decode prog_12_method_76_code 153 = .ok (.aload_n 0, 1) := by decide +kernel
theorem D202_154 : decode prog_12_method_76_code 154 = .ok (.getfield 84, 3) := by decide +kernel
theorem D202_157 : decode prog_12_method_76_code 157 = .ok (.iconst 0, 1) := by decide +kernel
theorem D202_158 : decode prog_12_method_76_code 158 = .ok (.iaload, 1) := by decide +kernel
theorem D202_159 : decode prog_12_method_76_code 159 = .ok (.invokestatic 444, 3) := by decide +kernel
theorem D202_162 : decode prog_12_method_76_code 162 = .ok (.isub, 1) := by decide +kernel
theorem D202_163 : decode prog_12_method_76_code 163 = .ok (.ireturn, 1) := by decide +kernel

theorem b202_0 {d : Nat} {i1 : Int32} {i2 : Int32} {i3 : Int32} {ia : Nat → Nat → Int32} {la : Nat → Nat → Int64} {pl dr : Nat} {cp : Option Nat} {cw : Option Nat} {rp : Option Nat} {K : Option Value → zHP → Prop}  : zWP (d + 1) 202 0 [some (.ref 127), some (.int i1), some (.int i2), some (.int i3)] [] (ia, la, zRA pl dr cp cw rp) K = (if i1 < 0 then K (some (.int (-1 : Int32))) ((zu ia 127 0 (0 : Int32)), la, zRA pl dr cp cw rp) else (if (200 : Int32) < i1 then K (some (.int (-1 : Int32))) ((zu ia 127 0 (0 : Int32)), la, zRA pl dr cp cw rp) else (if i2 < 0 then K (some (.int (-1 : Int32))) ((zu ia 127 0 (0 : Int32)), la, zRA pl dr cp cw rp) else (if (4 : Int32) < i2 then K (some (.int (-1 : Int32))) ((zu ia 127 0 (0 : Int32)), la, zRA pl dr cp cw rp) else (if i2 = 0 then zWM d 171 [.ref 127, .int i3] ((zu ia 127 0 (0 : Int32)), la, zRA pl dr cp cw rp) (zK (d + 1) 202 39 [some (.ref 127), some (.int i1), some (.int i2), some (.int i3)] [] K) else (if ¬ i2 = (3 : Int32) then zWM d 170 [.ref 127, .int (1 : Int32), .int (0 : Int32)] ((zu ia 127 0 (0 : Int32)), la, zRA pl dr cp cw rp) (zK (d + 1) 202 50 [some (.ref 127), some (.int i1), some (.int i2), some (.int i3)] [] K) else zWM d 171 [.ref 127, .int i3] ((zu ia 127 0 (0 : Int32)), la, zRA pl dr cp cw rp) (zK (d + 1) 202 39 [some (.ref 127), some (.int i1), some (.int i2), some (.int i3)] [] K))))))) := by
  refine (Q_aload_n zm_202 (Or.inl (by decide)) D202_0 rfl).trans ?_
  refine (Q_iconst (v := 0) zm_202 (Or.inl (by decide)) D202_1 (by decide)).trans ?_
  refine (Q_putI zm_202 (Or.inl (by decide)) D202_2 zf_10_151 zs_10_0 rfl zk_127.1).trans ?_
  refine (Q_iload_n zm_202 (Or.inl (by decide)) D202_5 rfl).trans ?_
  refine (Q_if_lt (tgt := 42) zm_202 (Or.inl (by decide)) D202_6 (by decide)).trans ?_
  refine zif_c (fun h0_ => ?_) (fun h0_ => ?_)
  · refine (Q_iconst (v := -1) zm_202 (Or.inl (by decide)) D202_42 (by decide)).trans ?_
    exact Q_ireturn zm_202 (Or.inl (by decide)) D202_43 rfl
  · refine (Q_iload_n zm_202 (Or.inl (by decide)) D202_9 rfl).trans ?_
    refine (Q_sipush (v := 200) zm_202 (Or.inl (by decide)) D202_10 (by decide)).trans ?_
    refine (Q_ic_gt (tgt := 42) zm_202 (Or.inl (by decide)) D202_13 (by decide)).trans ?_
    refine zif_c (fun h1_ => ?_) (fun h1_ => ?_)
    · refine (Q_iconst (v := -1) zm_202 (Or.inl (by decide)) D202_42 (by decide)).trans ?_
      exact Q_ireturn zm_202 (Or.inl (by decide)) D202_43 rfl
    · refine (Q_iload_n zm_202 (Or.inl (by decide)) D202_16 rfl).trans ?_
      refine (Q_if_lt (tgt := 42) zm_202 (Or.inl (by decide)) D202_17 (by decide)).trans ?_
      refine zif_c (fun h2_ => ?_) (fun h2_ => ?_)
      · refine (Q_iconst (v := -1) zm_202 (Or.inl (by decide)) D202_42 (by decide)).trans ?_
        exact Q_ireturn zm_202 (Or.inl (by decide)) D202_43 rfl
      · refine (Q_iload_n zm_202 (Or.inl (by decide)) D202_20 rfl).trans ?_
        refine (Q_iconst (v := 4) zm_202 (Or.inl (by decide)) D202_21 (by decide)).trans ?_
        refine (Q_ic_gt (tgt := 42) zm_202 (Or.inl (by decide)) D202_22 (by decide)).trans ?_
        refine zif_c (fun h3_ => ?_) (fun h3_ => ?_)
        · refine (Q_iconst (v := -1) zm_202 (Or.inl (by decide)) D202_42 (by decide)).trans ?_
          exact Q_ireturn zm_202 (Or.inl (by decide)) D202_43 rfl
        · refine (Q_iload_n zm_202 (Or.inl (by decide)) D202_25 rfl).trans ?_
          refine (Q_if_eq (tgt := 34) zm_202 (Or.inl (by decide)) D202_26 (by decide)).trans ?_
          refine zif_c (fun h4_ => ?_) (fun h4_ => ?_)
          · refine (Q_aload_n zm_202 (Or.inl (by decide)) D202_34 rfl).trans ?_
            refine (Q_iload_n zm_202 (Or.inl (by decide)) D202_35 rfl).trans ?_
            exact Q_callv (as := [.int i3]) (b := 127) (rest := []) zm_202 (Or.inl (by decide)) D202_36 zc_10_413 rfl zk_127.1 (by decide) (by decide +kernel) (by decide) (by simp [zcat, Value.category]) zm_171 rfl
          · refine (Q_iload_n zm_202 (Or.inl (by decide)) D202_29 rfl).trans ?_
            refine (Q_iconst (v := 3) zm_202 (Or.inl (by decide)) D202_30 (by decide)).trans ?_
            refine (Q_ic_ne (tgt := 44) zm_202 (Or.inl (by decide)) D202_31 (by decide)).trans ?_
            refine zif_c (fun h5_ => ?_) (fun h5_ => ?_)
            · refine (Q_aload_n zm_202 (Or.inl (by decide)) D202_44 rfl).trans ?_
              refine (Q_iconst (v := 1) zm_202 (Or.inl (by decide)) D202_45 (by decide)).trans ?_
              refine (Q_iconst (v := 0) zm_202 (Or.inl (by decide)) D202_46 (by decide)).trans ?_
              exact Q_callv (as := [.int (1 : Int32), .int (0 : Int32)]) (b := 127) (rest := []) zm_202 (Or.inl (by decide)) D202_47 zc_10_429 rfl zk_127.1 (by decide) (by decide +kernel) (by decide) (by simp [zcat, Value.category]) zm_170 rfl
            · refine (Q_aload_n zm_202 (Or.inl (by decide)) D202_34 rfl).trans ?_
              refine (Q_iload_n zm_202 (Or.inl (by decide)) D202_35 rfl).trans ?_
              exact Q_callv (as := [.int i3]) (b := 127) (rest := []) zm_202 (Or.inl (by decide)) D202_36 zc_10_413 rfl zk_127.1 (by decide) (by decide +kernel) (by decide) (by simp [zcat, Value.category]) zm_171 rfl

theorem b202_39 {d : Nat} {i1 : Int32} {i2 : Int32} {i3 : Int32} {s0 : Int32} {ia : Nat → Nat → Int32} {la : Nat → Nat → Int64} {pl dr : Nat} {cp : Option Nat} {cw : Option Nat} {rp : Option Nat} {K : Option Value → zHP → Prop}  : zWP (d + 1) 202 39 [some (.ref 127), some (.int i1), some (.int i2), some (.int i3)] [.int s0] (ia, la, zRA pl dr cp cw rp) K = (if ¬ s0 = 0 then zWM d 170 [.ref 127, .int (1 : Int32), .int (0 : Int32)] (ia, la, zRA pl dr cp cw rp) (zK (d + 1) 202 50 [some (.ref 127), some (.int i1), some (.int i2), some (.int i3)] [] K) else K (some (.int (-1 : Int32))) (ia, la, zRA pl dr cp cw rp)) := by
  refine (Q_if_ne (tgt := 44) zm_202 (Or.inl (by decide)) D202_39 (by decide)).trans ?_
  refine zif_c (fun h0_ => ?_) (fun h0_ => ?_)
  · refine (Q_aload_n zm_202 (Or.inl (by decide)) D202_44 rfl).trans ?_
    refine (Q_iconst (v := 1) zm_202 (Or.inl (by decide)) D202_45 (by decide)).trans ?_
    refine (Q_iconst (v := 0) zm_202 (Or.inl (by decide)) D202_46 (by decide)).trans ?_
    exact Q_callv (as := [.int (1 : Int32), .int (0 : Int32)]) (b := 127) (rest := []) zm_202 (Or.inl (by decide)) D202_47 zc_10_429 rfl zk_127.1 (by decide) (by decide +kernel) (by decide) (by simp [zcat, Value.category]) zm_170 rfl
  · refine (Q_iconst (v := -1) zm_202 (Or.inl (by decide)) D202_42 (by decide)).trans ?_
    exact Q_ireturn zm_202 (Or.inl (by decide)) D202_43 rfl

theorem b202_50 {d : Nat} {i1 : Int32} {i2 : Int32} {i3 : Int32} {ia : Nat → Nat → Int32} {la : Nat → Nat → Int64} {pl dr : Nat} {cp : Option Nat} {cw : Option Nat} {rp : Option Nat} {K : Option Value → zHP → Prop}  : zWP (d + 1) 202 50 [some (.ref 127), some (.int i1), some (.int i2), some (.int i3)] [] (ia, la, zRA pl dr cp cw rp) K = zWM d 186 [.ref 127, .int i1] (ia, la, zRA pl dr cp cw rp) (zK (d + 1) 202 55 [some (.ref 127), some (.int i1), some (.int i2), some (.int i3)] [] K) := by
  refine (Q_aload_n zm_202 (Or.inl (by decide)) D202_50 rfl).trans ?_
  refine (Q_iload_n zm_202 (Or.inl (by decide)) D202_51 rfl).trans ?_
  exact Q_callv (as := [.int i1]) (b := 127) (rest := []) zm_202 (Or.inl (by decide)) D202_52 zc_10_441 rfl zk_127.1 (by decide) (by decide +kernel) (by decide) (by simp [zcat, Value.category]) zm_186 rfl

theorem b202_55 {d : Nat} {i1 : Int32} {i2 : Int32} {i3 : Int32} {ia : Nat → Nat → Int32} {la : Nat → Nat → Int64} {pl dr : Nat} {cp : Option Nat} {cw : Option Nat} {rp : Option Nat} {K : Option Value → zHP → Prop}  : zWP (d + 1) 202 55 [some (.ref 127), some (.int i1), some (.int i2), some (.int i3)] [] (ia, la, zRA pl dr cp cw rp) K = (if i2 = 0 then (vp_in ((6 : Int32) + i3) 138 ∧ K (some (.int (ia 156 (((6 : Int32) + i3)).toNatClampNeg))) (ia, la, zRA pl dr cp cw rp)) else (if i2 = 1 then zWM d 187 [.ref 127, .int (1 : Int32), .int (-1 : Int32)] (ia, la, zRA pl dr cp cw rp) (zK (d + 1) 202 104 [some (.ref 127), some (.int i1), some (.int i2), some (.int i3)] [] K) else (if i2 = 2 then zWM d 174 [.int (ia 150 1)] (ia, la, zRA pl dr cp cw rp) (zK (d + 1) 202 121 [some (.ref 127), some (.int i1), some (.int i2), some (.int i3)] [] K) else (if i2 = 3 then (vp_in ((3 : Int32) * ((6 : Int32) + i3)) 414 ∧ K (some (.int (ia 152 (((3 : Int32) * ((6 : Int32) + i3))).toNatClampNeg))) (ia, la, zRA pl dr cp cw rp)) else zWM d 174 [.int (ia 151 1)] (ia, la, zRA pl dr cp cw rp) (zK (d + 1) 202 153 [some (.ref 127), some (.int i1), some (.int i2), some (.int i3)] [] K))))) := by
  refine (Q_iload_n zm_202 (Or.inl (by decide)) D202_55 rfl).trans ?_
  by_cases h0_ : i2 = 0
  · rw [if_pos h0_]
    refine (congrArg (fun q => zWP (d + 1) 202 56 [some (.ref 127), some (.int i1), some (.int i2), some (.int i3)] (.int q :: []) (ia, la, zRA pl dr cp cw rp) K) h0_).trans ?_
    refine (Q_tsw (tgt := 88) zm_202 (Or.inl (by decide)) D202_56 rfl (by decide)).trans ?_
    refine (Q_aload_n zm_202 (Or.inl (by decide)) D202_88 rfl).trans ?_
    refine (Q_getR (q := 156) zm_202 (Or.inl (by decide)) D202_89 zf_10_99 zs_10_44 zk_127.1 rfl).trans ?_
    refine (Q_bipush (v := 6) zm_202 (Or.inl (by decide)) D202_92 (by decide)).trans ?_
    refine (Q_iload_n zm_202 (Or.inl (by decide)) D202_94 rfl).trans ?_
    refine (Q_iadd zm_202 (Or.inl (by decide)) D202_95).trans ?_
    refine (Q_iaload zm_202 (Or.inl (by decide)) D202_96 zk_156.1 zk_156.2).trans ?_
    refine zand_c (fun h1_ => ?_)
    exact Q_ireturn zm_202 (Or.inl (by decide)) D202_97 rfl
  rw [if_neg h0_]
  by_cases h2_ : i2 = 1
  · rw [if_pos h2_]
    refine (congrArg (fun q => zWP (d + 1) 202 56 [some (.ref 127), some (.int i1), some (.int i2), some (.int i3)] (.int q :: []) (ia, la, zRA pl dr cp cw rp) K) h2_).trans ?_
    refine (Q_tsw (tgt := 98) zm_202 (Or.inl (by decide)) D202_56 rfl (by decide)).trans ?_
    refine (Q_aload_n zm_202 (Or.inl (by decide)) D202_98 rfl).trans ?_
    refine (Q_iconst (v := 1) zm_202 (Or.inl (by decide)) D202_99 (by decide)).trans ?_
    refine (Q_iconst (v := -1) zm_202 (Or.inl (by decide)) D202_100 (by decide)).trans ?_
    exact Q_callv (as := [.int (1 : Int32), .int (-1 : Int32)]) (b := 127) (rest := []) zm_202 (Or.inl (by decide)) D202_101 zc_10_422 rfl zk_127.1 (by decide) (by decide +kernel) (by decide) (by simp [zcat, Value.category]) zm_187 rfl
  rw [if_neg h2_]
  by_cases h3_ : i2 = 2
  · rw [if_pos h3_]
    refine (congrArg (fun q => zWP (d + 1) 202 56 [some (.ref 127), some (.int i1), some (.int i2), some (.int i3)] (.int q :: []) (ia, la, zRA pl dr cp cw rp) K) h3_).trans ?_
    refine (Q_tsw (tgt := 112) zm_202 (Or.inl (by decide)) D202_56 rfl (by decide)).trans ?_
    refine (Q_aload_n zm_202 (Or.inl (by decide)) D202_112 rfl).trans ?_
    refine (Q_getR (q := 150) zm_202 (Or.inl (by decide)) D202_113 zf_10_81 zs_10_38 zk_127.1 rfl).trans ?_
    refine (Q_iconst (v := 1) zm_202 (Or.inl (by decide)) D202_116 (by decide)).trans ?_
    refine ((Q_iaload zm_202 (Or.inl (by decide)) D202_117 zk_150.1 zk_150.2).trans (zdrop (zin_spec (by decide)))).trans ?_
    exact Q_calls (as := [.int (ia 150 1)]) (rest := []) zm_202 (Or.inl (by decide)) D202_118 zc_10_444 rfl (by decide) (by simp [zcat, Value.category]) zm_174 rfl
  rw [if_neg h3_]
  by_cases h4_ : i2 = 3
  · rw [if_pos h4_]
    refine (congrArg (fun q => zWP (d + 1) 202 56 [some (.ref 127), some (.int i1), some (.int i2), some (.int i3)] (.int q :: []) (ia, la, zRA pl dr cp cw rp) K) h4_).trans ?_
    refine (Q_tsw (tgt := 132) zm_202 (Or.inl (by decide)) D202_56 rfl (by decide)).trans ?_
    refine (Q_aload_n zm_202 (Or.inl (by decide)) D202_132 rfl).trans ?_
    refine (Q_getR (q := 152) zm_202 (Or.inl (by decide)) D202_133 zf_10_87 zs_10_40 zk_127.1 rfl).trans ?_
    refine (Q_iconst (v := 3) zm_202 (Or.inl (by decide)) D202_136 (by decide)).trans ?_
    refine (Q_bipush (v := 6) zm_202 (Or.inl (by decide)) D202_137 (by decide)).trans ?_
    refine (Q_iload_n zm_202 (Or.inl (by decide)) D202_139 rfl).trans ?_
    refine (Q_iadd zm_202 (Or.inl (by decide)) D202_140).trans ?_
    refine (Q_imul zm_202 (Or.inl (by decide)) D202_141).trans ?_
    refine (Q_iaload zm_202 (Or.inl (by decide)) D202_142 zk_152.1 zk_152.2).trans ?_
    refine zand_c (fun h5_ => ?_)
    exact Q_ireturn zm_202 (Or.inl (by decide)) D202_143 rfl
  rw [if_neg h4_]
  refine (Q_tsw (tgt := 144) zm_202 (Or.inl (by decide)) D202_56 (zsw_out (n := 4) (by decide) (fun q hq => ?_)) (by decide)).trans ?_
  · rcases (show q = 0 ∨ q = 1 ∨ q = 2 ∨ q = 3 by omega) with rfl | rfl | rfl | rfl
    · exact h0_
    · exact h2_
    · exact h3_
    · exact h4_
  refine (Q_aload_n zm_202 (Or.inl (by decide)) D202_144 rfl).trans ?_
  refine (Q_getR (q := 151) zm_202 (Or.inl (by decide)) D202_145 zf_10_84 zs_10_39 zk_127.1 rfl).trans ?_
  refine (Q_iconst (v := 1) zm_202 (Or.inl (by decide)) D202_148 (by decide)).trans ?_
  refine ((Q_iaload zm_202 (Or.inl (by decide)) D202_149 zk_151.1 zk_151.2).trans (zdrop (zin_spec (by decide)))).trans ?_
  exact Q_calls (as := [.int (ia 151 1)]) (rest := []) zm_202 (Or.inl (by decide)) D202_150 zc_10_444 rfl (by decide) (by simp [zcat, Value.category]) zm_174 rfl

theorem b202_104 {d : Nat} {i1 : Int32} {i2 : Int32} {i3 : Int32} {s0 : Int32} {ia : Nat → Nat → Int32} {la : Nat → Nat → Int64} {pl dr : Nat} {cp : Option Nat} {cw : Option Nat} {rp : Option Nat} {K : Option Value → zHP → Prop}  : zWP (d + 1) 202 104 [some (.ref 127), some (.int i1), some (.int i2), some (.int i3)] [.int s0] (ia, la, zRA pl dr cp cw rp) K = zWM d 187 [.ref 127, .int (0 : Int32), .int (-1 : Int32)] (ia, la, zRA pl dr cp cw rp) (zK (d + 1) 202 110 [some (.ref 127), some (.int i1), some (.int i2), some (.int i3)] [.int s0] K) := by
  refine (Q_aload_n zm_202 (Or.inl (by decide)) D202_104 rfl).trans ?_
  refine (Q_iconst (v := 0) zm_202 (Or.inl (by decide)) D202_105 (by decide)).trans ?_
  refine (Q_iconst (v := -1) zm_202 (Or.inl (by decide)) D202_106 (by decide)).trans ?_
  exact Q_callv (as := [.int (0 : Int32), .int (-1 : Int32)]) (b := 127) (rest := [.int s0]) zm_202 (Or.inl (by decide)) D202_107 zc_10_422 rfl zk_127.1 (by decide) (by decide +kernel) (by decide) (by simp [zcat, Value.category]) zm_187 rfl

theorem b202_121 {d : Nat} {i1 : Int32} {i2 : Int32} {i3 : Int32} {s0 : Int32} {ia : Nat → Nat → Int32} {la : Nat → Nat → Int64} {pl dr : Nat} {cp : Option Nat} {cw : Option Nat} {rp : Option Nat} {K : Option Value → zHP → Prop}  : zWP (d + 1) 202 121 [some (.ref 127), some (.int i1), some (.int i2), some (.int i3)] [.int s0] (ia, la, zRA pl dr cp cw rp) K = zWM d 174 [.int (ia 150 0)] (ia, la, zRA pl dr cp cw rp) (zK (d + 1) 202 130 [some (.ref 127), some (.int i1), some (.int i2), some (.int i3)] [.int s0] K) := by
  refine (Q_aload_n zm_202 (Or.inl (by decide)) D202_121 rfl).trans ?_
  refine (Q_getR (q := 150) zm_202 (Or.inl (by decide)) D202_122 zf_10_81 zs_10_38 zk_127.1 rfl).trans ?_
  refine (Q_iconst (v := 0) zm_202 (Or.inl (by decide)) D202_125 (by decide)).trans ?_
  refine ((Q_iaload zm_202 (Or.inl (by decide)) D202_126 zk_150.1 zk_150.2).trans (zdrop (zin_spec (by decide)))).trans ?_
  exact Q_calls (as := [.int (ia 150 0)]) (rest := [.int s0]) zm_202 (Or.inl (by decide)) D202_127 zc_10_444 rfl (by decide) (by simp [zcat, Value.category]) zm_174 rfl

theorem b202_153 {d : Nat} {i1 : Int32} {i2 : Int32} {i3 : Int32} {s0 : Int32} {ia : Nat → Nat → Int32} {la : Nat → Nat → Int64} {pl dr : Nat} {cp : Option Nat} {cw : Option Nat} {rp : Option Nat} {K : Option Value → zHP → Prop}  : zWP (d + 1) 202 153 [some (.ref 127), some (.int i1), some (.int i2), some (.int i3)] [.int s0] (ia, la, zRA pl dr cp cw rp) K = zWM d 174 [.int (ia 151 0)] (ia, la, zRA pl dr cp cw rp) (zK (d + 1) 202 162 [some (.ref 127), some (.int i1), some (.int i2), some (.int i3)] [.int s0] K) := by
  refine (Q_aload_n zm_202 (Or.inl (by decide)) D202_153 rfl).trans ?_
  refine (Q_getR (q := 151) zm_202 (Or.inl (by decide)) D202_154 zf_10_84 zs_10_39 zk_127.1 rfl).trans ?_
  refine (Q_iconst (v := 0) zm_202 (Or.inl (by decide)) D202_157 (by decide)).trans ?_
  refine ((Q_iaload zm_202 (Or.inl (by decide)) D202_158 zk_151.1 zk_151.2).trans (zdrop (zin_spec (by decide)))).trans ?_
  exact Q_calls (as := [.int (ia 151 0)]) (rest := [.int s0]) zm_202 (Or.inl (by decide)) D202_159 zc_10_444 rfl (by decide) (by simp [zcat, Value.category]) zm_174 rfl

theorem b202_110 {d : Nat} {i1 : Int32} {i2 : Int32} {i3 : Int32} {s0 : Int32} {s1 : Int32} {ia : Nat → Nat → Int32} {la : Nat → Nat → Int64} {pl dr : Nat} {cp : Option Nat} {cw : Option Nat} {rp : Option Nat} {K : Option Value → zHP → Prop}  : zWP d 202 110 [some (.ref 127), some (.int i1), some (.int i2), some (.int i3)] [.int s1, .int s0] (ia, la, zRA pl dr cp cw rp) K = K (some (.int (s0 - s1))) (ia, la, zRA pl dr cp cw rp) := by
  refine (Q_isub zm_202 (Or.inl (by decide)) D202_110).trans ?_
  exact Q_ireturn zm_202 (Or.inl (by decide)) D202_111 rfl

theorem b202_130 {d : Nat} {i1 : Int32} {i2 : Int32} {i3 : Int32} {s0 : Int32} {s1 : Int32} {ia : Nat → Nat → Int32} {la : Nat → Nat → Int64} {pl dr : Nat} {cp : Option Nat} {cw : Option Nat} {rp : Option Nat} {K : Option Value → zHP → Prop}  : zWP d 202 130 [some (.ref 127), some (.int i1), some (.int i2), some (.int i3)] [.int s1, .int s0] (ia, la, zRA pl dr cp cw rp) K = K (some (.int (s0 - s1))) (ia, la, zRA pl dr cp cw rp) := by
  refine (Q_isub zm_202 (Or.inl (by decide)) D202_130).trans ?_
  exact Q_ireturn zm_202 (Or.inl (by decide)) D202_131 rfl

theorem b202_162 {d : Nat} {i1 : Int32} {i2 : Int32} {i3 : Int32} {s0 : Int32} {s1 : Int32} {ia : Nat → Nat → Int32} {la : Nat → Nat → Int64} {pl dr : Nat} {cp : Option Nat} {cw : Option Nat} {rp : Option Nat} {K : Option Value → zHP → Prop}  : zWP d 202 162 [some (.ref 127), some (.int i1), some (.int i2), some (.int i3)] [.int s1, .int s0] (ia, la, zRA pl dr cp cw rp) K = K (some (.int (s0 - s1))) (ia, la, zRA pl dr cp cw rp) := by
  refine (Q_isub zm_202 (Or.inl (by decide)) D202_162).trans ?_
  exact Q_ireturn zm_202 (Or.inl (by decide)) D202_163 rfl

/-! HandsLetModel.free(I)I -/
theorem D203_0 : decode prog_12_method_77_code 0 = .ok (.aload_n 0, 1) := by decide +kernel
theorem D203_1 : decode prog_12_method_77_code 1 = .ok (.iconst 0, 1) := by decide +kernel
theorem D203_2 : decode prog_12_method_77_code 2 = .ok (.putfield 151, 3) := by decide +kernel
theorem D203_5 : decode prog_12_method_77_code 5 = .ok (.aload_n 0, 1) := by decide +kernel
theorem D203_6 : decode prog_12_method_77_code 6 = .ok (.iload_n 1, 1) := by decide +kernel
theorem D203_7 : decode prog_12_method_77_code 7 = .ok (.invokevirtual 413, 3) := by decide +kernel
theorem D203_10 : decode prog_12_method_77_code 10 = .ok (.ifCond .ne 5, 3) := by decide +kernel
theorem D203_13 : decode prog_12_method_77_code 13 = .ok (.iconst (-1), 1) := by decide +kernel
theorem D203_14 : decode prog_12_method_77_code 14 = .ok (.ireturn, 1) := by decide +kernel
theorem D203_15 : decode prog_12_method_77_code 15 = .ok (.aload_n 0, 1) := by decide +kernel
theorem D203_16 : decode prog_12_method_77_code 16 = .ok (.iconst 1, 1) := by decide +kernel
theorem D203_17 : decode prog_12_method_77_code 17 = .ok (.iconst 0, 1) := by decide +kernel
theorem D203_18 : decode prog_12_method_77_code 18 = .ok (.invokevirtual 429, 3) := by decide +kernel
theorem D203_21 : decode prog_12_method_77_code 21 = .ok (.iconst 0, 1) := by decide +kernel
theorem D203_22 : decode prog_12_method_77_code 22 = .ok (.istore_n 2, 1) := by decide +kernel
theorem D203_23 : decode prog_12_method_77_code 23 = .ok (.iload_n 2, 1) := by decide +kernel
theorem D203_24 : decode prog_12_method_77_code 24 = .ok (.sipush 199, 3) := by decide +kernel
theorem D203_27 : decode prog_12_method_77_code 27 = .ok (.if_icmp .gt 26, 3) := by decide +kernel
theorem D203_30 : decode prog_12_method_77_code 30 = .ok (.aload_n 0, 1) := by decide +kernel
theorem D203_31 : decode prog_12_method_77_code 31 = .ok (.iconst 1, 1) := by decide +kernel
theorem D203_32 : decode prog_12_method_77_code 32 = .ok (.iload_n 1, 1) := by decide +kernel
theorem D203_33 : decode prog_12_method_77_code 33 = .ok (.invokevirtual 340, 3) := by decide +kernel
theorem D203_36 : decode prog_12_method_77_code 36 = .ok (.ifCond .ne 5, 3) := by decide +kernel
theorem D203_39 : decode prog_12_method_77_code 39 = .ok (.iload_n 2, 1) := by decide +kernel
theorem D203_40 : decode prog_12_method_77_code 40 = .ok (.ireturn, 1) := by decide +kernel
theorem D203_41 : decode prog_12_method_77_code 41 = .ok (.aload_n 0, 1) := by decide +kernel
theorem D203_42 : decode prog_12_method_77_code 42 = .ok (.iconst 1, 1) := by decide +kernel
theorem D203_43 : decode prog_12_method_77_code 43 = .ok (.iconst 0, 1) := by decide +kernel
theorem D203_44 : decode prog_12_method_77_code 44 = .ok (.invokevirtual 407, 3) := by decide +kernel
theorem D203_47 : decode prog_12_method_77_code 47 = .ok (.iinc 2 1, 3) := by decide +kernel
theorem D203_50 : decode prog_12_method_77_code 50 = .ok (.goto (-27), 3) := by decide +kernel
theorem D203_53 : decode prog_12_method_77_code 53 = .ok (.bipush (-2), 2) := by decide +kernel
theorem D203_55 : decode prog_12_method_77_code 55 = .ok (.ireturn, 1) := by decide +kernel

theorem b203_0 {d : Nat} {i1 : Int32} {ia : Nat → Nat → Int32} {la : Nat → Nat → Int64} {pl dr : Nat} {cp : Option Nat} {cw : Option Nat} {rp : Option Nat} {K : Option Value → zHP → Prop}  : zWP (d + 1) 203 0 [some (.ref 127), some (.int i1), none] [] (ia, la, zRA pl dr cp cw rp) K = zWM d 171 [.ref 127, .int i1] ((zu ia 127 0 (0 : Int32)), la, zRA pl dr cp cw rp) (zK (d + 1) 203 10 [some (.ref 127), some (.int i1), none] [] K) := by
  refine (Q_aload_n zm_203 (Or.inl (by decide)) D203_0 rfl).trans ?_
  refine (Q_iconst (v := 0) zm_203 (Or.inl (by decide)) D203_1 (by decide)).trans ?_
  refine (Q_putI zm_203 (Or.inl (by decide)) D203_2 zf_10_151 zs_10_0 rfl zk_127.1).trans ?_
  refine (Q_aload_n zm_203 (Or.inl (by decide)) D203_5 rfl).trans ?_
  refine (Q_iload_n zm_203 (Or.inl (by decide)) D203_6 rfl).trans ?_
  exact Q_callv (as := [.int i1]) (b := 127) (rest := []) zm_203 (Or.inl (by decide)) D203_7 zc_10_413 rfl zk_127.1 (by decide) (by decide +kernel) (by decide) (by simp [zcat, Value.category]) zm_171 rfl

theorem b203_10 {d : Nat} {i1 : Int32} {s0 : Int32} {ia : Nat → Nat → Int32} {la : Nat → Nat → Int64} {pl dr : Nat} {cp : Option Nat} {cw : Option Nat} {rp : Option Nat} {K : Option Value → zHP → Prop}  : zWP (d + 1) 203 10 [some (.ref 127), some (.int i1), none] [.int s0] (ia, la, zRA pl dr cp cw rp) K = (if ¬ s0 = 0 then zWM d 170 [.ref 127, .int (1 : Int32), .int (0 : Int32)] (ia, la, zRA pl dr cp cw rp) (zK (d + 1) 203 21 [some (.ref 127), some (.int i1), none] [] K) else K (some (.int (-1 : Int32))) (ia, la, zRA pl dr cp cw rp)) := by
  refine (Q_if_ne (tgt := 15) zm_203 (Or.inl (by decide)) D203_10 (by decide)).trans ?_
  refine zif_c (fun h0_ => ?_) (fun h0_ => ?_)
  · refine (Q_aload_n zm_203 (Or.inl (by decide)) D203_15 rfl).trans ?_
    refine (Q_iconst (v := 1) zm_203 (Or.inl (by decide)) D203_16 (by decide)).trans ?_
    refine (Q_iconst (v := 0) zm_203 (Or.inl (by decide)) D203_17 (by decide)).trans ?_
    exact Q_callv (as := [.int (1 : Int32), .int (0 : Int32)]) (b := 127) (rest := []) zm_203 (Or.inl (by decide)) D203_18 zc_10_429 rfl zk_127.1 (by decide) (by decide +kernel) (by decide) (by simp [zcat, Value.category]) zm_170 rfl
  · refine (Q_iconst (v := -1) zm_203 (Or.inl (by decide)) D203_13 (by decide)).trans ?_
    exact Q_ireturn zm_203 (Or.inl (by decide)) D203_14 rfl

theorem b203_21 {d : Nat} {i1 : Int32} {ia : Nat → Nat → Int32} {la : Nat → Nat → Int64} {pl dr : Nat} {cp : Option Nat} {cw : Option Nat} {rp : Option Nat} {K : Option Value → zHP → Prop}  : zWP d 203 21 [some (.ref 127), some (.int i1), none] [] (ia, la, zRA pl dr cp cw rp) K = zWP d 203 23 [some (.ref 127), some (.int i1), some (.int (0 : Int32))] [] (ia, la, zRA pl dr cp cw rp) K := by
  refine (Q_iconst (v := 0) zm_203 (Or.inl (by decide)) D203_21 (by decide)).trans ?_
  refine (Q_istore_n (ls' := [some (.ref 127), some (.int i1), some (.int (0 : Int32))]) zm_203 (Or.inl (by decide)) D203_22 rfl (Nat.le_of_ble_eq_true rfl) rfl).trans ?_
  rfl

theorem b203_23 {d : Nat} {i1 : Int32} {i2 : Int32} {ia : Nat → Nat → Int32} {la : Nat → Nat → Int64} {pl dr : Nat} {cp : Option Nat} {cw : Option Nat} {rp : Option Nat} {K : Option Value → zHP → Prop}  : zWP (d + 1) 203 23 [some (.ref 127), some (.int i1), some (.int i2)] [] (ia, la, zRA pl dr cp cw rp) K = (if (199 : Int32) < i2 then K (some (.int (-2 : Int32))) (ia, la, zRA pl dr cp cw rp) else zWM d 172 [.ref 127, .int (1 : Int32), .int i1] (ia, la, zRA pl dr cp cw rp) (zK (d + 1) 203 36 [some (.ref 127), some (.int i1), some (.int i2)] [] K)) := by
  refine (Q_iload_n zm_203 (Or.inl (by decide)) D203_23 rfl).trans ?_
  refine (Q_sipush (v := 199) zm_203 (Or.inl (by decide)) D203_24 (by decide)).trans ?_
  refine (Q_ic_gt (tgt := 53) zm_203 (Or.inl (by decide)) D203_27 (by decide)).trans ?_
  refine zif_c (fun h0_ => ?_) (fun h0_ => ?_)
  · refine (Q_bipush (v := -2) zm_203 (Or.inl (by decide)) D203_53 (by decide)).trans ?_
    exact Q_ireturn zm_203 (Or.inl (by decide)) D203_55 rfl
  · refine (Q_aload_n zm_203 (Or.inl (by decide)) D203_30 rfl).trans ?_
    refine (Q_iconst (v := 1) zm_203 (Or.inl (by decide)) D203_31 (by decide)).trans ?_
    refine (Q_iload_n zm_203 (Or.inl (by decide)) D203_32 rfl).trans ?_
    exact Q_callv (as := [.int (1 : Int32), .int i1]) (b := 127) (rest := []) zm_203 (Or.inl (by decide)) D203_33 zc_10_340 rfl zk_127.1 (by decide) (by decide +kernel) (by decide) (by simp [zcat, Value.category]) zm_172 rfl

theorem b203_36 {d : Nat} {i1 : Int32} {i2 : Int32} {s0 : Int32} {ia : Nat → Nat → Int32} {la : Nat → Nat → Int64} {pl dr : Nat} {cp : Option Nat} {cw : Option Nat} {rp : Option Nat} {K : Option Value → zHP → Prop}  : zWP (d + 1) 203 36 [some (.ref 127), some (.int i1), some (.int i2)] [.int s0] (ia, la, zRA pl dr cp cw rp) K = (if ¬ s0 = 0 then zWM d 185 [.ref 127, .int (1 : Int32), .int (0 : Int32)] (ia, la, zRA pl dr cp cw rp) (zK (d + 1) 203 47 [some (.ref 127), some (.int i1), some (.int i2)] [] K) else K (some (.int i2)) (ia, la, zRA pl dr cp cw rp)) := by
  refine (Q_if_ne (tgt := 41) zm_203 (Or.inl (by decide)) D203_36 (by decide)).trans ?_
  refine zif_c (fun h0_ => ?_) (fun h0_ => ?_)
  · refine (Q_aload_n zm_203 (Or.inl (by decide)) D203_41 rfl).trans ?_
    refine (Q_iconst (v := 1) zm_203 (Or.inl (by decide)) D203_42 (by decide)).trans ?_
    refine (Q_iconst (v := 0) zm_203 (Or.inl (by decide)) D203_43 (by decide)).trans ?_
    exact Q_callv (as := [.int (1 : Int32), .int (0 : Int32)]) (b := 127) (rest := []) zm_203 (Or.inl (by decide)) D203_44 zc_10_407 rfl zk_127.1 (by decide) (by decide +kernel) (by decide) (by simp [zcat, Value.category]) zm_185 rfl
  · refine (Q_iload_n zm_203 (Or.inl (by decide)) D203_39 rfl).trans ?_
    exact Q_ireturn zm_203 (Or.inl (by decide)) D203_40 rfl

theorem b203_47 {d : Nat} {i1 : Int32} {i2 : Int32} {ia : Nat → Nat → Int32} {la : Nat → Nat → Int64} {pl dr : Nat} {cp : Option Nat} {cw : Option Nat} {rp : Option Nat} {K : Option Value → zHP → Prop}  : zWP d 203 47 [some (.ref 127), some (.int i1), some (.int i2)] [] (ia, la, zRA pl dr cp cw rp) K = zWP d 203 23 [some (.ref 127), some (.int i1), some (.int (i2 + (1 : Int32)))] [] (ia, la, zRA pl dr cp cw rp) K := by
  refine (Q_iinc (v := 1) (ls' := [some (.ref 127), some (.int i1), some (.int (i2 + (1 : Int32)))]) zm_203 (Or.inl (by decide)) D203_47 rfl rfl (by decide) rfl).trans ?_
  refine (Q_goto (tgt := 23) zm_203 (Or.inl (by decide)) D203_50 (by decide)).trans ?_
  rfl

/-! HandsLetModel.apart(II)I -/
theorem D204_0 : decode prog_12_method_78_code 0 = .ok (.aload_n 0, 1) := by decide +kernel
theorem D204_1 : decode prog_12_method_78_code 1 = .ok (.iconst 0, 1) := by decide +kernel
theorem D204_2 : decode prog_12_method_78_code 2 = .ok (.putfield 151, 3) := by decide +kernel
theorem D204_5 : decode prog_12_method_78_code 5 = .ok (.aload_n 0, 1) := by decide +kernel
theorem D204_6 : decode prog_12_method_78_code 6 = .ok (.iload_n 1, 1) := by decide +kernel
theorem D204_7 : decode prog_12_method_78_code 7 = .ok (.invokevirtual 413, 3) := by decide +kernel
theorem D204_10 : decode prog_12_method_78_code 10 = .ok (.ifCond .eq 21, 3) := by decide +kernel
theorem D204_13 : decode prog_12_method_78_code 13 = .ok (.aload_n 0, 1) := by decide +kernel
theorem D204_14 : decode prog_12_method_78_code 14 = .ok (.iload_n 2, 1) := by decide +kernel
theorem D204_15 : decode prog_12_method_78_code 15 = .ok (.invokevirtual 413, 3) := by decide +kernel
theorem D204_18 : decode prog_12_method_78_code 18 = .ok (.ifCond .eq 13, 3) := by decide +kernel
theorem D204_21 : decode prog_12_method_78_code 21 = .ok (.aload_n 0, 1) := by decide +kernel
theorem D204_22 : decode prog_12_method_78_code 22 = .ok (.iconst 0, 1) := by decide +kernel
theorem D204_23 : decode prog_12_method_78_code 23 = .ok (.iload_n 1, 1) := by decide +kernel
theorem D204_24 : decode prog_12_method_78_code 24 = .ok (.iload_n 2, 1) := by decide +kernel
theorem D204_25 : decode prog_12_method_78_code 25 = .ok (.invokevirtual 438, 3) := by decide +kernel
theorem D204_28 : decode prog_12_method_78_code 28 = .ok (.goto 4, 3) := by decide +kernel
theorem D204_31 : decode prog_12_method_78_code 31 = .ok (.iconst (-1), 1) := by decide +kernel
theorem D204_32 : decode prog_12_method_78_code 32 = .ok (.ireturn, 1) := by decide +kernel

theorem b204_0 {d : Nat} {i1 : Int32} {i2 : Int32} {ia : Nat → Nat → Int32} {la : Nat → Nat → Int64} {pl dr : Nat} {cp : Option Nat} {cw : Option Nat} {rp : Option Nat} {K : Option Value → zHP → Prop}  : zWP (d + 1) 204 0 [some (.ref 127), some (.int i1), some (.int i2)] [] (ia, la, zRA pl dr cp cw rp) K = zWM d 171 [.ref 127, .int i1] ((zu ia 127 0 (0 : Int32)), la, zRA pl dr cp cw rp) (zK (d + 1) 204 10 [some (.ref 127), some (.int i1), some (.int i2)] [] K) := by
  refine (Q_aload_n zm_204 (Or.inl (by decide)) D204_0 rfl).trans ?_
  refine (Q_iconst (v := 0) zm_204 (Or.inl (by decide)) D204_1 (by decide)).trans ?_
  refine (Q_putI zm_204 (Or.inl (by decide)) D204_2 zf_10_151 zs_10_0 rfl zk_127.1).trans ?_
  refine (Q_aload_n zm_204 (Or.inl (by decide)) D204_5 rfl).trans ?_
  refine (Q_iload_n zm_204 (Or.inl (by decide)) D204_6 rfl).trans ?_
  exact Q_callv (as := [.int i1]) (b := 127) (rest := []) zm_204 (Or.inl (by decide)) D204_7 zc_10_413 rfl zk_127.1 (by decide) (by decide +kernel) (by decide) (by simp [zcat, Value.category]) zm_171 rfl

theorem b204_10 {d : Nat} {i1 : Int32} {i2 : Int32} {s0 : Int32} {ia : Nat → Nat → Int32} {la : Nat → Nat → Int64} {pl dr : Nat} {cp : Option Nat} {cw : Option Nat} {rp : Option Nat} {K : Option Value → zHP → Prop}  : zWP (d + 1) 204 10 [some (.ref 127), some (.int i1), some (.int i2)] [.int s0] (ia, la, zRA pl dr cp cw rp) K = (if s0 = 0 then K (some (.int (-1 : Int32))) (ia, la, zRA pl dr cp cw rp) else zWM d 171 [.ref 127, .int i2] (ia, la, zRA pl dr cp cw rp) (zK (d + 1) 204 18 [some (.ref 127), some (.int i1), some (.int i2)] [] K)) := by
  refine (Q_if_eq (tgt := 31) zm_204 (Or.inl (by decide)) D204_10 (by decide)).trans ?_
  refine zif_c (fun h0_ => ?_) (fun h0_ => ?_)
  · refine (Q_iconst (v := -1) zm_204 (Or.inl (by decide)) D204_31 (by decide)).trans ?_
    exact Q_ireturn zm_204 (Or.inl (by decide)) D204_32 rfl
  · refine (Q_aload_n zm_204 (Or.inl (by decide)) D204_13 rfl).trans ?_
    refine (Q_iload_n zm_204 (Or.inl (by decide)) D204_14 rfl).trans ?_
    exact Q_callv (as := [.int i2]) (b := 127) (rest := []) zm_204 (Or.inl (by decide)) D204_15 zc_10_413 rfl zk_127.1 (by decide) (by decide +kernel) (by decide) (by simp [zcat, Value.category]) zm_171 rfl

theorem b204_18 {d : Nat} {i1 : Int32} {i2 : Int32} {s0 : Int32} {ia : Nat → Nat → Int32} {la : Nat → Nat → Int64} {pl dr : Nat} {cp : Option Nat} {cw : Option Nat} {rp : Option Nat} {K : Option Value → zHP → Prop}  : zWP (d + 1) 204 18 [some (.ref 127), some (.int i1), some (.int i2)] [.int s0] (ia, la, zRA pl dr cp cw rp) K = (if s0 = 0 then K (some (.int (-1 : Int32))) (ia, la, zRA pl dr cp cw rp) else zWM d 189 [.ref 127, .int (0 : Int32), .int i1, .int i2] (ia, la, zRA pl dr cp cw rp) (zK (d + 1) 204 28 [some (.ref 127), some (.int i1), some (.int i2)] [] K)) := by
  refine (Q_if_eq (tgt := 31) zm_204 (Or.inl (by decide)) D204_18 (by decide)).trans ?_
  refine zif_c (fun h0_ => ?_) (fun h0_ => ?_)
  · refine (Q_iconst (v := -1) zm_204 (Or.inl (by decide)) D204_31 (by decide)).trans ?_
    exact Q_ireturn zm_204 (Or.inl (by decide)) D204_32 rfl
  · refine (Q_aload_n zm_204 (Or.inl (by decide)) D204_21 rfl).trans ?_
    refine (Q_iconst (v := 0) zm_204 (Or.inl (by decide)) D204_22 (by decide)).trans ?_
    refine (Q_iload_n zm_204 (Or.inl (by decide)) D204_23 rfl).trans ?_
    refine (Q_iload_n zm_204 (Or.inl (by decide)) D204_24 rfl).trans ?_
    exact Q_callv (as := [.int (0 : Int32), .int i1, .int i2]) (b := 127) (rest := []) zm_204 (Or.inl (by decide)) D204_25 zc_10_438 rfl zk_127.1 (by decide) (by decide +kernel) (by decide) (by simp [zcat, Value.category]) zm_189 rfl

theorem b204_28 {d : Nat} {i1 : Int32} {i2 : Int32} {s0 : Int32} {ia : Nat → Nat → Int32} {la : Nat → Nat → Int64} {pl dr : Nat} {cp : Option Nat} {cw : Option Nat} {rp : Option Nat} {K : Option Value → zHP → Prop}  : zWP d 204 28 [some (.ref 127), some (.int i1), some (.int i2)] [.int s0] (ia, la, zRA pl dr cp cw rp) K = K (some (.int s0)) (ia, la, zRA pl dr cp cw rp) := by
  refine (Q_goto (tgt := 32) zm_204 (Or.inl (by decide)) D204_28 (by decide)).trans ?_
  exact Q_ireturn zm_204 (Or.inl (by decide)) D204_32 rfl

/-! HandsLetModel.like(I)I -/
theorem D205_0 : decode prog_12_method_79_code 0 = .ok (.aload_n 0, 1) := by decide +kernel
theorem D205_1 : decode prog_12_method_79_code 1 = .ok (.iconst 0, 1) := by decide +kernel
theorem D205_2 : decode prog_12_method_79_code 2 = .ok (.putfield 151, 3) := by decide +kernel
theorem D205_5 : decode prog_12_method_79_code 5 = .ok (.aload_n 0, 1) := by decide +kernel
theorem D205_6 : decode prog_12_method_79_code 6 = .ok (.iload_n 1, 1) := by decide +kernel
theorem D205_7 : decode prog_12_method_79_code 7 = .ok (.invokevirtual 413, 3) := by decide +kernel
theorem D205_10 : decode prog_12_method_79_code 10 = .ok (.ifCond .ne 5, 3) := by decide +kernel
theorem D205_13 : decode prog_12_method_79_code 13 = .ok (.iconst (-1), 1) := by decide +kernel
theorem D205_14 : decode prog_12_method_79_code 14 = .ok (.ireturn, 1) := by decide +kernel
theorem D205_15 : decode prog_12_method_79_code 15 = .ok (.iconst 0, 1) := by decide +kernel
theorem D205_16 : decode prog_12_method_79_code 16 = .ok (.istore_n 2, 1) := by decide +kernel
theorem D205_17 : decode prog_12_method_79_code 17 = .ok (.iconst 1, 1) := by decide +kernel
theorem D205_18 : decode prog_12_method_79_code 18 = .ok (.istore_n 3, 1) := by decide +kernel
theorem D205_19 : decode prog_12_method_79_code 19 = .ok (.iload_n 3, 1) := by decide +kernel
theorem D205_20 : decode prog_12_method_79_code 20 = .ok (.aload_n 0, 1) := by decide +kernel
theorem D205_21 : decode prog_12_method_79_code 21 = .ok (.getfield 13, 3) := by decide +kernel
theorem D205_24 : decode prog_12_method_79_code 24 = .ok (.iconst 0, 1) := by decide +kernel
theorem D205_25 : decode prog_12_method_79_code 25 = .ok (.iaload, 1) := by decide +kernel
theorem D205_26 : decode prog_12_method_79_code 26 = .ok (.if_icmp .ge 28, 3) := by decide +kernel
theorem D205_29 : decode prog_12_method_79_code 29 = .ok (.aload_n 0, 1) := by decide +kernel
theorem D205_30 : decode prog_12_method_79_code 30 = .ok (.iconst 0, 1) := by decide +kernel
theorem D205_31 : decode prog_12_method_79_code 31 = .ok (.iload_n 1, 1) := by decide +kernel
theorem D205_32 : decode prog_12_method_79_code 32 = .ok (.iload_n 3, 1) := by decide +kernel
theorem D205_33 : decode prog_12_method_79_code 33 = .ok (.invokevirtual 438, 3) := by decide +kernel
theorem D205_36 : decode prog_12_method_79_code 36 = .ok (.aload_n 0, 1) := by decide +kernel
theorem D205_37 : decode prog_12_method_79_code 37 = .ok (.iconst 0, 1) := by decide +kernel
theorem D205_38 : decode prog_12_method_79_code 38 = .ok (.iload_n 1, 1) := by decide +kernel
theorem D205_39 : decode prog_12_method_79_code 39 = .ok (.iload_n 2, 1) := by decide +kernel
theorem D205_40 : decode prog_12_method_79_code 40 = .ok (.invokevirtual 438, 3) := by decide +kernel
theorem D205_43 : decode prog_12_method_79_code 43 = .ok (.if_icmp .ge 5, 3) := by decide +kernel
theorem D205_46 : decode prog_12_method_79_code 46 = .ok (.iload_n 3, 1) := by decide +kernel
theorem D205_47 : decode prog_12_method_79_code 47 = .ok (.istore_n 2, 1) := by decide +kernel
theorem D205_48 : decode prog_12_method_79_code 48 = .ok (.iinc 3 1, 3) := by decide +kernel
theorem D205_51 : decode prog_12_method_79_code 51 = .ok (.goto (-32), 3) := by decide +kernel
theorem D205_54 : decode prog_12_method_79_code 54 = .ok (.iload_n 2, 1) := by decide +kernel
theorem D205_55 : decode prog_12_method_79_code 55 = .ok (.ireturn, 1) := by decide +kernel

theorem b205_0 {d : Nat} {i1 : Int32} {ia : Nat → Nat → Int32} {la : Nat → Nat → Int64} {pl dr : Nat} {cp : Option Nat} {cw : Option Nat} {rp : Option Nat} {K : Option Value → zHP → Prop}  : zWP (d + 1) 205 0 [some (.ref 127), some (.int i1), none, none] [] (ia, la, zRA pl dr cp cw rp) K = zWM d 171 [.ref 127, .int i1] ((zu ia 127 0 (0 : Int32)), la, zRA pl dr cp cw rp) (zK (d + 1) 205 10 [some (.ref 127), some (.int i1), none, none] [] K) := by
  refine (Q_aload_n zm_205 (Or.inl (by decide)) D205_0 rfl).trans ?_
  refine (Q_iconst (v := 0) zm_205 (Or.inl (by decide)) D205_1 (by decide)).trans ?_
  refine (Q_putI zm_205 (Or.inl (by decide)) D205_2 zf_10_151 zs_10_0 rfl zk_127.1).trans ?_
  refine (Q_aload_n zm_205 (Or.inl (by decide)) D205_5 rfl).trans ?_
  refine (Q_iload_n zm_205 (Or.inl (by decide)) D205_6 rfl).trans ?_
  exact Q_callv (as := [.int i1]) (b := 127) (rest := []) zm_205 (Or.inl (by decide)) D205_7 zc_10_413 rfl zk_127.1 (by decide) (by decide +kernel) (by decide) (by simp [zcat, Value.category]) zm_171 rfl

theorem b205_10 {d : Nat} {i1 : Int32} {s0 : Int32} {ia : Nat → Nat → Int32} {la : Nat → Nat → Int64} {pl dr : Nat} {cp : Option Nat} {cw : Option Nat} {rp : Option Nat} {K : Option Value → zHP → Prop}  : zWP d 205 10 [some (.ref 127), some (.int i1), none, none] [.int s0] (ia, la, zRA pl dr cp cw rp) K = (if ¬ s0 = 0 then zWP d 205 19 [some (.ref 127), some (.int i1), some (.int (0 : Int32)), some (.int (1 : Int32))] [] (ia, la, zRA pl dr cp cw rp) K else K (some (.int (-1 : Int32))) (ia, la, zRA pl dr cp cw rp)) := by
  refine (Q_if_ne (tgt := 15) zm_205 (Or.inl (by decide)) D205_10 (by decide)).trans ?_
  refine zif_c (fun h0_ => ?_) (fun h0_ => ?_)
  · refine (Q_iconst (v := 0) zm_205 (Or.inl (by decide)) D205_15 (by decide)).trans ?_
    refine (Q_istore_n (ls' := [some (.ref 127), some (.int i1), some (.int (0 : Int32)), none]) zm_205 (Or.inl (by decide)) D205_16 rfl (Nat.le_of_ble_eq_true rfl) rfl).trans ?_
    refine (Q_iconst (v := 1) zm_205 (Or.inl (by decide)) D205_17 (by decide)).trans ?_
    refine (Q_istore_n (ls' := [some (.ref 127), some (.int i1), some (.int (0 : Int32)), some (.int (1 : Int32))]) zm_205 (Or.inl (by decide)) D205_18 rfl (Nat.le_of_ble_eq_true rfl) rfl).trans ?_
    rfl
  · refine (Q_iconst (v := -1) zm_205 (Or.inl (by decide)) D205_13 (by decide)).trans ?_
    exact Q_ireturn zm_205 (Or.inl (by decide)) D205_14 rfl

theorem b205_19 {d : Nat} {i1 : Int32} {i2 : Int32} {i3 : Int32} {ia : Nat → Nat → Int32} {la : Nat → Nat → Int64} {pl dr : Nat} {cp : Option Nat} {cw : Option Nat} {rp : Option Nat} {K : Option Value → zHP → Prop}  : zWP (d + 1) 205 19 [some (.ref 127), some (.int i1), some (.int i2), some (.int i3)] [] (ia, la, zRA pl dr cp cw rp) K = (if (ia 129 0) ≤ i3 then K (some (.int i2)) (ia, la, zRA pl dr cp cw rp) else zWM d 189 [.ref 127, .int (0 : Int32), .int i1, .int i3] (ia, la, zRA pl dr cp cw rp) (zK (d + 1) 205 36 [some (.ref 127), some (.int i1), some (.int i2), some (.int i3)] [] K)) := by
  refine (Q_iload_n zm_205 (Or.inl (by decide)) D205_19 rfl).trans ?_
  refine (Q_aload_n zm_205 (Or.inl (by decide)) D205_20 rfl).trans ?_
  refine (Q_getR (q := 129) zm_205 (Or.inl (by decide)) D205_21 zf_10_13 zs_10_3 zk_127.1 rfl).trans ?_
  refine (Q_iconst (v := 0) zm_205 (Or.inl (by decide)) D205_24 (by decide)).trans ?_
  refine ((Q_iaload zm_205 (Or.inl (by decide)) D205_25 zk_129.1 zk_129.2).trans (zdrop (zin_spec (by decide)))).trans ?_
  refine (Q_ic_ge (tgt := 54) zm_205 (Or.inl (by decide)) D205_26 (by decide)).trans ?_
  refine zif_c (fun h0_ => ?_) (fun h0_ => ?_)
  · refine (Q_iload_n zm_205 (Or.inl (by decide)) D205_54 rfl).trans ?_
    exact Q_ireturn zm_205 (Or.inl (by decide)) D205_55 rfl
  · refine (Q_aload_n zm_205 (Or.inl (by decide)) D205_29 rfl).trans ?_
    refine (Q_iconst (v := 0) zm_205 (Or.inl (by decide)) D205_30 (by decide)).trans ?_
    refine (Q_iload_n zm_205 (Or.inl (by decide)) D205_31 rfl).trans ?_
    refine (Q_iload_n zm_205 (Or.inl (by decide)) D205_32 rfl).trans ?_
    exact Q_callv (as := [.int (0 : Int32), .int i1, .int i3]) (b := 127) (rest := []) zm_205 (Or.inl (by decide)) D205_33 zc_10_438 rfl zk_127.1 (by decide) (by decide +kernel) (by decide) (by simp [zcat, Value.category]) zm_189 rfl

theorem b205_36 {d : Nat} {i1 : Int32} {i2 : Int32} {i3 : Int32} {s0 : Int32} {ia : Nat → Nat → Int32} {la : Nat → Nat → Int64} {pl dr : Nat} {cp : Option Nat} {cw : Option Nat} {rp : Option Nat} {K : Option Value → zHP → Prop}  : zWP (d + 1) 205 36 [some (.ref 127), some (.int i1), some (.int i2), some (.int i3)] [.int s0] (ia, la, zRA pl dr cp cw rp) K = zWM d 189 [.ref 127, .int (0 : Int32), .int i1, .int i2] (ia, la, zRA pl dr cp cw rp) (zK (d + 1) 205 43 [some (.ref 127), some (.int i1), some (.int i2), some (.int i3)] [.int s0] K) := by
  refine (Q_aload_n zm_205 (Or.inl (by decide)) D205_36 rfl).trans ?_
  refine (Q_iconst (v := 0) zm_205 (Or.inl (by decide)) D205_37 (by decide)).trans ?_
  refine (Q_iload_n zm_205 (Or.inl (by decide)) D205_38 rfl).trans ?_
  refine (Q_iload_n zm_205 (Or.inl (by decide)) D205_39 rfl).trans ?_
  exact Q_callv (as := [.int (0 : Int32), .int i1, .int i2]) (b := 127) (rest := [.int s0]) zm_205 (Or.inl (by decide)) D205_40 zc_10_438 rfl zk_127.1 (by decide) (by decide +kernel) (by decide) (by simp [zcat, Value.category]) zm_189 rfl

theorem b205_43 {d : Nat} {i1 : Int32} {i2 : Int32} {i3 : Int32} {s0 : Int32} {s1 : Int32} {ia : Nat → Nat → Int32} {la : Nat → Nat → Int64} {pl dr : Nat} {cp : Option Nat} {cw : Option Nat} {rp : Option Nat} {K : Option Value → zHP → Prop}  : zWP d 205 43 [some (.ref 127), some (.int i1), some (.int i2), some (.int i3)] [.int s1, .int s0] (ia, la, zRA pl dr cp cw rp) K = (if s1 ≤ s0 then zWP d 205 19 [some (.ref 127), some (.int i1), some (.int i2), some (.int (i3 + (1 : Int32)))] [] (ia, la, zRA pl dr cp cw rp) K else zWP d 205 19 [some (.ref 127), some (.int i1), some (.int i3), some (.int (i3 + (1 : Int32)))] [] (ia, la, zRA pl dr cp cw rp) K) := by
  refine (Q_ic_ge (tgt := 48) zm_205 (Or.inl (by decide)) D205_43 (by decide)).trans ?_
  refine zif_c (fun h0_ => ?_) (fun h0_ => ?_)
  · refine (Q_iinc (v := 1) (ls' := [some (.ref 127), some (.int i1), some (.int i2), some (.int (i3 + (1 : Int32)))]) zm_205 (Or.inl (by decide)) D205_48 rfl rfl (by decide) rfl).trans ?_
    refine (Q_goto (tgt := 19) zm_205 (Or.inl (by decide)) D205_51 (by decide)).trans ?_
    rfl
  · refine (Q_iload_n zm_205 (Or.inl (by decide)) D205_46 rfl).trans ?_
    refine (Q_istore_n (ls' := [some (.ref 127), some (.int i1), some (.int i3), some (.int i3)]) zm_205 (Or.inl (by decide)) D205_47 rfl (Nat.le_of_ble_eq_true rfl) rfl).trans ?_
    refine (Q_iinc (v := 1) (ls' := [some (.ref 127), some (.int i1), some (.int i3), some (.int (i3 + (1 : Int32)))]) zm_205 (Or.inl (by decide)) D205_48 rfl rfl (by decide) rfl).trans ?_
    refine (Q_goto (tgt := 19) zm_205 (Or.inl (by decide)) D205_51 (by decide)).trans ?_
    rfl

/-! HandsLetModel.could(II)I -/
theorem D206_0 : decode prog_12_method_80_code 0 = .ok (.aload_n 0, 1) := by decide +kernel
theorem D206_1 : decode prog_12_method_80_code 1 = .ok (.iconst 0, 1) := by decide +kernel
theorem D206_2 : decode prog_12_method_80_code 2 = .ok (.putfield 151, 3) := by decide +kernel
theorem D206_5 : decode prog_12_method_80_code 5 = .ok (.iload_n 1, 1) := by decide +kernel
theorem D206_6 : decode prog_12_method_80_code 6 = .ok (.ifCond .lt 24, 3) := by decide +kernel
theorem D206_9 : decode prog_12_method_80_code 9 = .ok (.iload_n 1, 1) := by decide +kernel
theorem D206_10 : decode prog_12_method_80_code 10 = .ok (.aload_n 0, 1) := by decide +kernel
theorem D206_11 : decode prog_12_method_80_code 11 = .ok (.getfield 13, 3) := by decide +kernel
theorem D206_14 : decode prog_12_method_80_code 14 = .ok (.iconst 2, 1) := by decide +kernel
theorem D206_15 : decode prog_12_method_80_code 15 = .ok (.iaload, 1) := by decide +kernel
theorem D206_16 : decode prog_12_method_80_code 16 = .ok (.if_icmp .ge 14, 3) := by decide +kernel
theorem D206_19 : decode prog_12_method_80_code 19 = .ok (.iload_n 2, 1) := by decide +kernel
theorem D206_20 : decode prog_12_method_80_code 20 = .ok (.ifCond .lt 10, 3) := by decide +kernel
theorem D206_23 : decode prog_12_method_80_code 23 = .ok (.iload_n 2, 1) := by decide +kernel
theorem D206_24 : decode prog_12_method_80_code 24 = .ok (.ldc_w 447, 3) := by decide +kernel
theorem D206_27 : decode prog_12_method_80_code 27 = .ok (.if_icmp .le 5, 3) := by decide +kernel
theorem D206_30 : decode prog_12_method_80_code 30 = .ok (.iconst (-1), 1) := by decide +kernel
theorem D206_31 : decode prog_12_method_80_code 31 = .ok (.ireturn, 1) := by decide +kernel
theorem D206_32 : decode prog_12_method_80_code 32 = .ok (.aload_n 0, 1) := by decide +kernel
theorem D206_33 : decode prog_12_method_80_code 33 = .ok (.getfield 102, 3) := by decide +kernel
theorem D206_36 : decode prog_12_method_80_code 36 = .ok (.iload_n 1, 1) := by decide +kernel
theorem D206_37 : decode prog_12_method_80_code 37 = .ok (.iaload, 1) := by decide +kernel
theorem D206_38 : decode prog_12_method_80_code 38 = .ok (.ifCond .ne 6, 3) := by decide +kernel
theorem D206_41 : decode prog_12_method_80_code 41 = .ok (.bipush (-2), 2) := by decide +kernel
theorem D206_43 : decode prog_12_method_80_code 43 = .ok (.ireturn, 1) := by decide +kernel
theorem D206_44 : decode prog_12_method_80_code 44 = .ok (.iconst 0, 1) := by decide +kernel
theorem D206_45 : decode prog_12_method_80_code 45 = .ok (.istore_n 3, 1) := by decide +kernel
theorem D206_46 : decode prog_12_method_80_code 46 = .ok (.iconst 0, 1) := by decide +kernel
theorem D206_47 : decode prog_12_method_80_code 47 = .ok (.istore 4, 2) := by decide +kernel
theorem D206_49 : decode prog_12_method_80_code 49 = .ok (.iload 4, 2) := by decide +kernel
theorem D206_51 : decode prog_12_method_80_code 51 = .ok (.aload_n 0, 1) := by decide +kernel
theorem D206_52 : decode prog_12_method_80_code 52 = .ok (.getfield 13, 3) := by decide +kernel
theorem D206_55 : decode prog_12_method_80_code 55 = .ok (.iconst 0, 1) := by decide +kernel
theorem D206_56 : decode prog_12_method_80_code 56 = .ok (.iaload, 1) := by decide +kernel
theorem D206_57 : decode prog_12_method_80_code 57 = .ok (.if_icmp .ge 80, 3) := by decide +kernel
theorem D206_60 : decode prog_12_method_80_code 60 = .ok (.iconst 0, 1) := by decide +kernel
theorem D206_61 : decode prog_12_method_80_code 61 = .ok (.istore 5, 2) := by decide +kernel
theorem D206_63 : decode prog_12_method_80_code 63 = .ok (.iconst 0, 1) := by decide +kernel
theorem D206_64 : decode prog_12_method_80_code 64 = .ok (.istore 6, 2) := by decide +kernel
theorem D206_66 : decode prog_12_method_80_code 66 = .ok (.iload 6, 2) := by decide +kernel
theorem D206_68 : decode prog_12_method_80_code 68 = .ok (.iconst 3, 1) := by decide +kernel
theorem D206_69 : decode prog_12_method_80_code 69 = .ok (.if_icmp .ge 45, 3) := by decide +kernel
theorem D206_72 : decode prog_12_method_80_code 72 = .ok (.iload 5, 2) := by decide +kernel
theorem D206_74 : decode prog_12_method_80_code 74 = .ok (.aload_n 0, 1) := by decide +kernel
theorem D206_75 : decode prog_12_method_80_code 75 = .ok (.getfield 105, 3) := by decide +kernel
theorem D206_78 : decode prog_12_method_80_code 78 = .ok (.iconst 3, 1) := by decide +kernel
theorem D206_79 : decode prog_12_method_80_code 79 = .ok (.iload_n 1, 1) := by decide +kernel
theorem D206_80 : decode prog_12_method_80_code 80 = .ok (.imul, 1) := by decide +kernel
theorem D206_81 : decode prog_12_method_80_code 81 = .ok (.iload 6, 2) := by decide +kernel
theorem D206_83 : decode prog_12_method_80_code 83 = .ok (.iadd, 1) := by decide +kernel
theorem D206_84 : decode prog_12_method_80_code 84 = .ok (.iaload, 1) := by decide +kernel
theorem D206_85 : decode prog_12_method_80_code 85 = .ok (.sipush 1000, 3) := by decide +kernel
theorem D206_88 : decode prog_12_method_80_code 88 = .ok (.aload_n 0, 1) := by decide +kernel
theorem D206_89 : decode prog_12_method_80_code 89 = .ok (.getfield 19, 3) := by decide +kernel
theorem D206_92 : decode prog_12_method_80_code 92 = .ok (.iconst 3, 1) := by decide +kernel
theorem D206_93 : decode prog_12_method_80_code 93 = .ok (.iload 4, 2) := by decide +kernel
theorem D206_95 : decode prog_12_method_80_code 95 = .ok (.imul, 1) := by decide +kernel
theorem D206_96 : decode prog_12_method_80_code 96 = .ok (.iload 6, 2) := by decide +kernel
theorem D206_98 : decode prog_12_method_80_code 98 = .ok (.iadd, 1) := by decide +kernel
theorem D206_99 : decode prog_12_method_80_code 99 = .ok (.iaload, 1) := by decide +kernel
theorem D206_100 : decode prog_12_method_80_code 100 = .ok (.imul, 1) := by decide +kernel
theorem D206_101 : decode prog_12_method_80_code 101 = .ok (.isub, 1) := by decide +kernel
theorem D206_102 : decode prog_12_method_80_code 102 = .ok (.invokestatic 411, 3) := by decide +kernel
theorem D206_105 : decode prog_12_method_80_code 105 = .ok (.iadd, 1) := by decide +kernel
theorem D206_106 : decode prog_12_method_80_code 106 = .ok (.istore 5, 2) := by decide +kernel
theorem D206_108 : decode prog_12_method_80_code 108 = .ok (.iinc 6 1, 3) := by decide +kernel
theorem D206_111 : decode prog_12_method_80_code 111 = .ok (.goto (-45), 3) := by decide +kernel
theorem D206_114 : decode prog_12_method_80_code 114 = .ok (.iload_n 3, 1) := by decide +kernel
theorem D206_115 : decode prog_12_method_80_code 115 = .ok (.iload 5, 2) := by decide +kernel
theorem D206_117 : decode prog_12_method_80_code 117 = .ok (.iload_n 2, 1) := by decide +kernel
theorem D206_118 : decode prog_12_method_80_code 118 = .ok (.if_icmp .gt 10, 3) := by decide +kernel
theorem D206_121 : decode prog_12_method_80_code 121 = .ok (.iconst 1, 1) := by decide +kernel
theorem D206_122 : decode prog_12_method_80_code 122 = .ok (.iload 4, 2) := by decide +kernel
theorem D206_124 : decode prog_12_method_80_code 124 = .ok (.ishl, 1) := by decide +kernel
theorem D206_125 : decode prog_12_method_80_code 125 = .ok (.goto 4, 3) := by decide +kernel
theorem D206_128 : decode prog_12_method_80_code 128 = .ok (.iconst 0, 1) := by decide +kernel
theorem D206_129 : decode prog_12_method_80_code 129 = .ok (.ior, 1) := by decide +kernel
theorem D206_130 : decode prog_12_method_80_code 130 = .ok (.istore_n 3, 1) := by decide +kernel
theorem D206_131 : decode prog_12_method_80_code 131 = .ok (.iinc 4 1, 3) := by decide +kernel
theorem D206_134 : decode prog_12_method_80_code 134 = .ok (.goto (-85), 3) := by decide +kernel
theorem D206_137 : decode prog_12_method_80_code 137 = .ok (.iload_n 3, 1) := by decide +kernel
theorem D206_138 : decode prog_12_method_80_code 138 = .ok (.ireturn, 1) := by decide +kernel

theorem b206_0 {d : Nat} {i1 : Int32} {i2 : Int32} {ia : Nat → Nat → Int32} {la : Nat → Nat → Int64} {pl dr : Nat} {cp : Option Nat} {cw : Option Nat} {rp : Option Nat} {K : Option Value → zHP → Prop}  : zWP d 206 0 [some (.ref 127), some (.int i1), some (.int i2), none, none, none, none] [] (ia, la, zRA pl dr cp cw rp) K = (if i1 < 0 then K (some (.int (-1 : Int32))) ((zu ia 127 0 (0 : Int32)), la, zRA pl dr cp cw rp) else (if ((zu ia 127 0 (0 : Int32)) 129 2) ≤ i1 then K (some (.int (-1 : Int32))) ((zu ia 127 0 (0 : Int32)), la, zRA pl dr cp cw rp) else (if i2 < 0 then K (some (.int (-1 : Int32))) ((zu ia 127 0 (0 : Int32)), la, zRA pl dr cp cw rp) else (if i2 ≤ (999999 : Int32) then (vp_in i1 276 ∧ (if ¬ ((zu ia 127 0 (0 : Int32)) 157 (i1).toNatClampNeg) = 0 then zWP d 206 49 [some (.ref 127), some (.int i1), some (.int i2), some (.int (0 : Int32)), some (.int (0 : Int32)), none, none] [] ((zu ia 127 0 (0 : Int32)), la, zRA pl dr cp cw rp) K else K (some (.int (-2 : Int32))) ((zu ia 127 0 (0 : Int32)), la, zRA pl dr cp cw rp))) else K (some (.int (-1 : Int32))) ((zu ia 127 0 (0 : Int32)), la, zRA pl dr cp cw rp))))) := by
  refine (Q_aload_n zm_206 (Or.inl (by decide)) D206_0 rfl).trans ?_
  refine (Q_iconst (v := 0) zm_206 (Or.inl (by decide)) D206_1 (by decide)).trans ?_
  refine (Q_putI zm_206 (Or.inl (by decide)) D206_2 zf_10_151 zs_10_0 rfl zk_127.1).trans ?_
  refine (Q_iload_n zm_206 (Or.inl (by decide)) D206_5 rfl).trans ?_
  refine (Q_if_lt (tgt := 30) zm_206 (Or.inl (by decide)) D206_6 (by decide)).trans ?_
  refine zif_c (fun h0_ => ?_) (fun h0_ => ?_)
  · refine (Q_iconst (v := -1) zm_206 (Or.inl (by decide)) D206_30 (by decide)).trans ?_
    exact Q_ireturn zm_206 (Or.inl (by decide)) D206_31 rfl
  · refine (Q_iload_n zm_206 (Or.inl (by decide)) D206_9 rfl).trans ?_
    refine (Q_aload_n zm_206 (Or.inl (by decide)) D206_10 rfl).trans ?_
    refine (Q_getR (q := 129) zm_206 (Or.inl (by decide)) D206_11 zf_10_13 zs_10_3 zk_127.1 rfl).trans ?_
    refine (Q_iconst (v := 2) zm_206 (Or.inl (by decide)) D206_14 (by decide)).trans ?_
    refine ((Q_iaload zm_206 (Or.inl (by decide)) D206_15 zk_129.1 zk_129.2).trans (zdrop (zin_spec (by decide)))).trans ?_
    refine (Q_ic_ge (tgt := 30) zm_206 (Or.inl (by decide)) D206_16 (by decide)).trans ?_
    refine zif_c (fun h1_ => ?_) (fun h1_ => ?_)
    · refine (Q_iconst (v := -1) zm_206 (Or.inl (by decide)) D206_30 (by decide)).trans ?_
      exact Q_ireturn zm_206 (Or.inl (by decide)) D206_31 rfl
    · refine (Q_iload_n zm_206 (Or.inl (by decide)) D206_19 rfl).trans ?_
      refine (Q_if_lt (tgt := 30) zm_206 (Or.inl (by decide)) D206_20 (by decide)).trans ?_
      refine zif_c (fun h2_ => ?_) (fun h2_ => ?_)
      · refine (Q_iconst (v := -1) zm_206 (Or.inl (by decide)) D206_30 (by decide)).trans ?_
        exact Q_ireturn zm_206 (Or.inl (by decide)) D206_31 rfl
      · refine (Q_iload_n zm_206 (Or.inl (by decide)) D206_23 rfl).trans ?_
        refine (Q_ldc_w (v := 999999) zm_206 (Or.inl (by decide)) D206_24 (by decide +kernel)).trans ?_
        refine (Q_ic_le (tgt := 32) zm_206 (Or.inl (by decide)) D206_27 (by decide)).trans ?_
        refine zif_c (fun h3_ => ?_) (fun h3_ => ?_)
        · refine (Q_aload_n zm_206 (Or.inl (by decide)) D206_32 rfl).trans ?_
          refine (Q_getR (q := 157) zm_206 (Or.inl (by decide)) D206_33 zf_10_102 zs_10_45 zk_127.1 rfl).trans ?_
          refine (Q_iload_n zm_206 (Or.inl (by decide)) D206_36 rfl).trans ?_
          refine (Q_iaload zm_206 (Or.inl (by decide)) D206_37 zk_157.1 zk_157.2).trans ?_
          refine zand_c (fun h4_ => ?_)
          refine (Q_if_ne (tgt := 44) zm_206 (Or.inl (by decide)) D206_38 (by decide)).trans ?_
          refine zif_c (fun h5_ => ?_) (fun h5_ => ?_)
          · refine (Q_iconst (v := 0) zm_206 (Or.inl (by decide)) D206_44 (by decide)).trans ?_
            refine (Q_istore_n (ls' := [some (.ref 127), some (.int i1), some (.int i2), some (.int (0 : Int32)), none, none, none]) zm_206 (Or.inl (by decide)) D206_45 rfl (Nat.le_of_ble_eq_true rfl) rfl).trans ?_
            refine (Q_iconst (v := 0) zm_206 (Or.inl (by decide)) D206_46 (by decide)).trans ?_
            refine (Q_istore (ls' := [some (.ref 127), some (.int i1), some (.int i2), some (.int (0 : Int32)), some (.int (0 : Int32)), none, none]) zm_206 (Or.inl (by decide)) D206_47 rfl (Nat.le_of_ble_eq_true rfl) rfl).trans ?_
            rfl
          · refine (Q_bipush (v := -2) zm_206 (Or.inl (by decide)) D206_41 (by decide)).trans ?_
            exact Q_ireturn zm_206 (Or.inl (by decide)) D206_43 rfl
        · refine (Q_iconst (v := -1) zm_206 (Or.inl (by decide)) D206_30 (by decide)).trans ?_
          exact Q_ireturn zm_206 (Or.inl (by decide)) D206_31 rfl

theorem b206_49 {d : Nat} {i1 : Int32} {i2 : Int32} {i3 : Int32} {i4 : Int32} {a5 : Option Value} {a6 : Option Value} {ia : Nat → Nat → Int32} {la : Nat → Nat → Int64} {pl dr : Nat} {cp : Option Nat} {cw : Option Nat} {rp : Option Nat} {K : Option Value → zHP → Prop}  : zWP d 206 49 [some (.ref 127), some (.int i1), some (.int i2), some (.int i3), some (.int i4), a5, a6] [] (ia, la, zRA pl dr cp cw rp) K = (if (ia 129 0) ≤ i4 then K (some (.int i3)) (ia, la, zRA pl dr cp cw rp) else zWP d 206 66 [some (.ref 127), some (.int i1), some (.int i2), some (.int i3), some (.int i4), some (.int (0 : Int32)), some (.int (0 : Int32))] [] (ia, la, zRA pl dr cp cw rp) K) := by
  refine (Q_iload zm_206 (Or.inl (by decide)) D206_49 rfl).trans ?_
  refine (Q_aload_n zm_206 (Or.inl (by decide)) D206_51 rfl).trans ?_
  refine (Q_getR (q := 129) zm_206 (Or.inl (by decide)) D206_52 zf_10_13 zs_10_3 zk_127.1 rfl).trans ?_
  refine (Q_iconst (v := 0) zm_206 (Or.inl (by decide)) D206_55 (by decide)).trans ?_
  refine ((Q_iaload zm_206 (Or.inl (by decide)) D206_56 zk_129.1 zk_129.2).trans (zdrop (zin_spec (by decide)))).trans ?_
  refine (Q_ic_ge (tgt := 137) zm_206 (Or.inl (by decide)) D206_57 (by decide)).trans ?_
  refine zif_c (fun h0_ => ?_) (fun h0_ => ?_)
  · refine (Q_iload_n zm_206 (Or.inl (by decide)) D206_137 rfl).trans ?_
    exact Q_ireturn zm_206 (Or.inl (by decide)) D206_138 rfl
  · refine (Q_iconst (v := 0) zm_206 (Or.inl (by decide)) D206_60 (by decide)).trans ?_
    refine (Q_istore (ls' := [some (.ref 127), some (.int i1), some (.int i2), some (.int i3), some (.int i4), some (.int (0 : Int32)), a6]) zm_206 (Or.inl (by decide)) D206_61 rfl (Nat.le_of_ble_eq_true rfl) rfl).trans ?_
    refine (Q_iconst (v := 0) zm_206 (Or.inl (by decide)) D206_63 (by decide)).trans ?_
    refine (Q_istore (ls' := [some (.ref 127), some (.int i1), some (.int i2), some (.int i3), some (.int i4), some (.int (0 : Int32)), some (.int (0 : Int32))]) zm_206 (Or.inl (by decide)) D206_64 rfl (Nat.le_of_ble_eq_true rfl) rfl).trans ?_
    rfl

theorem b206_66 {d : Nat} {i1 : Int32} {i2 : Int32} {i3 : Int32} {i4 : Int32} {i5 : Int32} {i6 : Int32} {ia : Nat → Nat → Int32} {la : Nat → Nat → Int64} {pl dr : Nat} {cp : Option Nat} {cw : Option Nat} {rp : Option Nat} {K : Option Value → zHP → Prop}  : zWP (d + 5) 206 66 [some (.ref 127), some (.int i1), some (.int i2), some (.int i3), some (.int i4), some (.int i5), some (.int i6)] [] (ia, la, zRA pl dr cp cw rp) K = (if (3 : Int32) ≤ i6 then (if i2 < i5 then zWP (d + 5) 206 49 [some (.ref 127), some (.int i1), some (.int i2), some (.int (i3 ||| (0 : Int32))), some (.int (i4 + (1 : Int32))), some (.int i5), some (.int i6)] [] (ia, la, zRA pl dr cp cw rp) K else zWP (d + 5) 206 49 [some (.ref 127), some (.int i1), some (.int i2), some (.int (i3 ||| ((1 : Int32) <<< (i4 &&& 31)))), some (.int (i4 + (1 : Int32))), some (.int i5), some (.int i6)] [] (ia, la, zRA pl dr cp cw rp) K) else (vp_in (((3 : Int32) * i1) + i6) 828 ∧ (vp_in (((3 : Int32) * i4) + i6) 36 ∧ zWP (d + 5) 206 66 [some (.ref 127), some (.int i1), some (.int i2), some (.int i3), some (.int i4), some (.int (i5 + (if 0 ≤ ((ia 158 ((((3 : Int32) * i1) + i6)).toNatClampNeg) - ((1000 : Int32) * (ia 131 ((((3 : Int32) * i4) + i6)).toNatClampNeg))) then ((ia 158 ((((3 : Int32) * i1) + i6)).toNatClampNeg) - ((1000 : Int32) * (ia 131 ((((3 : Int32) * i4) + i6)).toNatClampNeg))) else 0 - ((ia 158 ((((3 : Int32) * i1) + i6)).toNatClampNeg) - ((1000 : Int32) * (ia 131 ((((3 : Int32) * i4) + i6)).toNatClampNeg)))))), some (.int (i6 + (1 : Int32)))] [] (ia, la, zRA pl dr cp cw rp) K))) := by
  refine (Q_iload zm_206 (Or.inl (by decide)) D206_66 rfl).trans ?_
  refine (Q_iconst (v := 3) zm_206 (Or.inl (by decide)) D206_68 (by decide)).trans ?_
  refine (Q_ic_ge (tgt := 114) zm_206 (Or.inl (by decide)) D206_69 (by decide)).trans ?_
  refine zif_c (fun h0_ => ?_) (fun h0_ => ?_)
  · refine (Q_iload_n zm_206 (Or.inl (by decide)) D206_114 rfl).trans ?_
    refine (Q_iload zm_206 (Or.inl (by decide)) D206_115 rfl).trans ?_
    refine (Q_iload_n zm_206 (Or.inl (by decide)) D206_117 rfl).trans ?_
    refine (Q_ic_gt (tgt := 128) zm_206 (Or.inl (by decide)) D206_118 (by decide)).trans ?_
    refine zif_c (fun h1_ => ?_) (fun h1_ => ?_)
    · refine (Q_iconst (v := 0) zm_206 (Or.inl (by decide)) D206_128 (by decide)).trans ?_
      refine (Q_ior zm_206 (Or.inl (by decide)) D206_129).trans ?_
      refine (Q_istore_n (ls' := [some (.ref 127), some (.int i1), some (.int i2), some (.int (i3 ||| (0 : Int32))), some (.int i4), some (.int i5), some (.int i6)]) zm_206 (Or.inl (by decide)) D206_130 rfl (Nat.le_of_ble_eq_true rfl) rfl).trans ?_
      refine (Q_iinc (v := 1) (ls' := [some (.ref 127), some (.int i1), some (.int i2), some (.int (i3 ||| (0 : Int32))), some (.int (i4 + (1 : Int32))), some (.int i5), some (.int i6)]) zm_206 (Or.inl (by decide)) D206_131 rfl rfl (by decide) rfl).trans ?_
      refine (Q_goto (tgt := 49) zm_206 (Or.inl (by decide)) D206_134 (by decide)).trans ?_
      rfl
    · refine (Q_iconst (v := 1) zm_206 (Or.inl (by decide)) D206_121 (by decide)).trans ?_
      refine (Q_iload zm_206 (Or.inl (by decide)) D206_122 rfl).trans ?_
      refine (Q_ishl zm_206 (Or.inl (by decide)) D206_124).trans ?_
      refine (Q_goto (tgt := 129) zm_206 (Or.inl (by decide)) D206_125 (by decide)).trans ?_
      refine (Q_ior zm_206 (Or.inl (by decide)) D206_129).trans ?_
      refine (Q_istore_n (ls' := [some (.ref 127), some (.int i1), some (.int i2), some (.int (i3 ||| ((1 : Int32) <<< (i4 &&& 31)))), some (.int i4), some (.int i5), some (.int i6)]) zm_206 (Or.inl (by decide)) D206_130 rfl (Nat.le_of_ble_eq_true rfl) rfl).trans ?_
      refine (Q_iinc (v := 1) (ls' := [some (.ref 127), some (.int i1), some (.int i2), some (.int (i3 ||| ((1 : Int32) <<< (i4 &&& 31)))), some (.int (i4 + (1 : Int32))), some (.int i5), some (.int i6)]) zm_206 (Or.inl (by decide)) D206_131 rfl rfl (by decide) rfl).trans ?_
      refine (Q_goto (tgt := 49) zm_206 (Or.inl (by decide)) D206_134 (by decide)).trans ?_
      rfl
  · refine (Q_iload zm_206 (Or.inl (by decide)) D206_72 rfl).trans ?_
    refine (Q_aload_n zm_206 (Or.inl (by decide)) D206_74 rfl).trans ?_
    refine (Q_getR (q := 158) zm_206 (Or.inl (by decide)) D206_75 zf_10_105 zs_10_46 zk_127.1 rfl).trans ?_
    refine (Q_iconst (v := 3) zm_206 (Or.inl (by decide)) D206_78 (by decide)).trans ?_
    refine (Q_iload_n zm_206 (Or.inl (by decide)) D206_79 rfl).trans ?_
    refine (Q_imul zm_206 (Or.inl (by decide)) D206_80).trans ?_
    refine (Q_iload zm_206 (Or.inl (by decide)) D206_81 rfl).trans ?_
    refine (Q_iadd zm_206 (Or.inl (by decide)) D206_83).trans ?_
    refine (Q_iaload zm_206 (Or.inl (by decide)) D206_84 zk_158.1 zk_158.2).trans ?_
    refine zand_c (fun h2_ => ?_)
    refine (Q_sipush (v := 1000) zm_206 (Or.inl (by decide)) D206_85 (by decide)).trans ?_
    refine (Q_aload_n zm_206 (Or.inl (by decide)) D206_88 rfl).trans ?_
    refine (Q_getR (q := 131) zm_206 (Or.inl (by decide)) D206_89 zf_10_19 zs_10_5 zk_127.1 rfl).trans ?_
    refine (Q_iconst (v := 3) zm_206 (Or.inl (by decide)) D206_92 (by decide)).trans ?_
    refine (Q_iload zm_206 (Or.inl (by decide)) D206_93 rfl).trans ?_
    refine (Q_imul zm_206 (Or.inl (by decide)) D206_95).trans ?_
    refine (Q_iload zm_206 (Or.inl (by decide)) D206_96 rfl).trans ?_
    refine (Q_iadd zm_206 (Or.inl (by decide)) D206_98).trans ?_
    refine (Q_iaload zm_206 (Or.inl (by decide)) D206_99 zk_131.1 zk_131.2).trans ?_
    refine zand_c (fun h3_ => ?_)
    refine (Q_imul zm_206 (Or.inl (by decide)) D206_100).trans ?_
    refine (Q_isub zm_206 (Or.inl (by decide)) D206_101).trans ?_
    refine (Q_bis (as := [.int ((ia 158 ((((3 : Int32) * i1) + i6)).toNatClampNeg) - ((1000 : Int32) * (ia 131 ((((3 : Int32) * i4) + i6)).toNatClampNeg)))]) (rest := [.int i5]) zm_206 (Or.inl (by decide)) D206_102 zc_10_411 rfl (by decide) (by simp [zcat, Value.category]) rfl).trans ?_
    refine (Q_iadd zm_206 (Or.inl (by decide)) D206_105).trans ?_
    refine (Q_istore (ls' := [some (.ref 127), some (.int i1), some (.int i2), some (.int i3), some (.int i4), some (.int (i5 + (if 0 ≤ ((ia 158 ((((3 : Int32) * i1) + i6)).toNatClampNeg) - ((1000 : Int32) * (ia 131 ((((3 : Int32) * i4) + i6)).toNatClampNeg))) then ((ia 158 ((((3 : Int32) * i1) + i6)).toNatClampNeg) - ((1000 : Int32) * (ia 131 ((((3 : Int32) * i4) + i6)).toNatClampNeg))) else 0 - ((ia 158 ((((3 : Int32) * i1) + i6)).toNatClampNeg) - ((1000 : Int32) * (ia 131 ((((3 : Int32) * i4) + i6)).toNatClampNeg)))))), some (.int i6)]) zm_206 (Or.inl (by decide)) D206_106 rfl (Nat.le_of_ble_eq_true rfl) rfl).trans ?_
    refine (Q_iinc (v := 1) (ls' := [some (.ref 127), some (.int i1), some (.int i2), some (.int i3), some (.int i4), some (.int (i5 + (if 0 ≤ ((ia 158 ((((3 : Int32) * i1) + i6)).toNatClampNeg) - ((1000 : Int32) * (ia 131 ((((3 : Int32) * i4) + i6)).toNatClampNeg))) then ((ia 158 ((((3 : Int32) * i1) + i6)).toNatClampNeg) - ((1000 : Int32) * (ia 131 ((((3 : Int32) * i4) + i6)).toNatClampNeg))) else 0 - ((ia 158 ((((3 : Int32) * i1) + i6)).toNatClampNeg) - ((1000 : Int32) * (ia 131 ((((3 : Int32) * i4) + i6)).toNatClampNeg)))))), some (.int (i6 + (1 : Int32)))]) zm_206 (Or.inl (by decide)) D206_108 rfl rfl (by decide) rfl).trans ?_
    refine (Q_goto (tgt := 66) zm_206 (Or.inl (by decide)) D206_111 (by decide)).trans ?_
    rfl

/-! HandsLetModel.matches(IIII)V -/
theorem D207_0 : decode prog_12_method_81_code 0 = .ok (.iload_n 1, 1) := by decide +kernel
theorem D207_1 : decode prog_12_method_81_code 1 = .ok (.aload_n 0, 1) := by decide +kernel
theorem D207_2 : decode prog_12_method_81_code 2 = .ok (.getfield 13, 3) := by decide +kernel
theorem D207_5 : decode prog_12_method_81_code 5 = .ok (.iconst 0, 1) := by decide +kernel
theorem D207_6 : decode prog_12_method_81_code 6 = .ok (.iaload, 1) := by decide +kernel
theorem D207_7 : decode prog_12_method_81_code 7 = .ok (.if_icmp .ne 70, 3) := by decide +kernel
theorem D207_10 : decode prog_12_method_81_code 10 = .ok (.iload_n 3, 1) := by decide +kernel
theorem D207_11 : decode prog_12_method_81_code 11 = .ok (.aload_n 0, 1) := by decide +kernel
theorem D207_12 : decode prog_12_method_81_code 12 = .ok (.getfield 448, 3) := by decide +kernel
theorem D207_15 : decode prog_12_method_81_code 15 = .ok (.if_icmp .lt 20, 3) := by decide +kernel
theorem D207_18 : decode prog_12_method_81_code 18 = .ok (.iload_n 3, 1) := by decide +kernel
theorem D207_19 : decode prog_12_method_81_code 19 = .ok (.aload_n 0, 1) := by decide +kernel
theorem D207_20 : decode prog_12_method_81_code 20 = .ok (.getfield 448, 3) := by decide +kernel
theorem D207_23 : decode prog_12_method_81_code 23 = .ok (.if_icmp .ne 13, 3) := by decide +kernel
theorem D207_26 : decode prog_12_method_81_code 26 = .ok (.iload 4, 2) := by decide +kernel
theorem D207_28 : decode prog_12_method_81_code 28 = .ok (.aload_n 0, 1) := by decide +kernel
theorem D207_29 : decode prog_12_method_81_code 29 = .ok (.getfield 451, 3) := by decide +kernel
theorem D207_32 : decode prog_12_method_81_code 32 = .ok (.if_icmp .lt 4, 3) := by decide +kernel
theorem D207_35 : decode prog_12_method_81_code 35 = .ok (.return_, 1) := by decide +kernel
theorem D207_36 : decode prog_12_method_81_code 36 = .ok (.aload_n 0, 1) := by decide +kernel
theorem D207_37 : decode prog_12_method_81_code 37 = .ok (.iload_n 3, 1) := by decide +kernel
theorem D207_38 : decode prog_12_method_81_code 38 = .ok (.putfield 448, 3) := by decide +kernel
theorem D207_41 : decode prog_12_method_81_code 41 = .ok (.aload_n 0, 1) := by decide +kernel
theorem D207_42 : decode prog_12_method_81_code 42 = .ok (.iload 4, 2) := by decide +kernel
theorem D207_44 : decode prog_12_method_81_code 44 = .ok (.putfield 451, 3) := by decide +kernel
theorem D207_47 : decode prog_12_method_81_code 47 = .ok (.iconst 0, 1) := by decide +kernel
theorem D207_48 : decode prog_12_method_81_code 48 = .ok (.istore 5, 2) := by decide +kernel
theorem D207_50 : decode prog_12_method_81_code 50 = .ok (.iload 5, 2) := by decide +kernel
theorem D207_52 : decode prog_12_method_81_code 52 = .ok (.iload_n 1, 1) := by decide +kernel
theorem D207_53 : decode prog_12_method_81_code 53 = .ok (.if_icmp .ge 23, 3) := by decide +kernel
theorem D207_56 : decode prog_12_method_81_code 56 = .ok (.aload_n 0, 1) := by decide +kernel
theorem D207_57 : decode prog_12_method_81_code 57 = .ok (.getfield 117, 3) := by decide +kernel
theorem D207_60 : decode prog_12_method_81_code 60 = .ok (.iload 5, 2) := by decide +kernel
theorem D207_62 : decode prog_12_method_81_code 62 = .ok (.aload_n 0, 1) := by decide +kernel
theorem D207_63 : decode prog_12_method_81_code 63 = .ok (.getfield 114, 3) := by decide +kernel
theorem D207_66 : decode prog_12_method_81_code 66 = .ok (.iload 5, 2) := by decide +kernel
theorem D207_68 : decode prog_12_method_81_code 68 = .ok (.iaload, 1) := by decide +kernel
theorem D207_69 : decode prog_12_method_81_code 69 = .ok (.iastore, 1) := by decide +kernel
theorem D207_70 : decode prog_12_method_81_code 70 = .ok (.iinc 5 1, 3) := by decide +kernel
theorem D207_73 : decode prog_12_method_81_code 73 = .ok (.goto (-23), 3) := by decide +kernel
theorem D207_76 : decode prog_12_method_81_code 76 = .ok (.return_, 1) := by decide +kernel
theorem D207_77 : decode prog_12_method_81_code 77 = .ok (.iconst 0, 1) := by decide +kernel
theorem D207_78 : decode prog_12_method_81_code 78 = .ok (.istore 5, 2) := by decide +kernel
theorem D207_80 : decode prog_12_method_81_code 80 = .ok (.iload 5, 2) := by decide +kernel
theorem D207_82 : decode prog_12_method_81_code 82 = .ok (.aload_n 0, 1) := by decide +kernel
theorem D207_83 : decode prog_12_method_81_code 83 = .ok (.getfield 13, 3) := by decide +kernel
theorem D207_86 : decode prog_12_method_81_code 86 = .ok (.iconst 0, 1) := by decide +kernel
theorem D207_87 : decode prog_12_method_81_code 87 = .ok (.iaload, 1) := by decide +kernel
theorem D207_88 : decode prog_12_method_81_code 88 = .ok (.if_icmp .ge 73, 3) := by decide +kernel
theorem D207_91 : decode prog_12_method_81_code 91 = .ok (.iload 5, 2) := by decide +kernel
theorem D207_93 : decode prog_12_method_81_code 93 = .ok (.iload_n 1, 1) := by decide +kernel
theorem D207_94 : decode prog_12_method_81_code 94 = .ok (.if_icmp .eq 61, 3) := by decide +kernel
theorem D207_97 : decode prog_12_method_81_code 97 = .ok (.iload_n 2, 1) := by decide +kernel
theorem D207_98 : decode prog_12_method_81_code 98 = .ok (.iload 5, 2) := by decide +kernel
theorem D207_100 : decode prog_12_method_81_code 100 = .ok (.ishr, 1) := by decide +kernel
theorem D207_101 : decode prog_12_method_81_code 101 = .ok (.iconst 1, 1) := by decide +kernel
theorem D207_102 : decode prog_12_method_81_code 102 = .ok (.iand, 1) := by decide +kernel
theorem D207_103 : decode prog_12_method_81_code 103 = .ok (.iconst 1, 1) := by decide +kernel
theorem D207_104 : decode prog_12_method_81_code 104 = .ok (.if_icmp .eq 51, 3) := by decide +kernel
theorem D207_107 : decode prog_12_method_81_code 107 = .ok (.aload_n 0, 1) := by decide +kernel
theorem D207_108 : decode prog_12_method_81_code 108 = .ok (.iconst 0, 1) := by decide +kernel
theorem D207_109 : decode prog_12_method_81_code 109 = .ok (.iload 5, 2) := by decide +kernel
theorem D207_111 : decode prog_12_method_81_code 111 = .ok (.invokevirtual 340, 3) := by decide +kernel
theorem D207_114 : decode prog_12_method_81_code 114 = .ok (.ifCond .eq 6, 3) := by decide +kernel
theorem D207_117 : decode prog_12_method_81_code 117 = .ok (.goto 38, 3) := by decide +kernel
theorem D207_120 : decode prog_12_method_81_code 120 = .ok (.aload_n 0, 1) := by decide +kernel
theorem D207_121 : decode prog_12_method_81_code 121 = .ok (.getfield 114, 3) := by decide +kernel
theorem D207_124 : decode prog_12_method_81_code 124 = .ok (.iload_n 1, 1) := by decide +kernel
theorem D207_125 : decode prog_12_method_81_code 125 = .ok (.iload 5, 2) := by decide +kernel
theorem D207_127 : decode prog_12_method_81_code 127 = .ok (.iastore, 1) := by decide +kernel
theorem D207_128 : decode prog_12_method_81_code 128 = .ok (.aload_n 0, 1) := by decide +kernel
theorem D207_129 : decode prog_12_method_81_code 129 = .ok (.iload_n 1, 1) := by decide +kernel
theorem D207_130 : decode prog_12_method_81_code 130 = .ok (.iconst 1, 1) := by decide +kernel
theorem D207_131 : decode prog_12_method_81_code 131 = .ok (.iadd, 1) := by decide +kernel
theorem D207_132 : decode prog_12_method_81_code 132 = .ok (.iload_n 2, 1) := by decide +kernel
theorem D207_133 : decode prog_12_method_81_code 133 = .ok (.iconst 1, 1) := by decide +kernel
theorem D207_134 : decode prog_12_method_81_code 134 = .ok (.iload 5, 2) := by decide +kernel
theorem D207_136 : decode prog_12_method_81_code 136 = .ok (.ishl, 1) := by decide +kernel
theorem D207_137 : decode prog_12_method_81_code 137 = .ok (.ior, 1) := by decide +kernel
theorem D207_138 : decode prog_12_method_81_code 138 = .ok (.iload_n 3, 1) := by decide +kernel
theorem D207_139 : decode prog_12_method_81_code 139 = .ok (.iconst 1, 1) := by decide +kernel
theorem D207_140 : decode prog_12_method_81_code 140 = .ok (.iadd, 1) := by decide +kernel
theorem D207_141 : decode prog_12_method_81_code 141 = .ok (.iload 4, 2) := by decide +kernel
theorem D207_143 : decode prog_12_method_81_code 143 = .ok (.aload_n 0, 1) := by decide +kernel
theorem D207_144 : decode prog_12_method_81_code 144 = .ok (.iconst 0, 1) := by decide +kernel
theorem D207_145 : decode prog_12_method_81_code 145 = .ok (.iload 5, 2) := by decide +kernel
theorem D207_147 : decode prog_12_method_81_code 147 = .ok (.iload_n 1, 1) := by decide +kernel
theorem D207_148 : decode prog_12_method_81_code 148 = .ok (.invokevirtual 438, 3) := by decide +kernel
theorem D207_151 : decode prog_12_method_81_code 151 = .ok (.iadd, 1) := by decide +kernel
theorem D207_152 : decode prog_12_method_81_code 152 = .ok (.invokevirtual 454, 3) := by decide +kernel
theorem D207_155 : decode prog_12_method_81_code 155 = .ok (.iinc 5 1, 3) := by decide +kernel
theorem D207_158 : decode prog_12_method_81_code 158 = .ok (.goto (-78), 3) := by decide +kernel
theorem D207_161 : decode prog_12_method_81_code 161 = .ok (.aload_n 0, 1) := by decide +kernel
theorem D207_162 : decode prog_12_method_81_code 162 = .ok (.getfield 114, 3) := by decide +kernel
theorem D207_165 : decode prog_12_method_81_code 165 = .ok (.iload_n 1, 1) := by decide +kernel
theorem D207_166 : decode prog_12_method_81_code 166 = .ok (.bipush (-2), 2) := by decide +kernel
theorem D207_168 : decode prog_12_method_81_code 168 = .ok (.iastore, 1) := by decide +kernel
theorem D207_169 : decode prog_12_method_81_code 169 = .ok (.aload_n 0, 1) := by decide +kernel
theorem D207_170 : decode prog_12_method_81_code 170 = .ok (.iload_n 1, 1) := by decide +kernel
theorem D207_171 : decode prog_12_method_81_code 171 = .ok (.iconst 1, 1) := by decide +kernel
theorem D207_172 : decode prog_12_method_81_code 172 = .ok (.iadd, 1) := by decide +kernel
theorem D207_173 : decode prog_12_method_81_code 173 = .ok (.iload_n 2, 1) := by decide +kernel
theorem D207_174 : decode prog_12_method_81_code 174 = .ok (.iload_n 3, 1) := by decide +kernel
theorem D207_175 : decode prog_12_method_81_code 175 = .ok (.iload 4, 2) := by decide +kernel
theorem D207_177 : decode prog_12_method_81_code 177 = .ok (.invokevirtual 454, 3) := by decide +kernel
theorem D207_180 : decode prog_12_method_81_code 180 = .ok (.return_, 1) := by decide +kernel

theorem b207_0 {d : Nat} {i1 : Int32} {i2 : Int32} {i3 : Int32} {i4 : Int32} {ia : Nat → Nat → Int32} {la : Nat → Nat → Int64} {pl dr : Nat} {cp : Option Nat} {cw : Option Nat} {rp : Option Nat} {K : Option Value → zHP → Prop}  : zWP d 207 0 [some (.ref 127), some (.int i1), some (.int i2), some (.int i3), some (.int i4), none] [] (ia, la, zRA pl dr cp cw rp) K = (if ¬ i1 = (ia 129 0) then zWP d 207 80 [some (.ref 127), some (.int i1), some (.int i2), some (.int i3), some (.int i4), some (.int (0 : Int32))] [] (ia, la, zRA pl dr cp cw rp) K else (if i3 < (ia 127 54) then K none (ia, la, zRA pl dr cp cw rp) else (if ¬ i3 = (ia 127 54) then zWP d 207 50 [some (.ref 127), some (.int i1), some (.int i2), some (.int i3), some (.int i4), some (.int (0 : Int32))] [] ((zu (zu ia 127 54 i3) 127 55 i4), la, zRA pl dr cp cw rp) K else (if i4 < (ia 127 55) then zWP d 207 50 [some (.ref 127), some (.int i1), some (.int i2), some (.int i3), some (.int i4), some (.int (0 : Int32))] [] ((zu (zu ia 127 54 i3) 127 55 i4), la, zRA pl dr cp cw rp) K else K none (ia, la, zRA pl dr cp cw rp))))) := by
  refine (Q_iload_n zm_207 (Or.inl (by decide)) D207_0 rfl).trans ?_
  refine (Q_aload_n zm_207 (Or.inl (by decide)) D207_1 rfl).trans ?_
  refine (Q_getR (q := 129) zm_207 (Or.inl (by decide)) D207_2 zf_10_13 zs_10_3 zk_127.1 rfl).trans ?_
  refine (Q_iconst (v := 0) zm_207 (Or.inl (by decide)) D207_5 (by decide)).trans ?_
  refine ((Q_iaload zm_207 (Or.inl (by decide)) D207_6 zk_129.1 zk_129.2).trans (zdrop (zin_spec (by decide)))).trans ?_
  refine (Q_ic_ne (tgt := 77) zm_207 (Or.inl (by decide)) D207_7 (by decide)).trans ?_
  refine zif_c (fun h0_ => ?_) (fun h0_ => ?_)
  · refine (Q_iconst (v := 0) zm_207 (Or.inl (by decide)) D207_77 (by decide)).trans ?_
    refine (Q_istore (ls' := [some (.ref 127), some (.int i1), some (.int i2), some (.int i3), some (.int i4), some (.int (0 : Int32))]) zm_207 (Or.inl (by decide)) D207_78 rfl (Nat.le_of_ble_eq_true rfl) rfl).trans ?_
    rfl
  · refine (Q_iload_n zm_207 (Or.inl (by decide)) D207_10 rfl).trans ?_
    refine (Q_aload_n zm_207 (Or.inl (by decide)) D207_11 rfl).trans ?_
    refine (Q_getI zm_207 (Or.inl (by decide)) D207_12 zf_10_448 (Or.inl zs_10_54) zk_127.1).trans ?_
    refine (Q_ic_lt (tgt := 35) zm_207 (Or.inl (by decide)) D207_15 (by decide)).trans ?_
    refine zif_c (fun h1_ => ?_) (fun h1_ => ?_)
    · exact Q_return zm_207 (Or.inl (by decide)) D207_35 rfl
    · refine (Q_iload_n zm_207 (Or.inl (by decide)) D207_18 rfl).trans ?_
      refine (Q_aload_n zm_207 (Or.inl (by decide)) D207_19 rfl).trans ?_
      refine (Q_getI zm_207 (Or.inl (by decide)) D207_20 zf_10_448 (Or.inl zs_10_54) zk_127.1).trans ?_
      refine (Q_ic_ne (tgt := 36) zm_207 (Or.inl (by decide)) D207_23 (by decide)).trans ?_
      refine zif_c (fun h2_ => ?_) (fun h2_ => ?_)
      · refine (Q_aload_n zm_207 (Or.inl (by decide)) D207_36 rfl).trans ?_
        refine (Q_iload_n zm_207 (Or.inl (by decide)) D207_37 rfl).trans ?_
        refine (Q_putI zm_207 (Or.inl (by decide)) D207_38 zf_10_448 zs_10_54 rfl zk_127.1).trans ?_
        refine (Q_aload_n zm_207 (Or.inl (by decide)) D207_41 rfl).trans ?_
        refine (Q_iload zm_207 (Or.inl (by decide)) D207_42 rfl).trans ?_
        refine (Q_putI zm_207 (Or.inl (by decide)) D207_44 zf_10_451 zs_10_55 rfl zk_127.1).trans ?_
        refine (Q_iconst (v := 0) zm_207 (Or.inl (by decide)) D207_47 (by decide)).trans ?_
        refine (Q_istore (ls' := [some (.ref 127), some (.int i1), some (.int i2), some (.int i3), some (.int i4), some (.int (0 : Int32))]) zm_207 (Or.inl (by decide)) D207_48 rfl (Nat.le_of_ble_eq_true rfl) rfl).trans ?_
        rfl
      · refine (Q_iload zm_207 (Or.inl (by decide)) D207_26 rfl).trans ?_
        refine (Q_aload_n zm_207 (Or.inl (by decide)) D207_28 rfl).trans ?_
        refine (Q_getI zm_207 (Or.inl (by decide)) D207_29 zf_10_451 (Or.inl zs_10_55) zk_127.1).trans ?_
        refine (Q_ic_lt (tgt := 36) zm_207 (Or.inl (by decide)) D207_32 (by decide)).trans ?_
        refine zif_c (fun h3_ => ?_) (fun h3_ => ?_)
        · refine (Q_aload_n zm_207 (Or.inl (by decide)) D207_36 rfl).trans ?_
          refine (Q_iload_n zm_207 (Or.inl (by decide)) D207_37 rfl).trans ?_
          refine (Q_putI zm_207 (Or.inl (by decide)) D207_38 zf_10_448 zs_10_54 rfl zk_127.1).trans ?_
          refine (Q_aload_n zm_207 (Or.inl (by decide)) D207_41 rfl).trans ?_
          refine (Q_iload zm_207 (Or.inl (by decide)) D207_42 rfl).trans ?_
          refine (Q_putI zm_207 (Or.inl (by decide)) D207_44 zf_10_451 zs_10_55 rfl zk_127.1).trans ?_
          refine (Q_iconst (v := 0) zm_207 (Or.inl (by decide)) D207_47 (by decide)).trans ?_
          refine (Q_istore (ls' := [some (.ref 127), some (.int i1), some (.int i2), some (.int i3), some (.int i4), some (.int (0 : Int32))]) zm_207 (Or.inl (by decide)) D207_48 rfl (Nat.le_of_ble_eq_true rfl) rfl).trans ?_
          rfl
        · exact Q_return zm_207 (Or.inl (by decide)) D207_35 rfl

theorem b207_80 {d : Nat} {i1 : Int32} {i2 : Int32} {i3 : Int32} {i4 : Int32} {i5 : Int32} {ia : Nat → Nat → Int32} {la : Nat → Nat → Int64} {pl dr : Nat} {cp : Option Nat} {cw : Option Nat} {rp : Option Nat} {K : Option Value → zHP → Prop}  : zWP (d + 1) 207 80 [some (.ref 127), some (.int i1), some (.int i2), some (.int i3), some (.int i4), some (.int i5)] [] (ia, la, zRA pl dr cp cw rp) K = (if (ia 129 0) ≤ i5 then (vp_in i1 6 ∧ zWM d 207 [.ref 127, .int (i1 + (1 : Int32)), .int i2, .int i3, .int i4] ((zu ia 159 (i1).toNatClampNeg (-2 : Int32)), la, zRA pl dr cp cw rp) (zK (d + 1) 207 180 [some (.ref 127), some (.int i1), some (.int i2), some (.int i3), some (.int i4), some (.int i5)] [] K)) else (if i5 = i1 then zWP (d + 1) 207 80 [some (.ref 127), some (.int i1), some (.int i2), some (.int i3), some (.int i4), some (.int (i5 + (1 : Int32)))] [] (ia, la, zRA pl dr cp cw rp) K else (if ((i2 >>> (i5 &&& 31)) &&& (1 : Int32)) = (1 : Int32) then zWP (d + 1) 207 80 [some (.ref 127), some (.int i1), some (.int i2), some (.int i3), some (.int i4), some (.int (i5 + (1 : Int32)))] [] (ia, la, zRA pl dr cp cw rp) K else zWM d 172 [.ref 127, .int (0 : Int32), .int i5] (ia, la, zRA pl dr cp cw rp) (zK (d + 1) 207 114 [some (.ref 127), some (.int i1), some (.int i2), some (.int i3), some (.int i4), some (.int i5)] [] K)))) := by
  refine (Q_iload zm_207 (Or.inl (by decide)) D207_80 rfl).trans ?_
  refine (Q_aload_n zm_207 (Or.inl (by decide)) D207_82 rfl).trans ?_
  refine (Q_getR (q := 129) zm_207 (Or.inl (by decide)) D207_83 zf_10_13 zs_10_3 zk_127.1 rfl).trans ?_
  refine (Q_iconst (v := 0) zm_207 (Or.inl (by decide)) D207_86 (by decide)).trans ?_
  refine ((Q_iaload zm_207 (Or.inl (by decide)) D207_87 zk_129.1 zk_129.2).trans (zdrop (zin_spec (by decide)))).trans ?_
  refine (Q_ic_ge (tgt := 161) zm_207 (Or.inl (by decide)) D207_88 (by decide)).trans ?_
  refine zif_c (fun h0_ => ?_) (fun h0_ => ?_)
  · refine (Q_aload_n zm_207 (Or.inl (by decide)) D207_161 rfl).trans ?_
    refine (Q_getR (q := 159) zm_207 (Or.inl (by decide)) D207_162 zf_10_114 zs_10_52 zk_127.1 rfl).trans ?_
    refine (Q_iload_n zm_207 (Or.inl (by decide)) D207_165 rfl).trans ?_
    refine (Q_bipush (v := -2) zm_207 (Or.inl (by decide)) D207_166 (by decide)).trans ?_
    refine (Q_iastore zm_207 (Or.inl (by decide)) D207_168 zk_159.1 zk_159.2).trans ?_
    refine zand_c (fun h1_ => ?_)
    refine (Q_aload_n zm_207 (Or.inl (by decide)) D207_169 rfl).trans ?_
    refine (Q_iload_n zm_207 (Or.inl (by decide)) D207_170 rfl).trans ?_
    refine (Q_iconst (v := 1) zm_207 (Or.inl (by decide)) D207_171 (by decide)).trans ?_
    refine (Q_iadd zm_207 (Or.inl (by decide)) D207_172).trans ?_
    refine (Q_iload_n zm_207 (Or.inl (by decide)) D207_173 rfl).trans ?_
    refine (Q_iload_n zm_207 (Or.inl (by decide)) D207_174 rfl).trans ?_
    refine (Q_iload zm_207 (Or.inl (by decide)) D207_175 rfl).trans ?_
    exact Q_callv (as := [.int (i1 + (1 : Int32)), .int i2, .int i3, .int i4]) (b := 127) (rest := []) zm_207 (Or.inl (by decide)) D207_177 zc_10_454 rfl zk_127.1 (by decide) (by decide +kernel) (by decide) (by simp [zcat, Value.category]) zm_207 rfl
  · refine (Q_iload zm_207 (Or.inl (by decide)) D207_91 rfl).trans ?_
    refine (Q_iload_n zm_207 (Or.inl (by decide)) D207_93 rfl).trans ?_
    refine (Q_ic_eq (tgt := 155) zm_207 (Or.inl (by decide)) D207_94 (by decide)).trans ?_
    refine zif_c (fun h2_ => ?_) (fun h2_ => ?_)
    · refine (Q_iinc (v := 1) (ls' := [some (.ref 127), some (.int i1), some (.int i2), some (.int i3), some (.int i4), some (.int (i5 + (1 : Int32)))]) zm_207 (Or.inl (by decide)) D207_155 rfl rfl (by decide) rfl).trans ?_
      refine (Q_goto (tgt := 80) zm_207 (Or.inl (by decide)) D207_158 (by decide)).trans ?_
      rfl
    · refine (Q_iload_n zm_207 (Or.inl (by decide)) D207_97 rfl).trans ?_
      refine (Q_iload zm_207 (Or.inl (by decide)) D207_98 rfl).trans ?_
      refine (Q_ishr zm_207 (Or.inl (by decide)) D207_100).trans ?_
      refine (Q_iconst (v := 1) zm_207 (Or.inl (by decide)) D207_101 (by decide)).trans ?_
      refine (Q_iand zm_207 (Or.inl (by decide)) D207_102).trans ?_
      refine (Q_iconst (v := 1) zm_207 (Or.inl (by decide)) D207_103 (by decide)).trans ?_
      refine (Q_ic_eq (tgt := 155) zm_207 (Or.inl (by decide)) D207_104 (by decide)).trans ?_
      refine zif_c (fun h3_ => ?_) (fun h3_ => ?_)
      · refine (Q_iinc (v := 1) (ls' := [some (.ref 127), some (.int i1), some (.int i2), some (.int i3), some (.int i4), some (.int (i5 + (1 : Int32)))]) zm_207 (Or.inl (by decide)) D207_155 rfl rfl (by decide) rfl).trans ?_
        refine (Q_goto (tgt := 80) zm_207 (Or.inl (by decide)) D207_158 (by decide)).trans ?_
        rfl
      · refine (Q_aload_n zm_207 (Or.inl (by decide)) D207_107 rfl).trans ?_
        refine (Q_iconst (v := 0) zm_207 (Or.inl (by decide)) D207_108 (by decide)).trans ?_
        refine (Q_iload zm_207 (Or.inl (by decide)) D207_109 rfl).trans ?_
        exact Q_callv (as := [.int (0 : Int32), .int i5]) (b := 127) (rest := []) zm_207 (Or.inl (by decide)) D207_111 zc_10_340 rfl zk_127.1 (by decide) (by decide +kernel) (by decide) (by simp [zcat, Value.category]) zm_172 rfl

theorem b207_50 {d : Nat} {i1 : Int32} {i2 : Int32} {i3 : Int32} {i4 : Int32} {i5 : Int32} {ia : Nat → Nat → Int32} {la : Nat → Nat → Int64} {pl dr : Nat} {cp : Option Nat} {cw : Option Nat} {rp : Option Nat} {K : Option Value → zHP → Prop}  : zWP d 207 50 [some (.ref 127), some (.int i1), some (.int i2), some (.int i3), some (.int i4), some (.int i5)] [] (ia, la, zRA pl dr cp cw rp) K = (if i1 ≤ i5 then K none (ia, la, zRA pl dr cp cw rp) else (vp_in i5 6 ∧ zWP d 207 50 [some (.ref 127), some (.int i1), some (.int i2), some (.int i3), some (.int i4), some (.int (i5 + (1 : Int32)))] [] ((zu ia 160 (i5).toNatClampNeg (ia 159 (i5).toNatClampNeg)), la, zRA pl dr cp cw rp) K)) := by
  refine (Q_iload zm_207 (Or.inl (by decide)) D207_50 rfl).trans ?_
  refine (Q_iload_n zm_207 (Or.inl (by decide)) D207_52 rfl).trans ?_
  refine (Q_ic_ge (tgt := 76) zm_207 (Or.inl (by decide)) D207_53 (by decide)).trans ?_
  refine zif_c (fun h0_ => ?_) (fun h0_ => ?_)
  · exact Q_return zm_207 (Or.inl (by decide)) D207_76 rfl
  · refine (Q_aload_n zm_207 (Or.inl (by decide)) D207_56 rfl).trans ?_
    refine (Q_getR (q := 160) zm_207 (Or.inl (by decide)) D207_57 zf_10_117 zs_10_53 zk_127.1 rfl).trans ?_
    refine (Q_iload zm_207 (Or.inl (by decide)) D207_60 rfl).trans ?_
    refine (Q_aload_n zm_207 (Or.inl (by decide)) D207_62 rfl).trans ?_
    refine (Q_getR (q := 159) zm_207 (Or.inl (by decide)) D207_63 zf_10_114 zs_10_52 zk_127.1 rfl).trans ?_
    refine (Q_iload zm_207 (Or.inl (by decide)) D207_66 rfl).trans ?_
    refine (Q_iaload zm_207 (Or.inl (by decide)) D207_68 zk_159.1 zk_159.2).trans ?_
    refine zand_c (fun h1_ => ?_)
    refine ((Q_iastore zm_207 (Or.inl (by decide)) D207_69 zk_160.1 zk_160.2).trans (zdrop h1_)).trans ?_
    refine (Q_iinc (v := 1) (ls' := [some (.ref 127), some (.int i1), some (.int i2), some (.int i3), some (.int i4), some (.int (i5 + (1 : Int32)))]) zm_207 (Or.inl (by decide)) D207_70 rfl rfl (by decide) rfl).trans ?_
    refine (Q_goto (tgt := 50) zm_207 (Or.inl (by decide)) D207_73 (by decide)).trans ?_
    rfl

theorem b207_180 {d : Nat} {i1 : Int32} {i2 : Int32} {i3 : Int32} {i4 : Int32} {i5 : Int32} {ia : Nat → Nat → Int32} {la : Nat → Nat → Int64} {pl dr : Nat} {cp : Option Nat} {cw : Option Nat} {rp : Option Nat} {K : Option Value → zHP → Prop}  : zWP d 207 180 [some (.ref 127), some (.int i1), some (.int i2), some (.int i3), some (.int i4), some (.int i5)] [] (ia, la, zRA pl dr cp cw rp) K = K none (ia, la, zRA pl dr cp cw rp) := by
  exact Q_return zm_207 (Or.inl (by decide)) D207_180 rfl

theorem b207_114 {d : Nat} {i1 : Int32} {i2 : Int32} {i3 : Int32} {i4 : Int32} {i5 : Int32} {s0 : Int32} {ia : Nat → Nat → Int32} {la : Nat → Nat → Int64} {pl dr : Nat} {cp : Option Nat} {cw : Option Nat} {rp : Option Nat} {K : Option Value → zHP → Prop}  : zWP (d + 1) 207 114 [some (.ref 127), some (.int i1), some (.int i2), some (.int i3), some (.int i4), some (.int i5)] [.int s0] (ia, la, zRA pl dr cp cw rp) K = (if s0 = 0 then (vp_in i1 6 ∧ zWM d 189 [.ref 127, .int (0 : Int32), .int i5, .int i1] ((zu ia 159 (i1).toNatClampNeg i5), la, zRA pl dr cp cw rp) (zK (d + 1) 207 151 [some (.ref 127), some (.int i1), some (.int i2), some (.int i3), some (.int i4), some (.int i5)] [.int i4, .int (i3 + (1 : Int32)), .int (i2 ||| ((1 : Int32) <<< (i5 &&& 31))), .int (i1 + (1 : Int32)), .ref 127] K)) else zWP (d + 1) 207 80 [some (.ref 127), some (.int i1), some (.int i2), some (.int i3), some (.int i4), some (.int (i5 + (1 : Int32)))] [] (ia, la, zRA pl dr cp cw rp) K) := by
  refine (Q_if_eq (tgt := 120) zm_207 (Or.inl (by decide)) D207_114 (by decide)).trans ?_
  refine zif_c (fun h0_ => ?_) (fun h0_ => ?_)
  · refine (Q_aload_n zm_207 (Or.inl (by decide)) D207_120 rfl).trans ?_
    refine (Q_getR (q := 159) zm_207 (Or.inl (by decide)) D207_121 zf_10_114 zs_10_52 zk_127.1 rfl).trans ?_
    refine (Q_iload_n zm_207 (Or.inl (by decide)) D207_124 rfl).trans ?_
    refine (Q_iload zm_207 (Or.inl (by decide)) D207_125 rfl).trans ?_
    refine (Q_iastore zm_207 (Or.inl (by decide)) D207_127 zk_159.1 zk_159.2).trans ?_
    refine zand_c (fun h1_ => ?_)
    refine (Q_aload_n zm_207 (Or.inl (by decide)) D207_128 rfl).trans ?_
    refine (Q_iload_n zm_207 (Or.inl (by decide)) D207_129 rfl).trans ?_
    refine (Q_iconst (v := 1) zm_207 (Or.inl (by decide)) D207_130 (by decide)).trans ?_
    refine (Q_iadd zm_207 (Or.inl (by decide)) D207_131).trans ?_
    refine (Q_iload_n zm_207 (Or.inl (by decide)) D207_132 rfl).trans ?_
    refine (Q_iconst (v := 1) zm_207 (Or.inl (by decide)) D207_133 (by decide)).trans ?_
    refine (Q_iload zm_207 (Or.inl (by decide)) D207_134 rfl).trans ?_
    refine (Q_ishl zm_207 (Or.inl (by decide)) D207_136).trans ?_
    refine (Q_ior zm_207 (Or.inl (by decide)) D207_137).trans ?_
    refine (Q_iload_n zm_207 (Or.inl (by decide)) D207_138 rfl).trans ?_
    refine (Q_iconst (v := 1) zm_207 (Or.inl (by decide)) D207_139 (by decide)).trans ?_
    refine (Q_iadd zm_207 (Or.inl (by decide)) D207_140).trans ?_
    refine (Q_iload zm_207 (Or.inl (by decide)) D207_141 rfl).trans ?_
    refine (Q_aload_n zm_207 (Or.inl (by decide)) D207_143 rfl).trans ?_
    refine (Q_iconst (v := 0) zm_207 (Or.inl (by decide)) D207_144 (by decide)).trans ?_
    refine (Q_iload zm_207 (Or.inl (by decide)) D207_145 rfl).trans ?_
    refine (Q_iload_n zm_207 (Or.inl (by decide)) D207_147 rfl).trans ?_
    exact Q_callv (as := [.int (0 : Int32), .int i5, .int i1]) (b := 127) (rest := [.int i4, .int (i3 + (1 : Int32)), .int (i2 ||| ((1 : Int32) <<< (i5 &&& 31))), .int (i1 + (1 : Int32)), .ref 127]) zm_207 (Or.inl (by decide)) D207_148 zc_10_438 rfl zk_127.1 (by decide) (by decide +kernel) (by decide) (by simp [zcat, Value.category]) zm_189 rfl
  · refine (Q_goto (tgt := 155) zm_207 (Or.inl (by decide)) D207_117 (by decide)).trans ?_
    refine (Q_iinc (v := 1) (ls' := [some (.ref 127), some (.int i1), some (.int i2), some (.int i3), some (.int i4), some (.int (i5 + (1 : Int32)))]) zm_207 (Or.inl (by decide)) D207_155 rfl rfl (by decide) rfl).trans ?_
    refine (Q_goto (tgt := 80) zm_207 (Or.inl (by decide)) D207_158 (by decide)).trans ?_
    rfl

theorem b207_151 {d : Nat} {i1 : Int32} {i2 : Int32} {i3 : Int32} {i4 : Int32} {i5 : Int32} {s1 : Int32} {s2 : Int32} {s3 : Int32} {s4 : Int32} {s5 : Int32} {ia : Nat → Nat → Int32} {la : Nat → Nat → Int64} {pl dr : Nat} {cp : Option Nat} {cw : Option Nat} {rp : Option Nat} {K : Option Value → zHP → Prop}  : zWP (d + 1) 207 151 [some (.ref 127), some (.int i1), some (.int i2), some (.int i3), some (.int i4), some (.int i5)] [.int s5, .int s4, .int s3, .int s2, .int s1, .ref 127] (ia, la, zRA pl dr cp cw rp) K = zWM d 207 [.ref 127, .int s1, .int s2, .int s3, .int (s4 + s5)] (ia, la, zRA pl dr cp cw rp) (zK (d + 1) 207 155 [some (.ref 127), some (.int i1), some (.int i2), some (.int i3), some (.int i4), some (.int i5)] [] K) := by
  refine (Q_iadd zm_207 (Or.inl (by decide)) D207_151).trans ?_
  exact Q_callv (as := [.int s1, .int s2, .int s3, .int (s4 + s5)]) (b := 127) (rest := []) zm_207 (Or.inl (by decide)) D207_152 zc_10_454 rfl zk_127.1 (by decide) (by decide +kernel) (by decide) (by simp [zcat, Value.category]) zm_207 rfl

theorem b207_155 {d : Nat} {i1 : Int32} {i2 : Int32} {i3 : Int32} {i4 : Int32} {i5 : Int32} {ia : Nat → Nat → Int32} {la : Nat → Nat → Int64} {pl dr : Nat} {cp : Option Nat} {cw : Option Nat} {rp : Option Nat} {K : Option Value → zHP → Prop}  : zWP d 207 155 [some (.ref 127), some (.int i1), some (.int i2), some (.int i3), some (.int i4), some (.int i5)] [] (ia, la, zRA pl dr cp cw rp) K = zWP d 207 80 [some (.ref 127), some (.int i1), some (.int i2), some (.int i3), some (.int i4), some (.int (i5 + (1 : Int32)))] [] (ia, la, zRA pl dr cp cw rp) K := by
  refine (Q_iinc (v := 1) (ls' := [some (.ref 127), some (.int i1), some (.int i2), some (.int i3), some (.int i4), some (.int (i5 + (1 : Int32)))]) zm_207 (Or.inl (by decide)) D207_155 rfl rfl (by decide) rfl).trans ?_
  refine (Q_goto (tgt := 80) zm_207 (Or.inl (by decide)) D207_158 (by decide)).trans ?_
  rfl

/-! HandsLetModel.match(I)I -/
theorem D208_0 : decode prog_12_method_82_code 0 = .ok (.aload_n 0, 1) := by decide +kernel
theorem D208_1 : decode prog_12_method_82_code 1 = .ok (.iconst 0, 1) := by decide +kernel
theorem D208_2 : decode prog_12_method_82_code 2 = .ok (.putfield 151, 3) := by decide +kernel
theorem D208_5 : decode prog_12_method_82_code 5 = .ok (.iload_n 1, 1) := by decide +kernel
theorem D208_6 : decode prog_12_method_82_code 6 = .ok (.ifCond .lt 9, 3) := by decide +kernel
theorem D208_9 : decode prog_12_method_82_code 9 = .ok (.iload_n 1, 1) := by decide +kernel
theorem D208_10 : decode prog_12_method_82_code 10 = .ok (.bipush 7, 2) := by decide +kernel
theorem D208_12 : decode prog_12_method_82_code 12 = .ok (.if_icmp .le 5, 3) := by decide +kernel
theorem D208_15 : decode prog_12_method_82_code 15 = .ok (.iconst (-1), 1) := by decide +kernel
theorem D208_16 : decode prog_12_method_82_code 16 = .ok (.ireturn, 1) := by decide +kernel
theorem D208_17 : decode prog_12_method_82_code 17 = .ok (.aload_n 0, 1) := by decide +kernel
theorem D208_18 : decode prog_12_method_82_code 18 = .ok (.iconst (-1), 1) := by decide +kernel
theorem D208_19 : decode prog_12_method_82_code 19 = .ok (.putfield 448, 3) := by decide +kernel
theorem D208_22 : decode prog_12_method_82_code 22 = .ok (.aload_n 0, 1) := by decide +kernel
theorem D208_23 : decode prog_12_method_82_code 23 = .ok (.iconst 0, 1) := by decide +kernel
theorem D208_24 : decode prog_12_method_82_code 24 = .ok (.putfield 451, 3) := by decide +kernel
theorem D208_27 : decode prog_12_method_82_code 27 = .ok (.aload_n 0, 1) := by decide +kernel
theorem D208_28 : decode prog_12_method_82_code 28 = .ok (.iconst 0, 1) := by decide +kernel
theorem D208_29 : decode prog_12_method_82_code 29 = .ok (.iconst 0, 1) := by decide +kernel
theorem D208_30 : decode prog_12_method_82_code 30 = .ok (.iconst 0, 1) := by decide +kernel
theorem D208_31 : decode prog_12_method_82_code 31 = .ok (.iconst 0, 1) := by decide +kernel
theorem D208_32 : decode prog_12_method_82_code 32 = .ok (.invokevirtual 454, 3) := by decide +kernel
theorem D208_35 : decode prog_12_method_82_code 35 = .ok (.iload_n 1, 1) := by decide +kernel
theorem D208_36 : decode prog_12_method_82_code 36 = .ok (.bipush 6, 2) := by decide +kernel
theorem D208_38 : decode prog_12_method_82_code 38 = .ok (.if_icmp .ne 10, 3) := by decide +kernel
theorem D208_41 : decode prog_12_method_82_code 41 = .ok (.aload_n 0, 1) := by decide +kernel
theorem D208_42 : decode prog_12_method_82_code 42 = .ok (.getfield 448, 3) := by decide +kernel
theorem D208_45 : decode prog_12_method_82_code 45 = .ok (.goto 37, 3) := by decide +kernel
theorem D208_48 : decode prog_12_method_82_code 48 = .ok (.iload_n 1, 1) := by decide +kernel
theorem D208_49 : decode prog_12_method_82_code 49 = .ok (.bipush 7, 2) := by decide +kernel
theorem D208_51 : decode prog_12_method_82_code 51 = .ok (.if_icmp .ne 10, 3) := by decide +kernel
theorem D208_54 : decode prog_12_method_82_code 54 = .ok (.aload_n 0, 1) := by decide +kernel
theorem D208_55 : decode prog_12_method_82_code 55 = .ok (.getfield 451, 3) := by decide +kernel
theorem D208_58 : decode prog_12_method_82_code 58 = .ok (.goto 24, 3) := by decide +kernel
theorem D208_61 : decode prog_12_method_82_code 61 = .ok (.iload_n 1, 1) := by decide +kernel
theorem D208_62 : decode prog_12_method_82_code 62 = .ok (.aload_n 0, 1) := by decide +kernel
theorem D208_63 : decode prog_12_method_82_code 63 = .ok (.getfield 13, 3) := by decide +kernel
theorem D208_66 : decode prog_12_method_82_code 66 = .ok (.iconst 0, 1) := by decide +kernel
theorem D208_67 : decode prog_12_method_82_code 67 = .ok (.iaload, 1) := by decide +kernel
theorem D208_68 : decode prog_12_method_82_code 68 = .ok (.if_icmp .ge 12, 3) := by decide +kernel
theorem D208_71 : decode prog_12_method_82_code 71 = .ok (.aload_n 0, 1) := by decide +kernel
theorem D208_72 : decode prog_12_method_82_code 72 = .ok (.getfield 117, 3) := by decide +kernel
theorem D208_75 : decode prog_12_method_82_code 75 = .ok (.iload_n 1, 1) := by decide +kernel
theorem D208_76 : decode prog_12_method_82_code 76 = .ok (.iaload, 1) := by decide +kernel
theorem D208_77 : decode prog_12_method_82_code 77 = .ok (.goto 5, 3) := by decide +kernel
theorem D208_80 : decode prog_12_method_82_code 80 = .ok (.bipush (-2), 2) := by decide +kernel
theorem D208_82 : decode prog_12_method_82_code 82 = .ok (.ireturn, 1) := by decide +kernel

theorem b208_0 {d : Nat} {i1 : Int32} {ia : Nat → Nat → Int32} {la : Nat → Nat → Int64} {pl dr : Nat} {cp : Option Nat} {cw : Option Nat} {rp : Option Nat} {K : Option Value → zHP → Prop}  : zWP (d + 1) 208 0 [some (.ref 127), some (.int i1)] [] (ia, la, zRA pl dr cp cw rp) K = (if i1 < 0 then K (some (.int (-1 : Int32))) ((zu ia 127 0 (0 : Int32)), la, zRA pl dr cp cw rp) else (if i1 ≤ (7 : Int32) then zWM d 207 [.ref 127, .int (0 : Int32), .int (0 : Int32), .int (0 : Int32), .int (0 : Int32)] ((zu (zu (zu ia 127 0 (0 : Int32)) 127 54 (-1 : Int32)) 127 55 (0 : Int32)), la, zRA pl dr cp cw rp) (zK (d + 1) 208 35 [some (.ref 127), some (.int i1)] [] K) else K (some (.int (-1 : Int32))) ((zu ia 127 0 (0 : Int32)), la, zRA pl dr cp cw rp))) := by
  refine (Q_aload_n zm_208 (Or.inl (by decide)) D208_0 rfl).trans ?_
  refine (Q_iconst (v := 0) zm_208 (Or.inl (by decide)) D208_1 (by decide)).trans ?_
  refine (Q_putI zm_208 (Or.inl (by decide)) D208_2 zf_10_151 zs_10_0 rfl zk_127.1).trans ?_
  refine (Q_iload_n zm_208 (Or.inl (by decide)) D208_5 rfl).trans ?_
  refine (Q_if_lt (tgt := 15) zm_208 (Or.inl (by decide)) D208_6 (by decide)).trans ?_
  refine zif_c (fun h0_ => ?_) (fun h0_ => ?_)
  · refine (Q_iconst (v := -1) zm_208 (Or.inl (by decide)) D208_15 (by decide)).trans ?_
    exact Q_ireturn zm_208 (Or.inl (by decide)) D208_16 rfl
  · refine (Q_iload_n zm_208 (Or.inl (by decide)) D208_9 rfl).trans ?_
    refine (Q_bipush (v := 7) zm_208 (Or.inl (by decide)) D208_10 (by decide)).trans ?_
    refine (Q_ic_le (tgt := 17) zm_208 (Or.inl (by decide)) D208_12 (by decide)).trans ?_
    refine zif_c (fun h1_ => ?_) (fun h1_ => ?_)
    · refine (Q_aload_n zm_208 (Or.inl (by decide)) D208_17 rfl).trans ?_
      refine (Q_iconst (v := -1) zm_208 (Or.inl (by decide)) D208_18 (by decide)).trans ?_
      refine (Q_putI zm_208 (Or.inl (by decide)) D208_19 zf_10_448 zs_10_54 rfl zk_127.1).trans ?_
      refine (Q_aload_n zm_208 (Or.inl (by decide)) D208_22 rfl).trans ?_
      refine (Q_iconst (v := 0) zm_208 (Or.inl (by decide)) D208_23 (by decide)).trans ?_
      refine (Q_putI zm_208 (Or.inl (by decide)) D208_24 zf_10_451 zs_10_55 rfl zk_127.1).trans ?_
      refine (Q_aload_n zm_208 (Or.inl (by decide)) D208_27 rfl).trans ?_
      refine (Q_iconst (v := 0) zm_208 (Or.inl (by decide)) D208_28 (by decide)).trans ?_
      refine (Q_iconst (v := 0) zm_208 (Or.inl (by decide)) D208_29 (by decide)).trans ?_
      refine (Q_iconst (v := 0) zm_208 (Or.inl (by decide)) D208_30 (by decide)).trans ?_
      refine (Q_iconst (v := 0) zm_208 (Or.inl (by decide)) D208_31 (by decide)).trans ?_
      exact Q_callv (as := [.int (0 : Int32), .int (0 : Int32), .int (0 : Int32), .int (0 : Int32)]) (b := 127) (rest := []) zm_208 (Or.inl (by decide)) D208_32 zc_10_454 rfl zk_127.1 (by decide) (by decide +kernel) (by decide) (by simp [zcat, Value.category]) zm_207 rfl
    · refine (Q_iconst (v := -1) zm_208 (Or.inl (by decide)) D208_15 (by decide)).trans ?_
      exact Q_ireturn zm_208 (Or.inl (by decide)) D208_16 rfl

theorem b208_35 {d : Nat} {i1 : Int32} {ia : Nat → Nat → Int32} {la : Nat → Nat → Int64} {pl dr : Nat} {cp : Option Nat} {cw : Option Nat} {rp : Option Nat} {K : Option Value → zHP → Prop}  : zWP d 208 35 [some (.ref 127), some (.int i1)] [] (ia, la, zRA pl dr cp cw rp) K = (if ¬ i1 = (6 : Int32) then (if ¬ i1 = (7 : Int32) then (if (ia 129 0) ≤ i1 then K (some (.int (-2 : Int32))) (ia, la, zRA pl dr cp cw rp) else (vp_in i1 6 ∧ K (some (.int (ia 160 (i1).toNatClampNeg))) (ia, la, zRA pl dr cp cw rp))) else K (some (.int (ia 127 55))) (ia, la, zRA pl dr cp cw rp)) else K (some (.int (ia 127 54))) (ia, la, zRA pl dr cp cw rp)) := by
  refine (Q_iload_n zm_208 (Or.inl (by decide)) D208_35 rfl).trans ?_
  refine (Q_bipush (v := 6) zm_208 (Or.inl (by decide)) D208_36 (by decide)).trans ?_
  refine (Q_ic_ne (tgt := 48) zm_208 (Or.inl (by decide)) D208_38 (by decide)).trans ?_
  refine zif_c (fun h0_ => ?_) (fun h0_ => ?_)
  · refine (Q_iload_n zm_208 (Or.inl (by decide)) D208_48 rfl).trans ?_
    refine (Q_bipush (v := 7) zm_208 (Or.inl (by decide)) D208_49 (by decide)).trans ?_
    refine (Q_ic_ne (tgt := 61) zm_208 (Or.inl (by decide)) D208_51 (by decide)).trans ?_
    refine zif_c (fun h1_ => ?_) (fun h1_ => ?_)
    · refine (Q_iload_n zm_208 (Or.inl (by decide)) D208_61 rfl).trans ?_
      refine (Q_aload_n zm_208 (Or.inl (by decide)) D208_62 rfl).trans ?_
      refine (Q_getR (q := 129) zm_208 (Or.inl (by decide)) D208_63 zf_10_13 zs_10_3 zk_127.1 rfl).trans ?_
      refine (Q_iconst (v := 0) zm_208 (Or.inl (by decide)) D208_66 (by decide)).trans ?_
      refine ((Q_iaload zm_208 (Or.inl (by decide)) D208_67 zk_129.1 zk_129.2).trans (zdrop (zin_spec (by decide)))).trans ?_
      refine (Q_ic_ge (tgt := 80) zm_208 (Or.inl (by decide)) D208_68 (by decide)).trans ?_
      refine zif_c (fun h2_ => ?_) (fun h2_ => ?_)
      · refine (Q_bipush (v := -2) zm_208 (Or.inl (by decide)) D208_80 (by decide)).trans ?_
        exact Q_ireturn zm_208 (Or.inl (by decide)) D208_82 rfl
      · refine (Q_aload_n zm_208 (Or.inl (by decide)) D208_71 rfl).trans ?_
        refine (Q_getR (q := 160) zm_208 (Or.inl (by decide)) D208_72 zf_10_117 zs_10_53 zk_127.1 rfl).trans ?_
        refine (Q_iload_n zm_208 (Or.inl (by decide)) D208_75 rfl).trans ?_
        refine (Q_iaload zm_208 (Or.inl (by decide)) D208_76 zk_160.1 zk_160.2).trans ?_
        refine zand_c (fun h3_ => ?_)
        refine (Q_goto (tgt := 82) zm_208 (Or.inl (by decide)) D208_77 (by decide)).trans ?_
        exact Q_ireturn zm_208 (Or.inl (by decide)) D208_82 rfl
    · refine (Q_aload_n zm_208 (Or.inl (by decide)) D208_54 rfl).trans ?_
      refine (Q_getI zm_208 (Or.inl (by decide)) D208_55 zf_10_451 (Or.inl zs_10_55) zk_127.1).trans ?_
      refine (Q_goto (tgt := 82) zm_208 (Or.inl (by decide)) D208_58 (by decide)).trans ?_
      exact Q_ireturn zm_208 (Or.inl (by decide)) D208_82 rfl
  · refine (Q_aload_n zm_208 (Or.inl (by decide)) D208_41 rfl).trans ?_
    refine (Q_getI zm_208 (Or.inl (by decide)) D208_42 zf_10_448 (Or.inl zs_10_54) zk_127.1).trans ?_
    refine (Q_goto (tgt := 82) zm_208 (Or.inl (by decide)) D208_45 (by decide)).trans ?_
    exact Q_ireturn zm_208 (Or.inl (by decide)) D208_82 rfl

/-! HandsLetModel.bidOf(II)I -/
theorem D209_0 : decode prog_12_method_83_code 0 = .ok (.iconst 0, 1) := by decide +kernel
theorem D209_1 : decode prog_12_method_83_code 1 = .ok (.aload_n 0, 1) := by decide +kernel
theorem D209_2 : decode prog_12_method_83_code 2 = .ok (.getfield 99, 3) := by decide +kernel
theorem D209_5 : decode prog_12_method_83_code 5 = .ok (.iload_n 2, 1) := by decide +kernel
theorem D209_6 : decode prog_12_method_83_code 6 = .ok (.iaload, 1) := by decide +kernel
theorem D209_7 : decode prog_12_method_83_code 7 = .ok (.bipush 99, 2) := by decide +kernel
theorem D209_9 : decode prog_12_method_83_code 9 = .ok (.aload_n 0, 1) := by decide +kernel
theorem D209_10 : decode prog_12_method_83_code 10 = .ok (.iconst 0, 1) := by decide +kernel
theorem D209_11 : decode prog_12_method_83_code 11 = .ok (.iload_n 1, 1) := by decide +kernel
theorem D209_12 : decode prog_12_method_83_code 12 = .ok (.iload_n 2, 1) := by decide +kernel
theorem D209_13 : decode prog_12_method_83_code 13 = .ok (.invokevirtual 438, 3) := by decide +kernel
theorem D209_16 : decode prog_12_method_83_code 16 = .ok (.sipush 1000, 3) := by decide +kernel
theorem D209_19 : decode prog_12_method_83_code 19 = .ok (.idiv, 1) := by decide +kernel
theorem D209_20 : decode prog_12_method_83_code 20 = .ok (.isub, 1) := by decide +kernel
theorem D209_21 : decode prog_12_method_83_code 21 = .ok (.invokestatic 372, 3) := by decide +kernel
theorem D209_24 : decode prog_12_method_83_code 24 = .ok (.invokestatic 384, 3) := by decide +kernel
theorem D209_27 : decode prog_12_method_83_code 27 = .ok (.ireturn, 1) := by decide +kernel

theorem b209_0 {d : Nat} {i1 : Int32} {i2 : Int32} {ia : Nat → Nat → Int32} {la : Nat → Nat → Int64} {pl dr : Nat} {cp : Option Nat} {cw : Option Nat} {rp : Option Nat} {K : Option Value → zHP → Prop}  : zWP (d + 1) 209 0 [some (.ref 127), some (.int i1), some (.int i2)] [] (ia, la, zRA pl dr cp cw rp) K = (vp_in i2 138 ∧ zWM d 189 [.ref 127, .int (0 : Int32), .int i1, .int i2] (ia, la, zRA pl dr cp cw rp) (zK (d + 1) 209 16 [some (.ref 127), some (.int i1), some (.int i2)] [.int (99 : Int32), .int (ia 156 (i2).toNatClampNeg), .int (0 : Int32)] K)) := by
  refine (Q_iconst (v := 0) zm_209 (Or.inl (by decide)) D209_0 (by decide)).trans ?_
  refine (Q_aload_n zm_209 (Or.inl (by decide)) D209_1 rfl).trans ?_
  refine (Q_getR (q := 156) zm_209 (Or.inl (by decide)) D209_2 zf_10_99 zs_10_44 zk_127.1 rfl).trans ?_
  refine (Q_iload_n zm_209 (Or.inl (by decide)) D209_5 rfl).trans ?_
  refine (Q_iaload zm_209 (Or.inl (by decide)) D209_6 zk_156.1 zk_156.2).trans ?_
  refine zand_c (fun h0_ => ?_)
  refine (Q_bipush (v := 99) zm_209 (Or.inl (by decide)) D209_7 (by decide)).trans ?_
  refine (Q_aload_n zm_209 (Or.inl (by decide)) D209_9 rfl).trans ?_
  refine (Q_iconst (v := 0) zm_209 (Or.inl (by decide)) D209_10 (by decide)).trans ?_
  refine (Q_iload_n zm_209 (Or.inl (by decide)) D209_11 rfl).trans ?_
  refine (Q_iload_n zm_209 (Or.inl (by decide)) D209_12 rfl).trans ?_
  exact Q_callv (as := [.int (0 : Int32), .int i1, .int i2]) (b := 127) (rest := [.int (99 : Int32), .int (ia 156 (i2).toNatClampNeg), .int (0 : Int32)]) zm_209 (Or.inl (by decide)) D209_13 zc_10_438 rfl zk_127.1 (by decide) (by decide +kernel) (by decide) (by simp [zcat, Value.category]) zm_189 rfl

theorem b209_16 {d : Nat} {i1 : Int32} {i2 : Int32} {s0 : Int32} {s1 : Int32} {s2 : Int32} {s3 : Int32} {ia : Nat → Nat → Int32} {la : Nat → Nat → Int64} {pl dr : Nat} {cp : Option Nat} {cw : Option Nat} {rp : Option Nat} {K : Option Value → zHP → Prop}  : zWP (d + 5) 209 16 [some (.ref 127), some (.int i1), some (.int i2)] [.int s3, .int s2, .int s1, .int s0] (ia, la, zRA pl dr cp cw rp) K = K (some (.int (if s0 < (if (s2 - (s3 / (1000 : Int32))) < s1 then (s2 - (s3 / (1000 : Int32))) else s1) then (if (s2 - (s3 / (1000 : Int32))) < s1 then (s2 - (s3 / (1000 : Int32))) else s1) else s0))) (ia, la, zRA pl dr cp cw rp) := by
  refine (Q_sipush (v := 1000) zm_209 (Or.inl (by decide)) D209_16 (by decide)).trans ?_
  refine (Q_idiv zm_209 (Or.inl (by decide)) D209_19 (by decide)).trans ?_
  refine (Q_isub zm_209 (Or.inl (by decide)) D209_20).trans ?_
  refine (Q_bis (as := [.int s1, .int (s2 - (s3 / (1000 : Int32)))]) (rest := [.int s0]) zm_209 (Or.inl (by decide)) D209_21 zc_10_372 rfl (by decide) (by simp [zcat, Value.category]) rfl).trans ?_
  refine (Q_bis (as := [.int s0, .int (if (s2 - (s3 / (1000 : Int32))) < s1 then (s2 - (s3 / (1000 : Int32))) else s1)]) (rest := []) zm_209 (Or.inl (by decide)) D209_24 zc_10_384 rfl (by decide) (by simp [zcat, Value.category]) rfl).trans ?_
  exact Q_ireturn zm_209 (Or.inl (by decide)) D209_27 rfl

/-! HandsLetModel.auction(II)I -/
theorem D210_0 : decode prog_12_method_84_code 0 = .ok (.aload_n 0, 1) := by decide +kernel
theorem D210_1 : decode prog_12_method_84_code 1 = .ok (.iconst 0, 1) := by decide +kernel
theorem D210_2 : decode prog_12_method_84_code 2 = .ok (.putfield 151, 3) := by decide +kernel
theorem D210_5 : decode prog_12_method_84_code 5 = .ok (.aload_n 0, 1) := by decide +kernel
theorem D210_6 : decode prog_12_method_84_code 6 = .ok (.iload_n 1, 1) := by decide +kernel
theorem D210_7 : decode prog_12_method_84_code 7 = .ok (.invokevirtual 413, 3) := by decide +kernel
theorem D210_10 : decode prog_12_method_84_code 10 = .ok (.ifCond .eq 12, 3) := by decide +kernel
theorem D210_13 : decode prog_12_method_84_code 13 = .ok (.iload_n 2, 1) := by decide +kernel
theorem D210_14 : decode prog_12_method_84_code 14 = .ok (.ifCond .lt 8, 3) := by decide +kernel
theorem D210_17 : decode prog_12_method_84_code 17 = .ok (.iload_n 2, 1) := by decide +kernel
theorem D210_18 : decode prog_12_method_84_code 18 = .ok (.iconst 1, 1) := by decide +kernel
theorem D210_19 : decode prog_12_method_84_code 19 = .ok (.if_icmp .le 5, 3) := by decide +kernel
theorem D210_22 : decode prog_12_method_84_code 22 = .ok (.iconst (-1), 1) := by decide +kernel
theorem D210_23 : decode prog_12_method_84_code 23 = .ok (.ireturn, 1) := by decide +kernel
theorem D210_24 : decode prog_12_method_84_code 24 = .ok (.bipush (-2), 2) := by decide +kernel
theorem D210_26 : decode prog_12_method_84_code 26 = .ok (.istore_n 3, 1) := by decide +kernel
theorem D210_27 : decode prog_12_method_84_code 27 = .ok (.iconst 0, 1) := by decide +kernel
theorem D210_28 : decode prog_12_method_84_code 28 = .ok (.istore 4, 2) := by decide +kernel
theorem D210_30 : decode prog_12_method_84_code 30 = .ok (.iload 4, 2) := by decide +kernel
theorem D210_32 : decode prog_12_method_84_code 32 = .ok (.aload_n 0, 1) := by decide +kernel
theorem D210_33 : decode prog_12_method_84_code 33 = .ok (.getfield 13, 3) := by decide +kernel
theorem D210_36 : decode prog_12_method_84_code 36 = .ok (.iconst 0, 1) := by decide +kernel
theorem D210_37 : decode prog_12_method_84_code 37 = .ok (.iaload, 1) := by decide +kernel
theorem D210_38 : decode prog_12_method_84_code 38 = .ok (.if_icmp .ge 38, 3) := by decide +kernel
theorem D210_41 : decode prog_12_method_84_code 41 = .ok (.iload 4, 2) := by decide +kernel
theorem D210_43 : decode prog_12_method_84_code 43 = .ok (.iload_n 1, 1) := by decide +kernel
theorem D210_44 : decode prog_12_method_84_code 44 = .ok (.if_icmp .eq 26, 3) := by decide +kernel
theorem D210_47 : decode prog_12_method_84_code 47 = .ok (.iload_n 3, 1) := by decide +kernel
theorem D210_48 : decode prog_12_method_84_code 48 = .ok (.ifCond .lt 19, 3) := by decide +kernel
theorem D210_51 : decode prog_12_method_84_code 51 = .ok (.aload_n 0, 1) := by decide +kernel
theorem D210_52 : decode prog_12_method_84_code 52 = .ok (.iload_n 1, 1) := by decide +kernel
theorem D210_53 : decode prog_12_method_84_code 53 = .ok (.iload 4, 2) := by decide +kernel
theorem D210_55 : decode prog_12_method_84_code 55 = .ok (.invokevirtual 457, 3) := by decide +kernel
theorem D210_58 : decode prog_12_method_84_code 58 = .ok (.aload_n 0, 1) := by decide +kernel
theorem D210_59 : decode prog_12_method_84_code 59 = .ok (.iload_n 1, 1) := by decide +kernel
theorem D210_60 : decode prog_12_method_84_code 60 = .ok (.iload_n 3, 1) := by decide +kernel
theorem D210_61 : decode prog_12_method_84_code 61 = .ok (.invokevirtual 457, 3) := by decide +kernel
theorem D210_64 : decode prog_12_method_84_code 64 = .ok (.if_icmp .le 6, 3) := by decide +kernel
theorem D210_67 : decode prog_12_method_84_code 67 = .ok (.iload 4, 2) := by decide +kernel
theorem D210_69 : decode prog_12_method_84_code 69 = .ok (.istore_n 3, 1) := by decide +kernel
theorem D210_70 : decode prog_12_method_84_code 70 = .ok (.iinc 4 1, 3) := by decide +kernel
theorem D210_73 : decode prog_12_method_84_code 73 = .ok (.goto (-43), 3) := by decide +kernel
theorem D210_76 : decode prog_12_method_84_code 76 = .ok (.iload_n 3, 1) := by decide +kernel
theorem D210_77 : decode prog_12_method_84_code 77 = .ok (.ifCond .lt 7, 3) := by decide +kernel
theorem D210_80 : decode prog_12_method_84_code 80 = .ok (.iload_n 2, 1) := by decide +kernel
theorem D210_81 : decode prog_12_method_84_code 81 = .ok (.ifCond .ne 5, 3) := by decide +kernel
theorem D210_84 : decode prog_12_method_84_code 84 = .ok (.iload_n 3, 1) := by decide +kernel
theorem D210_85 : decode prog_12_method_84_code 85 = .ok (.ireturn, 1) := by decide +kernel
theorem D210_86 : decode prog_12_method_84_code 86 = .ok (.iconst 0, 1) := by decide +kernel
theorem D210_87 : decode prog_12_method_84_code 87 = .ok (.istore 4, 2) := by decide +kernel
theorem D210_89 : decode prog_12_method_84_code 89 = .ok (.iconst 0, 1) := by decide +kernel
theorem D210_90 : decode prog_12_method_84_code 90 = .ok (.istore 5, 2) := by decide +kernel
theorem D210_92 : decode prog_12_method_84_code 92 = .ok (.iload 5, 2) := by decide +kernel
theorem D210_94 : decode prog_12_method_84_code 94 = .ok (.aload_n 0, 1) := by decide +kernel
theorem D210_95 : decode prog_12_method_84_code 95 = .ok (.getfield 13, 3) := by decide +kernel
theorem D210_98 : decode prog_12_method_84_code 98 = .ok (.iconst 0, 1) := by decide +kernel
theorem D210_99 : decode prog_12_method_84_code 99 = .ok (.iaload, 1) := by decide +kernel
theorem D210_100 : decode prog_12_method_84_code 100 = .ok (.if_icmp .ge 35, 3) := by decide +kernel
theorem D210_103 : decode prog_12_method_84_code 103 = .ok (.iload 5, 2) := by decide +kernel
theorem D210_105 : decode prog_12_method_84_code 105 = .ok (.iload_n 1, 1) := by decide +kernel
theorem D210_106 : decode prog_12_method_84_code 106 = .ok (.if_icmp .eq 23, 3) := by decide +kernel
theorem D210_109 : decode prog_12_method_84_code 109 = .ok (.iload 5, 2) := by decide +kernel
theorem D210_111 : decode prog_12_method_84_code 111 = .ok (.iload_n 3, 1) := by decide +kernel
theorem D210_112 : decode prog_12_method_84_code 112 = .ok (.if_icmp .eq 17, 3) := by decide +kernel
theorem D210_115 : decode prog_12_method_84_code 115 = .ok (.iload 4, 2) := by decide +kernel
theorem D210_117 : decode prog_12_method_84_code 117 = .ok (.aload_n 0, 1) := by decide +kernel
theorem D210_118 : decode prog_12_method_84_code 118 = .ok (.iload_n 1, 1) := by decide +kernel
theorem D210_119 : decode prog_12_method_84_code 119 = .ok (.iload 5, 2) := by decide +kernel
theorem D210_121 : decode prog_12_method_84_code 121 = .ok (.invokevirtual 457, 3) := by decide +kernel
theorem D210_124 : decode prog_12_method_84_code 124 = .ok (.invokestatic 384, 3) := by decide +kernel
theorem D210_127 : decode prog_12_method_84_code 127 = .ok (.istore 4, 2) := by decide +kernel
theorem D210_129 : decode prog_12_method_84_code 129 = .ok (.iinc 5 1, 3) := by decide +kernel
theorem D210_132 : decode prog_12_method_84_code 132 = .ok (.goto (-40), 3) := by decide +kernel
theorem D210_135 : decode prog_12_method_84_code 135 = .ok (.iload 4, 2) := by decide +kernel
theorem D210_137 : decode prog_12_method_84_code 137 = .ok (.ireturn, 1) := by decide +kernel

theorem b210_0 {d : Nat} {i1 : Int32} {i2 : Int32} {ia : Nat → Nat → Int32} {la : Nat → Nat → Int64} {pl dr : Nat} {cp : Option Nat} {cw : Option Nat} {rp : Option Nat} {K : Option Value → zHP → Prop}  : zWP (d + 1) 210 0 [some (.ref 127), some (.int i1), some (.int i2), none, none, none] [] (ia, la, zRA pl dr cp cw rp) K = zWM d 171 [.ref 127, .int i1] ((zu ia 127 0 (0 : Int32)), la, zRA pl dr cp cw rp) (zK (d + 1) 210 10 [some (.ref 127), some (.int i1), some (.int i2), none, none, none] [] K) := by
  refine (Q_aload_n zm_210 (Or.inl (by decide)) D210_0 rfl).trans ?_
  refine (Q_iconst (v := 0) zm_210 (Or.inl (by decide)) D210_1 (by decide)).trans ?_
  refine (Q_putI zm_210 (Or.inl (by decide)) D210_2 zf_10_151 zs_10_0 rfl zk_127.1).trans ?_
  refine (Q_aload_n zm_210 (Or.inl (by decide)) D210_5 rfl).trans ?_
  refine (Q_iload_n zm_210 (Or.inl (by decide)) D210_6 rfl).trans ?_
  exact Q_callv (as := [.int i1]) (b := 127) (rest := []) zm_210 (Or.inl (by decide)) D210_7 zc_10_413 rfl zk_127.1 (by decide) (by decide +kernel) (by decide) (by simp [zcat, Value.category]) zm_171 rfl

theorem b210_10 {d : Nat} {i1 : Int32} {i2 : Int32} {s0 : Int32} {ia : Nat → Nat → Int32} {la : Nat → Nat → Int64} {pl dr : Nat} {cp : Option Nat} {cw : Option Nat} {rp : Option Nat} {K : Option Value → zHP → Prop}  : zWP d 210 10 [some (.ref 127), some (.int i1), some (.int i2), none, none, none] [.int s0] (ia, la, zRA pl dr cp cw rp) K = (if s0 = 0 then K (some (.int (-1 : Int32))) (ia, la, zRA pl dr cp cw rp) else (if i2 < 0 then K (some (.int (-1 : Int32))) (ia, la, zRA pl dr cp cw rp) else (if i2 ≤ (1 : Int32) then zWP d 210 30 [some (.ref 127), some (.int i1), some (.int i2), some (.int (-2 : Int32)), some (.int (0 : Int32)), none] [] (ia, la, zRA pl dr cp cw rp) K else K (some (.int (-1 : Int32))) (ia, la, zRA pl dr cp cw rp)))) := by
  refine (Q_if_eq (tgt := 22) zm_210 (Or.inl (by decide)) D210_10 (by decide)).trans ?_
  refine zif_c (fun h0_ => ?_) (fun h0_ => ?_)
  · refine (Q_iconst (v := -1) zm_210 (Or.inl (by decide)) D210_22 (by decide)).trans ?_
    exact Q_ireturn zm_210 (Or.inl (by decide)) D210_23 rfl
  · refine (Q_iload_n zm_210 (Or.inl (by decide)) D210_13 rfl).trans ?_
    refine (Q_if_lt (tgt := 22) zm_210 (Or.inl (by decide)) D210_14 (by decide)).trans ?_
    refine zif_c (fun h1_ => ?_) (fun h1_ => ?_)
    · refine (Q_iconst (v := -1) zm_210 (Or.inl (by decide)) D210_22 (by decide)).trans ?_
      exact Q_ireturn zm_210 (Or.inl (by decide)) D210_23 rfl
    · refine (Q_iload_n zm_210 (Or.inl (by decide)) D210_17 rfl).trans ?_
      refine (Q_iconst (v := 1) zm_210 (Or.inl (by decide)) D210_18 (by decide)).trans ?_
      refine (Q_ic_le (tgt := 24) zm_210 (Or.inl (by decide)) D210_19 (by decide)).trans ?_
      refine zif_c (fun h2_ => ?_) (fun h2_ => ?_)
      · refine (Q_bipush (v := -2) zm_210 (Or.inl (by decide)) D210_24 (by decide)).trans ?_
        refine (Q_istore_n (ls' := [some (.ref 127), some (.int i1), some (.int i2), some (.int (-2 : Int32)), none, none]) zm_210 (Or.inl (by decide)) D210_26 rfl (Nat.le_of_ble_eq_true rfl) rfl).trans ?_
        refine (Q_iconst (v := 0) zm_210 (Or.inl (by decide)) D210_27 (by decide)).trans ?_
        refine (Q_istore (ls' := [some (.ref 127), some (.int i1), some (.int i2), some (.int (-2 : Int32)), some (.int (0 : Int32)), none]) zm_210 (Or.inl (by decide)) D210_28 rfl (Nat.le_of_ble_eq_true rfl) rfl).trans ?_
        rfl
      · refine (Q_iconst (v := -1) zm_210 (Or.inl (by decide)) D210_22 (by decide)).trans ?_
        exact Q_ireturn zm_210 (Or.inl (by decide)) D210_23 rfl

theorem b210_30 {d : Nat} {i1 : Int32} {i2 : Int32} {i3 : Int32} {i4 : Int32} {ia : Nat → Nat → Int32} {la : Nat → Nat → Int64} {pl dr : Nat} {cp : Option Nat} {cw : Option Nat} {rp : Option Nat} {K : Option Value → zHP → Prop}  : zWP (d + 1) 210 30 [some (.ref 127), some (.int i1), some (.int i2), some (.int i3), some (.int i4), none] [] (ia, la, zRA pl dr cp cw rp) K = (if (ia 129 0) ≤ i4 then (if i3 < 0 then K (some (.int i3)) (ia, la, zRA pl dr cp cw rp) else (if ¬ i2 = 0 then zWP (d + 1) 210 92 [some (.ref 127), some (.int i1), some (.int i2), some (.int i3), some (.int (0 : Int32)), some (.int (0 : Int32))] [] (ia, la, zRA pl dr cp cw rp) K else K (some (.int i3)) (ia, la, zRA pl dr cp cw rp))) else (if i4 = i1 then zWP (d + 1) 210 30 [some (.ref 127), some (.int i1), some (.int i2), some (.int i3), some (.int (i4 + (1 : Int32))), none] [] (ia, la, zRA pl dr cp cw rp) K else (if i3 < 0 then zWP (d + 1) 210 30 [some (.ref 127), some (.int i1), some (.int i2), some (.int i4), some (.int (i4 + (1 : Int32))), none] [] (ia, la, zRA pl dr cp cw rp) K else zWM d 209 [.ref 127, .int i1, .int i4] (ia, la, zRA pl dr cp cw rp) (zK (d + 1) 210 58 [some (.ref 127), some (.int i1), some (.int i2), some (.int i3), some (.int i4), none] [] K)))) := by
  refine (Q_iload zm_210 (Or.inl (by decide)) D210_30 rfl).trans ?_
  refine (Q_aload_n zm_210 (Or.inl (by decide)) D210_32 rfl).trans ?_
  refine (Q_getR (q := 129) zm_210 (Or.inl (by decide)) D210_33 zf_10_13 zs_10_3 zk_127.1 rfl).trans ?_
  refine (Q_iconst (v := 0) zm_210 (Or.inl (by decide)) D210_36 (by decide)).trans ?_
  refine ((Q_iaload zm_210 (Or.inl (by decide)) D210_37 zk_129.1 zk_129.2).trans (zdrop (zin_spec (by decide)))).trans ?_
  refine (Q_ic_ge (tgt := 76) zm_210 (Or.inl (by decide)) D210_38 (by decide)).trans ?_
  refine zif_c (fun h0_ => ?_) (fun h0_ => ?_)
  · refine (Q_iload_n zm_210 (Or.inl (by decide)) D210_76 rfl).trans ?_
    refine (Q_if_lt (tgt := 84) zm_210 (Or.inl (by decide)) D210_77 (by decide)).trans ?_
    refine zif_c (fun h1_ => ?_) (fun h1_ => ?_)
    · refine (Q_iload_n zm_210 (Or.inl (by decide)) D210_84 rfl).trans ?_
      exact Q_ireturn zm_210 (Or.inl (by decide)) D210_85 rfl
    · refine (Q_iload_n zm_210 (Or.inl (by decide)) D210_80 rfl).trans ?_
      refine (Q_if_ne (tgt := 86) zm_210 (Or.inl (by decide)) D210_81 (by decide)).trans ?_
      refine zif_c (fun h2_ => ?_) (fun h2_ => ?_)
      · refine (Q_iconst (v := 0) zm_210 (Or.inl (by decide)) D210_86 (by decide)).trans ?_
        refine (Q_istore (ls' := [some (.ref 127), some (.int i1), some (.int i2), some (.int i3), some (.int (0 : Int32)), none]) zm_210 (Or.inl (by decide)) D210_87 rfl (Nat.le_of_ble_eq_true rfl) rfl).trans ?_
        refine (Q_iconst (v := 0) zm_210 (Or.inl (by decide)) D210_89 (by decide)).trans ?_
        refine (Q_istore (ls' := [some (.ref 127), some (.int i1), some (.int i2), some (.int i3), some (.int (0 : Int32)), some (.int (0 : Int32))]) zm_210 (Or.inl (by decide)) D210_90 rfl (Nat.le_of_ble_eq_true rfl) rfl).trans ?_
        rfl
      · refine (Q_iload_n zm_210 (Or.inl (by decide)) D210_84 rfl).trans ?_
        exact Q_ireturn zm_210 (Or.inl (by decide)) D210_85 rfl
  · refine (Q_iload zm_210 (Or.inl (by decide)) D210_41 rfl).trans ?_
    refine (Q_iload_n zm_210 (Or.inl (by decide)) D210_43 rfl).trans ?_
    refine (Q_ic_eq (tgt := 70) zm_210 (Or.inl (by decide)) D210_44 (by decide)).trans ?_
    refine zif_c (fun h3_ => ?_) (fun h3_ => ?_)
    · refine (Q_iinc (v := 1) (ls' := [some (.ref 127), some (.int i1), some (.int i2), some (.int i3), some (.int (i4 + (1 : Int32))), none]) zm_210 (Or.inl (by decide)) D210_70 rfl rfl (by decide) rfl).trans ?_
      refine (Q_goto (tgt := 30) zm_210 (Or.inl (by decide)) D210_73 (by decide)).trans ?_
      rfl
    · refine (Q_iload_n zm_210 (Or.inl (by decide)) D210_47 rfl).trans ?_
      refine (Q_if_lt (tgt := 67) zm_210 (Or.inl (by decide)) D210_48 (by decide)).trans ?_
      refine zif_c (fun h4_ => ?_) (fun h4_ => ?_)
      · refine (Q_iload zm_210 (Or.inl (by decide)) D210_67 rfl).trans ?_
        refine (Q_istore_n (ls' := [some (.ref 127), some (.int i1), some (.int i2), some (.int i4), some (.int i4), none]) zm_210 (Or.inl (by decide)) D210_69 rfl (Nat.le_of_ble_eq_true rfl) rfl).trans ?_
        refine (Q_iinc (v := 1) (ls' := [some (.ref 127), some (.int i1), some (.int i2), some (.int i4), some (.int (i4 + (1 : Int32))), none]) zm_210 (Or.inl (by decide)) D210_70 rfl rfl (by decide) rfl).trans ?_
        refine (Q_goto (tgt := 30) zm_210 (Or.inl (by decide)) D210_73 (by decide)).trans ?_
        rfl
      · refine (Q_aload_n zm_210 (Or.inl (by decide)) D210_51 rfl).trans ?_
        refine (Q_iload_n zm_210 (Or.inl (by decide)) D210_52 rfl).trans ?_
        refine (Q_iload zm_210 (Or.inl (by decide)) D210_53 rfl).trans ?_
        exact Q_callv (as := [.int i1, .int i4]) (b := 127) (rest := []) zm_210 (Or.inl (by decide)) D210_55 zc_10_457 rfl zk_127.1 (by decide) (by decide +kernel) (by decide) (by simp [zcat, Value.category]) zm_209 rfl

theorem b210_92 {d : Nat} {i1 : Int32} {i2 : Int32} {i3 : Int32} {i4 : Int32} {i5 : Int32} {ia : Nat → Nat → Int32} {la : Nat → Nat → Int64} {pl dr : Nat} {cp : Option Nat} {cw : Option Nat} {rp : Option Nat} {K : Option Value → zHP → Prop}  : zWP (d + 1) 210 92 [some (.ref 127), some (.int i1), some (.int i2), some (.int i3), some (.int i4), some (.int i5)] [] (ia, la, zRA pl dr cp cw rp) K = (if (ia 129 0) ≤ i5 then K (some (.int i4)) (ia, la, zRA pl dr cp cw rp) else (if i5 = i1 then zWP (d + 1) 210 92 [some (.ref 127), some (.int i1), some (.int i2), some (.int i3), some (.int i4), some (.int (i5 + (1 : Int32)))] [] (ia, la, zRA pl dr cp cw rp) K else (if i5 = i3 then zWP (d + 1) 210 92 [some (.ref 127), some (.int i1), some (.int i2), some (.int i3), some (.int i4), some (.int (i5 + (1 : Int32)))] [] (ia, la, zRA pl dr cp cw rp) K else zWM d 209 [.ref 127, .int i1, .int i5] (ia, la, zRA pl dr cp cw rp) (zK (d + 1) 210 124 [some (.ref 127), some (.int i1), some (.int i2), some (.int i3), some (.int i4), some (.int i5)] [.int i4] K)))) := by
  refine (Q_iload zm_210 (Or.inl (by decide)) D210_92 rfl).trans ?_
  refine (Q_aload_n zm_210 (Or.inl (by decide)) D210_94 rfl).trans ?_
  refine (Q_getR (q := 129) zm_210 (Or.inl (by decide)) D210_95 zf_10_13 zs_10_3 zk_127.1 rfl).trans ?_
  refine (Q_iconst (v := 0) zm_210 (Or.inl (by decide)) D210_98 (by decide)).trans ?_
  refine ((Q_iaload zm_210 (Or.inl (by decide)) D210_99 zk_129.1 zk_129.2).trans (zdrop (zin_spec (by decide)))).trans ?_
  refine (Q_ic_ge (tgt := 135) zm_210 (Or.inl (by decide)) D210_100 (by decide)).trans ?_
  refine zif_c (fun h0_ => ?_) (fun h0_ => ?_)
  · refine (Q_iload zm_210 (Or.inl (by decide)) D210_135 rfl).trans ?_
    exact Q_ireturn zm_210 (Or.inl (by decide)) D210_137 rfl
  · refine (Q_iload zm_210 (Or.inl (by decide)) D210_103 rfl).trans ?_
    refine (Q_iload_n zm_210 (Or.inl (by decide)) D210_105 rfl).trans ?_
    refine (Q_ic_eq (tgt := 129) zm_210 (Or.inl (by decide)) D210_106 (by decide)).trans ?_
    refine zif_c (fun h1_ => ?_) (fun h1_ => ?_)
    · refine (Q_iinc (v := 1) (ls' := [some (.ref 127), some (.int i1), some (.int i2), some (.int i3), some (.int i4), some (.int (i5 + (1 : Int32)))]) zm_210 (Or.inl (by decide)) D210_129 rfl rfl (by decide) rfl).trans ?_
      refine (Q_goto (tgt := 92) zm_210 (Or.inl (by decide)) D210_132 (by decide)).trans ?_
      rfl
    · refine (Q_iload zm_210 (Or.inl (by decide)) D210_109 rfl).trans ?_
      refine (Q_iload_n zm_210 (Or.inl (by decide)) D210_111 rfl).trans ?_
      refine (Q_ic_eq (tgt := 129) zm_210 (Or.inl (by decide)) D210_112 (by decide)).trans ?_
      refine zif_c (fun h2_ => ?_) (fun h2_ => ?_)
      · refine (Q_iinc (v := 1) (ls' := [some (.ref 127), some (.int i1), some (.int i2), some (.int i3), some (.int i4), some (.int (i5 + (1 : Int32)))]) zm_210 (Or.inl (by decide)) D210_129 rfl rfl (by decide) rfl).trans ?_
        refine (Q_goto (tgt := 92) zm_210 (Or.inl (by decide)) D210_132 (by decide)).trans ?_
        rfl
      · refine (Q_iload zm_210 (Or.inl (by decide)) D210_115 rfl).trans ?_
        refine (Q_aload_n zm_210 (Or.inl (by decide)) D210_117 rfl).trans ?_
        refine (Q_iload_n zm_210 (Or.inl (by decide)) D210_118 rfl).trans ?_
        refine (Q_iload zm_210 (Or.inl (by decide)) D210_119 rfl).trans ?_
        exact Q_callv (as := [.int i1, .int i5]) (b := 127) (rest := [.int i4]) zm_210 (Or.inl (by decide)) D210_121 zc_10_457 rfl zk_127.1 (by decide) (by decide +kernel) (by decide) (by simp [zcat, Value.category]) zm_209 rfl

theorem b210_58 {d : Nat} {i1 : Int32} {i2 : Int32} {i3 : Int32} {i4 : Int32} {s0 : Int32} {ia : Nat → Nat → Int32} {la : Nat → Nat → Int64} {pl dr : Nat} {cp : Option Nat} {cw : Option Nat} {rp : Option Nat} {K : Option Value → zHP → Prop}  : zWP (d + 1) 210 58 [some (.ref 127), some (.int i1), some (.int i2), some (.int i3), some (.int i4), none] [.int s0] (ia, la, zRA pl dr cp cw rp) K = zWM d 209 [.ref 127, .int i1, .int i3] (ia, la, zRA pl dr cp cw rp) (zK (d + 1) 210 64 [some (.ref 127), some (.int i1), some (.int i2), some (.int i3), some (.int i4), none] [.int s0] K) := by
  refine (Q_aload_n zm_210 (Or.inl (by decide)) D210_58 rfl).trans ?_
  refine (Q_iload_n zm_210 (Or.inl (by decide)) D210_59 rfl).trans ?_
  refine (Q_iload_n zm_210 (Or.inl (by decide)) D210_60 rfl).trans ?_
  exact Q_callv (as := [.int i1, .int i3]) (b := 127) (rest := [.int s0]) zm_210 (Or.inl (by decide)) D210_61 zc_10_457 rfl zk_127.1 (by decide) (by decide +kernel) (by decide) (by simp [zcat, Value.category]) zm_209 rfl

theorem b210_124 {d : Nat} {i1 : Int32} {i2 : Int32} {i3 : Int32} {i4 : Int32} {i5 : Int32} {s0 : Int32} {s1 : Int32} {ia : Nat → Nat → Int32} {la : Nat → Nat → Int64} {pl dr : Nat} {cp : Option Nat} {cw : Option Nat} {rp : Option Nat} {K : Option Value → zHP → Prop}  : zWP (d + 5) 210 124 [some (.ref 127), some (.int i1), some (.int i2), some (.int i3), some (.int i4), some (.int i5)] [.int s1, .int s0] (ia, la, zRA pl dr cp cw rp) K = zWP (d + 5) 210 92 [some (.ref 127), some (.int i1), some (.int i2), some (.int i3), some (.int (if s0 < s1 then s1 else s0)), some (.int (i5 + (1 : Int32)))] [] (ia, la, zRA pl dr cp cw rp) K := by
  refine (Q_bis (as := [.int s0, .int s1]) (rest := []) zm_210 (Or.inl (by decide)) D210_124 zc_10_384 rfl (by decide) (by simp [zcat, Value.category]) rfl).trans ?_
  refine (Q_istore (ls' := [some (.ref 127), some (.int i1), some (.int i2), some (.int i3), some (.int (if s0 < s1 then s1 else s0)), some (.int i5)]) zm_210 (Or.inl (by decide)) D210_127 rfl (Nat.le_of_ble_eq_true rfl) rfl).trans ?_
  refine (Q_iinc (v := 1) (ls' := [some (.ref 127), some (.int i1), some (.int i2), some (.int i3), some (.int (if s0 < s1 then s1 else s0)), some (.int (i5 + (1 : Int32)))]) zm_210 (Or.inl (by decide)) D210_129 rfl rfl (by decide) rfl).trans ?_
  refine (Q_goto (tgt := 92) zm_210 (Or.inl (by decide)) D210_132 (by decide)).trans ?_
  rfl

theorem b210_64 {d : Nat} {i1 : Int32} {i2 : Int32} {i3 : Int32} {i4 : Int32} {s0 : Int32} {s1 : Int32} {ia : Nat → Nat → Int32} {la : Nat → Nat → Int64} {pl dr : Nat} {cp : Option Nat} {cw : Option Nat} {rp : Option Nat} {K : Option Value → zHP → Prop}  : zWP d 210 64 [some (.ref 127), some (.int i1), some (.int i2), some (.int i3), some (.int i4), none] [.int s1, .int s0] (ia, la, zRA pl dr cp cw rp) K = (if s0 ≤ s1 then zWP d 210 30 [some (.ref 127), some (.int i1), some (.int i2), some (.int i3), some (.int (i4 + (1 : Int32))), none] [] (ia, la, zRA pl dr cp cw rp) K else zWP d 210 30 [some (.ref 127), some (.int i1), some (.int i2), some (.int i4), some (.int (i4 + (1 : Int32))), none] [] (ia, la, zRA pl dr cp cw rp) K) := by
  refine (Q_ic_le (tgt := 70) zm_210 (Or.inl (by decide)) D210_64 (by decide)).trans ?_
  refine zif_c (fun h0_ => ?_) (fun h0_ => ?_)
  · refine (Q_iinc (v := 1) (ls' := [some (.ref 127), some (.int i1), some (.int i2), some (.int i3), some (.int (i4 + (1 : Int32))), none]) zm_210 (Or.inl (by decide)) D210_70 rfl rfl (by decide) rfl).trans ?_
    refine (Q_goto (tgt := 30) zm_210 (Or.inl (by decide)) D210_73 (by decide)).trans ?_
    rfl
  · refine (Q_iload zm_210 (Or.inl (by decide)) D210_67 rfl).trans ?_
    refine (Q_istore_n (ls' := [some (.ref 127), some (.int i1), some (.int i2), some (.int i4), some (.int i4), none]) zm_210 (Or.inl (by decide)) D210_69 rfl (Nat.le_of_ble_eq_true rfl) rfl).trans ?_
    refine (Q_iinc (v := 1) (ls' := [some (.ref 127), some (.int i1), some (.int i2), some (.int i4), some (.int (i4 + (1 : Int32))), none]) zm_210 (Or.inl (by decide)) D210_70 rfl rfl (by decide) rfl).trans ?_
    refine (Q_goto (tgt := 30) zm_210 (Or.inl (by decide)) D210_73 (by decide)).trans ?_
    rfl

/-! HandsLetModel.isTaken(III)Z -/
theorem D211_0 : decode prog_12_method_85_code 0 = .ok (.iconst 0, 1) := by decide +kernel
theorem D211_1 : decode prog_12_method_85_code 1 = .ok (.istore 4, 2) := by decide +kernel
theorem D211_3 : decode prog_12_method_85_code 3 = .ok (.iload 4, 2) := by decide +kernel
theorem D211_5 : decode prog_12_method_85_code 5 = .ok (.aload_n 0, 1) := by decide +kernel
theorem D211_6 : decode prog_12_method_85_code 6 = .ok (.getfield 13, 3) := by decide +kernel
theorem D211_9 : decode prog_12_method_85_code 9 = .ok (.iconst 2, 1) := by decide +kernel
theorem D211_10 : decode prog_12_method_85_code 10 = .ok (.iaload, 1) := by decide +kernel
theorem D211_11 : decode prog_12_method_85_code 11 = .ok (.if_icmp .ge 39, 3) := by decide +kernel
theorem D211_14 : decode prog_12_method_85_code 14 = .ok (.iload 4, 2) := by decide +kernel
theorem D211_16 : decode prog_12_method_85_code 16 = .ok (.iload_n 3, 1) := by decide +kernel
theorem D211_17 : decode prog_12_method_85_code 17 = .ok (.if_icmp .eq 27, 3) := by decide +kernel
theorem D211_20 : decode prog_12_method_85_code 20 = .ok (.aload_n 0, 1) := by decide +kernel
theorem D211_21 : decode prog_12_method_85_code 21 = .ok (.getfield 43, 3) := by decide +kernel
theorem D211_24 : decode prog_12_method_85_code 24 = .ok (.iload 4, 2) := by decide +kernel
theorem D211_26 : decode prog_12_method_85_code 26 = .ok (.iaload, 1) := by decide +kernel
theorem D211_27 : decode prog_12_method_85_code 27 = .ok (.iload_n 1, 1) := by decide +kernel
theorem D211_28 : decode prog_12_method_85_code 28 = .ok (.if_icmp .ne 16, 3) := by decide +kernel
theorem D211_31 : decode prog_12_method_85_code 31 = .ok (.aload_n 0, 1) := by decide +kernel
theorem D211_32 : decode prog_12_method_85_code 32 = .ok (.getfield 120, 3) := by decide +kernel
theorem D211_35 : decode prog_12_method_85_code 35 = .ok (.iload 4, 2) := by decide +kernel
theorem D211_37 : decode prog_12_method_85_code 37 = .ok (.iaload, 1) := by decide +kernel
theorem D211_38 : decode prog_12_method_85_code 38 = .ok (.iload_n 2, 1) := by decide +kernel
theorem D211_39 : decode prog_12_method_85_code 39 = .ok (.if_icmp .ne 5, 3) := by decide +kernel
theorem D211_42 : decode prog_12_method_85_code 42 = .ok (.iconst 1, 1) := by decide +kernel
theorem D211_43 : decode prog_12_method_85_code 43 = .ok (.ireturn, 1) := by decide +kernel
theorem D211_44 : decode prog_12_method_85_code 44 = .ok (.iinc 4 1, 3) := by decide +kernel
theorem D211_47 : decode prog_12_method_85_code 47 = .ok (.goto (-44), 3) := by decide +kernel
theorem D211_50 : decode prog_12_method_85_code 50 = .ok (.iconst 0, 1) := by decide +kernel
theorem D211_51 : decode prog_12_method_85_code 51 = .ok (.ireturn, 1) := by decide +kernel

theorem b211_0 {d : Nat} {i1 : Int32} {i2 : Int32} {i3 : Int32} {ia : Nat → Nat → Int32} {la : Nat → Nat → Int64} {pl dr : Nat} {cp : Option Nat} {cw : Option Nat} {rp : Option Nat} {K : Option Value → zHP → Prop}  : zWP d 211 0 [some (.ref 127), some (.int i1), some (.int i2), some (.int i3), none] [] (ia, la, zRA pl dr cp cw rp) K = zWP d 211 3 [some (.ref 127), some (.int i1), some (.int i2), some (.int i3), some (.int (0 : Int32))] [] (ia, la, zRA pl dr cp cw rp) K := by
  refine (Q_iconst (v := 0) zm_211 (Or.inl (by decide)) D211_0 (by decide)).trans ?_
  refine (Q_istore (ls' := [some (.ref 127), some (.int i1), some (.int i2), some (.int i3), some (.int (0 : Int32))]) zm_211 (Or.inl (by decide)) D211_1 rfl (Nat.le_of_ble_eq_true rfl) rfl).trans ?_
  rfl

theorem b211_3 {d : Nat} {i1 : Int32} {i2 : Int32} {i3 : Int32} {i4 : Int32} {ia : Nat → Nat → Int32} {la : Nat → Nat → Int64} {pl dr : Nat} {cp : Option Nat} {cw : Option Nat} {rp : Option Nat} {K : Option Value → zHP → Prop}  : zWP d 211 3 [some (.ref 127), some (.int i1), some (.int i2), some (.int i3), some (.int i4)] [] (ia, la, zRA pl dr cp cw rp) K = (if (ia 129 2) ≤ i4 then K (some (.int (0 : Int32))) (ia, la, zRA pl dr cp cw rp) else (if i4 = i3 then zWP d 211 3 [some (.ref 127), some (.int i1), some (.int i2), some (.int i3), some (.int (i4 + (1 : Int32)))] [] (ia, la, zRA pl dr cp cw rp) K else (vp_in i4 24 ∧ (if ¬ (ia 139 (i4).toNatClampNeg) = i1 then zWP d 211 3 [some (.ref 127), some (.int i1), some (.int i2), some (.int i3), some (.int (i4 + (1 : Int32)))] [] (ia, la, zRA pl dr cp cw rp) K else (vp_in i4 12 ∧ (if ¬ (ia 161 (i4).toNatClampNeg) = i2 then zWP d 211 3 [some (.ref 127), some (.int i1), some (.int i2), some (.int i3), some (.int (i4 + (1 : Int32)))] [] (ia, la, zRA pl dr cp cw rp) K else K (some (.int (1 : Int32))) (ia, la, zRA pl dr cp cw rp))))))) := by
  refine (Q_iload zm_211 (Or.inl (by decide)) D211_3 rfl).trans ?_
  refine (Q_aload_n zm_211 (Or.inl (by decide)) D211_5 rfl).trans ?_
  refine (Q_getR (q := 129) zm_211 (Or.inl (by decide)) D211_6 zf_10_13 zs_10_3 zk_127.1 rfl).trans ?_
  refine (Q_iconst (v := 2) zm_211 (Or.inl (by decide)) D211_9 (by decide)).trans ?_
  refine ((Q_iaload zm_211 (Or.inl (by decide)) D211_10 zk_129.1 zk_129.2).trans (zdrop (zin_spec (by decide)))).trans ?_
  refine (Q_ic_ge (tgt := 50) zm_211 (Or.inl (by decide)) D211_11 (by decide)).trans ?_
  refine zif_c (fun h0_ => ?_) (fun h0_ => ?_)
  · refine (Q_iconst (v := 0) zm_211 (Or.inl (by decide)) D211_50 (by decide)).trans ?_
    exact Q_zreturn zm_211 (Or.inl (by decide)) D211_51 rfl (by decide)
  · refine (Q_iload zm_211 (Or.inl (by decide)) D211_14 rfl).trans ?_
    refine (Q_iload_n zm_211 (Or.inl (by decide)) D211_16 rfl).trans ?_
    refine (Q_ic_eq (tgt := 44) zm_211 (Or.inl (by decide)) D211_17 (by decide)).trans ?_
    refine zif_c (fun h1_ => ?_) (fun h1_ => ?_)
    · refine (Q_iinc (v := 1) (ls' := [some (.ref 127), some (.int i1), some (.int i2), some (.int i3), some (.int (i4 + (1 : Int32)))]) zm_211 (Or.inl (by decide)) D211_44 rfl rfl (by decide) rfl).trans ?_
      refine (Q_goto (tgt := 3) zm_211 (Or.inl (by decide)) D211_47 (by decide)).trans ?_
      rfl
    · refine (Q_aload_n zm_211 (Or.inl (by decide)) D211_20 rfl).trans ?_
      refine (Q_getR (q := 139) zm_211 (Or.inl (by decide)) D211_21 zf_10_43 zs_10_13 zk_127.1 rfl).trans ?_
      refine (Q_iload zm_211 (Or.inl (by decide)) D211_24 rfl).trans ?_
      refine (Q_iaload zm_211 (Or.inl (by decide)) D211_26 zk_139.1 zk_139.2).trans ?_
      refine zand_c (fun h2_ => ?_)
      refine (Q_iload_n zm_211 (Or.inl (by decide)) D211_27 rfl).trans ?_
      refine (Q_ic_ne (tgt := 44) zm_211 (Or.inl (by decide)) D211_28 (by decide)).trans ?_
      refine zif_c (fun h3_ => ?_) (fun h3_ => ?_)
      · refine (Q_iinc (v := 1) (ls' := [some (.ref 127), some (.int i1), some (.int i2), some (.int i3), some (.int (i4 + (1 : Int32)))]) zm_211 (Or.inl (by decide)) D211_44 rfl rfl (by decide) rfl).trans ?_
        refine (Q_goto (tgt := 3) zm_211 (Or.inl (by decide)) D211_47 (by decide)).trans ?_
        rfl
      · refine (Q_aload_n zm_211 (Or.inl (by decide)) D211_31 rfl).trans ?_
        refine (Q_getR (q := 161) zm_211 (Or.inl (by decide)) D211_32 zf_10_120 zs_10_56 zk_127.1 rfl).trans ?_
        refine (Q_iload zm_211 (Or.inl (by decide)) D211_35 rfl).trans ?_
        refine (Q_iaload zm_211 (Or.inl (by decide)) D211_37 zk_161.1 zk_161.2).trans ?_
        refine zand_c (fun h4_ => ?_)
        refine (Q_iload_n zm_211 (Or.inl (by decide)) D211_38 rfl).trans ?_
        refine (Q_ic_ne (tgt := 44) zm_211 (Or.inl (by decide)) D211_39 (by decide)).trans ?_
        refine zif_c (fun h5_ => ?_) (fun h5_ => ?_)
        · refine (Q_iinc (v := 1) (ls' := [some (.ref 127), some (.int i1), some (.int i2), some (.int i3), some (.int (i4 + (1 : Int32)))]) zm_211 (Or.inl (by decide)) D211_44 rfl rfl (by decide) rfl).trans ?_
          refine (Q_goto (tgt := 3) zm_211 (Or.inl (by decide)) D211_47 (by decide)).trans ?_
          rfl
        · refine (Q_iconst (v := 1) zm_211 (Or.inl (by decide)) D211_42 (by decide)).trans ?_
          exact Q_zreturn zm_211 (Or.inl (by decide)) D211_43 rfl (by decide)
