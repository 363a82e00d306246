abbrev kL_law : ByteArray := code
section LROWS
variable {p : Program} {l : Launch} {e : Env} {R : Room} {s : State} {m : MethodId} {args : Array Value} {below : List Frame} {meth : Method} {c : Code} {H : Heap} {locs : List Loc} {cells slots : Nat} {Q : State → Prop}
variable {cc : ByteArray} {pc nL : Nat} {ls : Array Slot} {rest st0 As : List Value} {own : String} {θ : TH} {V : VT} {U : UT} {index ci k a b n ny : Nat} {y : MethodName} {cy : ByteArray} {rt : Option FieldType} {rm : Room}
/-- a call where cells have been made before -/
theorem gl_Vi {K : Int32 → VT → UT → Prop} (hC : Cx p s m args c cc nL own θ) (hM : CMi l y cy ny rt rm θ (.ref b :: As) V U K) (hmi : MI y cy ny rt n) (hlk : ML own index y) (hmv : MV y) {T : u_T} {N : Nat} (hci : CI ci y.cls T N) (ho : isO θ b ci) (hw : wo θ V U H) (hS : Sx θ s H locs) (hrm : rm.cells = 0 ∧ rm.slots = 0) (hR : rm.frames + 1 ≤ R.frames ∧ 8 + (ny + 11) + rm.locals ≤ R.locals) (hn : As.length = n) (hls : ls.size = nL) (hst : st0 = As.reverse ++ .ref b :: rest) (hroom : (rest.map fun v => v.category).sum ≤ 8) (hf : cells + 0 ≤ R.cells ∧ slots + 0 ≤ R.slots) (hdg : decode cc pc = .ok (.invokevirtual index, 3))
    (kk : ∀ (r : Int32) (V' : VT) (U' : UT), K r V' U' → ∀ (H1 : Heap) (locs1 : List Loc), wo θ V' U' H1 → Sx θ s H1 locs1 → W p l e R s m args below meth c H1 locs1 cells slots Q (F0 m (pc + 3) ls (.int r :: rest))) : W p l e R s m args below meth c H locs cells slots Q (F0 m pc ls st0) := by
  have hp := g_preV (As := As) hC hci ho hw hS
  obtain ⟨hx, hb, hml, hown, hA, hkn⟩ := hC
  have hA' := g_words hA hmi
  have hG : GoodIn (Cond.code y cy ny rt :: WA) (Cond.code y cy ny rt :: WA) := wa_in hmi.1
  have hrun : va_Run p l e R s m args below meth c H locs cells slots 0 0 (F0 m pc ls st0) rest (QI θ K (Value.ref b :: As).toArray) (aT θ) := by
    rcases hlk with hl | ⟨host, hl⟩
    · exact va_runV (Ts := Cond.code y cy ny rt :: WA) (C := y.cls) ⟨hx, hb, hml, hown, hA'⟩ hM ⟨callB_of n hA' hG rfl hrm.1 hrm.2 (hA _ hmi.2.1) (hA _ hl) hmi.2.2 hR, hA _ hmv.1, hA _ hmv.2⟩ hp rfl hn hls hst (lv_room hroom) hdg hf
    · exact va_runVN (Ts := Cond.code y cy ny rt :: WA) (C := y.cls) (host := host) ⟨hx, hb, hml, hown, hA'⟩ hM ⟨va_cnB n hA' hG rfl hrm.1 hrm.2 (hkn.2.1 _ hl) (hA _ hmi.2.1) hmi.2.2 hR, hA _ hmv.1, hA _ hmv.2⟩ hp rfl hn hls hst (lv_room hroom) hdg hf
  exact va_calli hrun hS (fun q _ h => h) (fun q h => h) (fun r u t H1 locs1 ht _ hpost hB _ _ hS1 => kk r u.1 u.2 hpost H1 locs1 (by rw [← ht]; exact hB) hS1)
end LROWS
theorem dL_law_0 : decode kL_law 0 = .ok (.new 7, 3) := by decide +kernel
theorem dL_law_3 : decode kL_law 3 = .ok (.dup, 1) := by decide +kernel
theorem dL_law_4 : decode kL_law 4 = .ok (.invokespecial 9, 3) := by decide +kernel
theorem dL_law_7 : decode kL_law 7 = .ok (.astore_n 1, 1) := by decide +kernel
theorem dL_law_8 : decode kL_law 8 = .ok (.new 10, 3) := by decide +kernel
theorem dL_law_11 : decode kL_law 11 = .ok (.dup, 1) := by decide +kernel
theorem dL_law_12 : decode kL_law 12 = .ok (.invokespecial 12, 3) := by decide +kernel
theorem dL_law_15 : decode kL_law 15 = .ok (.astore_n 2, 1) := by decide +kernel
theorem dL_law_16 : decode kL_law 16 = .ok (.iconst 0, 1) := by decide +kernel
theorem dL_law_17 : decode kL_law 17 = .ok (.istore_n 3, 1) := by decide +kernel
theorem dL_law_18 : decode kL_law 18 = .ok (.iload_n 3, 1) := by decide +kernel
theorem dL_law_19 : decode kL_law 19 = .ok (.aload_n 0, 1) := by decide +kernel
theorem dL_law_20 : decode kL_law 20 = .ok (.arraylength, 1) := by decide +kernel
theorem dL_law_21 : decode kL_law 21 = .ok (.iconst 4, 1) := by decide +kernel
theorem dL_law_22 : decode kL_law 22 = .ok (.isub, 1) := by decide +kernel
theorem dL_law_23 : decode kL_law 23 = .ok (.if_icmp .gt 647, 3) := by decide +kernel
theorem dL_law_26 : decode kL_law 26 = .ok (.aload_n 0, 1) := by decide +kernel
theorem dL_law_27 : decode kL_law 27 = .ok (.iload_n 3, 1) := by decide +kernel
theorem dL_law_28 : decode kL_law 28 = .ok (.iaload, 1) := by decide +kernel
theorem dL_law_29 : decode kL_law 29 = .ok (.bipush 31, 2) := by decide +kernel
theorem dL_law_31 : decode kL_law 31 = .ok (.iand, 1) := by decide +kernel
theorem dL_law_32 : decode kL_law 32 = .ok (.tableswitch 632 0 19 #[96, 159, 192, 241, 304, 337, 370, 393, 406, 419, 432, 445, 458, 481, 494, 507, 540, 553, 586, 619], 96) := by decide +kernel
theorem dL_law_128 : decode kL_law 128 = .ok (.aload_n 1, 1) := by decide +kernel
theorem dL_law_129 : decode kL_law 129 = .ok (.aload_n 0, 1) := by decide +kernel
theorem dL_law_130 : decode kL_law 130 = .ok (.iload_n 3, 1) := by decide +kernel
theorem dL_law_131 : decode kL_law 131 = .ok (.iconst 1, 1) := by decide +kernel
theorem dL_law_132 : decode kL_law 132 = .ok (.iadd, 1) := by decide +kernel
theorem dL_law_133 : decode kL_law 133 = .ok (.iaload, 1) := by decide +kernel
theorem dL_law_134 : decode kL_law 134 = .ok (.i2l, 1) := by decide +kernel
theorem dL_law_135 : decode kL_law 135 = .ok (.bipush 32, 2) := by decide +kernel
theorem dL_law_137 : decode kL_law 137 = .ok (.lshl, 1) := by decide +kernel
theorem dL_law_138 : decode kL_law 138 = .ok (.aload_n 0, 1) := by decide +kernel
theorem dL_law_139 : decode kL_law 139 = .ok (.iload_n 3, 1) := by decide +kernel
theorem dL_law_140 : decode kL_law 140 = .ok (.iconst 2, 1) := by decide +kernel
theorem dL_law_141 : decode kL_law 141 = .ok (.iadd, 1) := by decide +kernel
theorem dL_law_142 : decode kL_law 142 = .ok (.iaload, 1) := by decide +kernel
theorem dL_law_143 : decode kL_law 143 = .ok (.i2l, 1) := by decide +kernel
theorem dL_law_144 : decode kL_law 144 = .ok (.ldc2_w 13, 3) := by decide +kernel
theorem dL_law_147 : decode kL_law 147 = .ok (.land, 1) := by decide +kernel
theorem dL_law_148 : decode kL_law 148 = .ok (.lor, 1) := by decide +kernel
theorem dL_law_149 : decode kL_law 149 = .ok (.aload_n 0, 1) := by decide +kernel
theorem dL_law_150 : decode kL_law 150 = .ok (.iload_n 3, 1) := by decide +kernel
theorem dL_law_151 : decode kL_law 151 = .ok (.iconst 3, 1) := by decide +kernel
theorem dL_law_152 : decode kL_law 152 = .ok (.iadd, 1) := by decide +kernel
theorem dL_law_153 : decode kL_law 153 = .ok (.iaload, 1) := by decide +kernel
theorem dL_law_154 : decode kL_law 154 = .ok (.invokevirtual 15, 3) := by decide +kernel
theorem dL_law_157 : decode kL_law 157 = .ok (.aload_n 2, 1) := by decide +kernel
theorem dL_law_158 : decode kL_law 158 = .ok (.aload_n 0, 1) := by decide +kernel
theorem dL_law_159 : decode kL_law 159 = .ok (.iload_n 3, 1) := by decide +kernel
theorem dL_law_160 : decode kL_law 160 = .ok (.iconst 1, 1) := by decide +kernel
theorem dL_law_161 : decode kL_law 161 = .ok (.iadd, 1) := by decide +kernel
theorem dL_law_162 : decode kL_law 162 = .ok (.iaload, 1) := by decide +kernel
theorem dL_law_163 : decode kL_law 163 = .ok (.i2l, 1) := by decide +kernel
theorem dL_law_164 : decode kL_law 164 = .ok (.bipush 32, 2) := by decide +kernel
theorem dL_law_166 : decode kL_law 166 = .ok (.lshl, 1) := by decide +kernel
theorem dL_law_167 : decode kL_law 167 = .ok (.aload_n 0, 1) := by decide +kernel
theorem dL_law_168 : decode kL_law 168 = .ok (.iload_n 3, 1) := by decide +kernel
theorem dL_law_169 : decode kL_law 169 = .ok (.iconst 2, 1) := by decide +kernel
theorem dL_law_170 : decode kL_law 170 = .ok (.iadd, 1) := by decide +kernel
theorem dL_law_171 : decode kL_law 171 = .ok (.iaload, 1) := by decide +kernel
theorem dL_law_172 : decode kL_law 172 = .ok (.i2l, 1) := by decide +kernel
theorem dL_law_173 : decode kL_law 173 = .ok (.ldc2_w 13, 3) := by decide +kernel
theorem dL_law_176 : decode kL_law 176 = .ok (.land, 1) := by decide +kernel
theorem dL_law_177 : decode kL_law 177 = .ok (.lor, 1) := by decide +kernel
theorem dL_law_178 : decode kL_law 178 = .ok (.aload_n 0, 1) := by decide +kernel
theorem dL_law_179 : decode kL_law 179 = .ok (.iload_n 3, 1) := by decide +kernel
theorem dL_law_180 : decode kL_law 180 = .ok (.iconst 3, 1) := by decide +kernel
theorem dL_law_181 : decode kL_law 181 = .ok (.iadd, 1) := by decide +kernel
theorem dL_law_182 : decode kL_law 182 = .ok (.iaload, 1) := by decide +kernel
theorem dL_law_183 : decode kL_law 183 = .ok (.invokevirtual 19, 3) := by decide +kernel
theorem dL_law_186 : decode kL_law 186 = .ok (.if_icmp .eq 478, 3) := by decide +kernel
theorem dL_law_189 : decode kL_law 189 = .ok (.iconst 0, 1) := by decide +kernel
theorem dL_law_190 : decode kL_law 190 = .ok (.ireturn, 1) := by decide +kernel
theorem dL_law_191 : decode kL_law 191 = .ok (.aload_n 1, 1) := by decide +kernel
theorem dL_law_192 : decode kL_law 192 = .ok (.aload_n 0, 1) := by decide +kernel
theorem dL_law_193 : decode kL_law 193 = .ok (.iload_n 3, 1) := by decide +kernel
theorem dL_law_194 : decode kL_law 194 = .ok (.iconst 1, 1) := by decide +kernel
theorem dL_law_195 : decode kL_law 195 = .ok (.iadd, 1) := by decide +kernel
theorem dL_law_196 : decode kL_law 196 = .ok (.iaload, 1) := by decide +kernel
theorem dL_law_197 : decode kL_law 197 = .ok (.aload_n 0, 1) := by decide +kernel
theorem dL_law_198 : decode kL_law 198 = .ok (.iload_n 3, 1) := by decide +kernel
theorem dL_law_199 : decode kL_law 199 = .ok (.iconst 2, 1) := by decide +kernel
theorem dL_law_200 : decode kL_law 200 = .ok (.iadd, 1) := by decide +kernel
theorem dL_law_201 : decode kL_law 201 = .ok (.iaload, 1) := by decide +kernel
theorem dL_law_202 : decode kL_law 202 = .ok (.invokevirtual 20, 3) := by decide +kernel
theorem dL_law_205 : decode kL_law 205 = .ok (.aload_n 2, 1) := by decide +kernel
theorem dL_law_206 : decode kL_law 206 = .ok (.aload_n 0, 1) := by decide +kernel
theorem dL_law_207 : decode kL_law 207 = .ok (.iload_n 3, 1) := by decide +kernel
theorem dL_law_208 : decode kL_law 208 = .ok (.iconst 1, 1) := by decide +kernel
theorem dL_law_209 : decode kL_law 209 = .ok (.iadd, 1) := by decide +kernel
theorem dL_law_210 : decode kL_law 210 = .ok (.iaload, 1) := by decide +kernel
theorem dL_law_211 : decode kL_law 211 = .ok (.aload_n 0, 1) := by decide +kernel
theorem dL_law_212 : decode kL_law 212 = .ok (.iload_n 3, 1) := by decide +kernel
theorem dL_law_213 : decode kL_law 213 = .ok (.iconst 2, 1) := by decide +kernel
theorem dL_law_214 : decode kL_law 214 = .ok (.iadd, 1) := by decide +kernel
theorem dL_law_215 : decode kL_law 215 = .ok (.iaload, 1) := by decide +kernel
theorem dL_law_216 : decode kL_law 216 = .ok (.invokevirtual 24, 3) := by decide +kernel
theorem dL_law_219 : decode kL_law 219 = .ok (.if_icmp .eq 445, 3) := by decide +kernel
theorem dL_law_222 : decode kL_law 222 = .ok (.iconst 0, 1) := by decide +kernel
theorem dL_law_223 : decode kL_law 223 = .ok (.ireturn, 1) := by decide +kernel
theorem dL_law_224 : decode kL_law 224 = .ok (.aload_n 1, 1) := by decide +kernel
theorem dL_law_225 : decode kL_law 225 = .ok (.aload_n 0, 1) := by decide +kernel
theorem dL_law_226 : decode kL_law 226 = .ok (.iload_n 3, 1) := by decide +kernel
theorem dL_law_227 : decode kL_law 227 = .ok (.iconst 1, 1) := by decide +kernel
theorem dL_law_228 : decode kL_law 228 = .ok (.iadd, 1) := by decide +kernel
theorem dL_law_229 : decode kL_law 229 = .ok (.iaload, 1) := by decide +kernel
theorem dL_law_230 : decode kL_law 230 = .ok (.aload_n 0, 1) := by decide +kernel
theorem dL_law_231 : decode kL_law 231 = .ok (.iload_n 3, 1) := by decide +kernel
theorem dL_law_232 : decode kL_law 232 = .ok (.iconst 2, 1) := by decide +kernel
theorem dL_law_233 : decode kL_law 233 = .ok (.iadd, 1) := by decide +kernel
theorem dL_law_234 : decode kL_law 234 = .ok (.iaload, 1) := by decide +kernel
theorem dL_law_235 : decode kL_law 235 = .ok (.ifCond .eq 7, 3) := by decide +kernel
theorem dL_law_238 : decode kL_law 238 = .ok (.iconst 1, 1) := by decide +kernel
theorem dL_law_239 : decode kL_law 239 = .ok (.goto 4, 3) := by decide +kernel
theorem dL_law_242 : decode kL_law 242 = .ok (.iconst 0, 1) := by decide +kernel
theorem dL_law_243 : decode kL_law 243 = .ok (.invokevirtual 25, 3) := by decide +kernel
theorem dL_law_246 : decode kL_law 246 = .ok (.aload_n 2, 1) := by decide +kernel
theorem dL_law_247 : decode kL_law 247 = .ok (.aload_n 0, 1) := by decide +kernel
theorem dL_law_248 : decode kL_law 248 = .ok (.iload_n 3, 1) := by decide +kernel
theorem dL_law_249 : decode kL_law 249 = .ok (.iconst 1, 1) := by decide +kernel
theorem dL_law_250 : decode kL_law 250 = .ok (.iadd, 1) := by decide +kernel
theorem dL_law_251 : decode kL_law 251 = .ok (.iaload, 1) := by decide +kernel
theorem dL_law_252 : decode kL_law 252 = .ok (.aload_n 0, 1) := by decide +kernel
theorem dL_law_253 : decode kL_law 253 = .ok (.iload_n 3, 1) := by decide +kernel
theorem dL_law_254 : decode kL_law 254 = .ok (.iconst 2, 1) := by decide +kernel
theorem dL_law_255 : decode kL_law 255 = .ok (.iadd, 1) := by decide +kernel
theorem dL_law_256 : decode kL_law 256 = .ok (.iaload, 1) := by decide +kernel
theorem dL_law_257 : decode kL_law 257 = .ok (.ifCond .eq 7, 3) := by decide +kernel
theorem dL_law_260 : decode kL_law 260 = .ok (.iconst 1, 1) := by decide +kernel
theorem dL_law_261 : decode kL_law 261 = .ok (.goto 4, 3) := by decide +kernel
theorem dL_law_264 : decode kL_law 264 = .ok (.iconst 0, 1) := by decide +kernel
theorem dL_law_265 : decode kL_law 265 = .ok (.invokevirtual 29, 3) := by decide +kernel
theorem dL_law_268 : decode kL_law 268 = .ok (.if_icmp .eq 396, 3) := by decide +kernel
theorem dL_law_271 : decode kL_law 271 = .ok (.iconst 0, 1) := by decide +kernel
theorem dL_law_272 : decode kL_law 272 = .ok (.ireturn, 1) := by decide +kernel
theorem dL_law_273 : decode kL_law 273 = .ok (.aload_n 1, 1) := by decide +kernel
theorem dL_law_274 : decode kL_law 274 = .ok (.aload_n 0, 1) := by decide +kernel
theorem dL_law_275 : decode kL_law 275 = .ok (.iload_n 3, 1) := by decide +kernel
theorem dL_law_276 : decode kL_law 276 = .ok (.iconst 1, 1) := by decide +kernel
theorem dL_law_277 : decode kL_law 277 = .ok (.iadd, 1) := by decide +kernel
theorem dL_law_278 : decode kL_law 278 = .ok (.iaload, 1) := by decide +kernel
theorem dL_law_279 : decode kL_law 279 = .ok (.i2l, 1) := by decide +kernel
theorem dL_law_280 : decode kL_law 280 = .ok (.bipush 32, 2) := by decide +kernel
theorem dL_law_282 : decode kL_law 282 = .ok (.lshl, 1) := by decide +kernel
theorem dL_law_283 : decode kL_law 283 = .ok (.aload_n 0, 1) := by decide +kernel
theorem dL_law_284 : decode kL_law 284 = .ok (.iload_n 3, 1) := by decide +kernel
theorem dL_law_285 : decode kL_law 285 = .ok (.iconst 2, 1) := by decide +kernel
theorem dL_law_286 : decode kL_law 286 = .ok (.iadd, 1) := by decide +kernel
theorem dL_law_287 : decode kL_law 287 = .ok (.iaload, 1) := by decide +kernel
theorem dL_law_288 : decode kL_law 288 = .ok (.i2l, 1) := by decide +kernel
theorem dL_law_289 : decode kL_law 289 = .ok (.ldc2_w 13, 3) := by decide +kernel
theorem dL_law_292 : decode kL_law 292 = .ok (.land, 1) := by decide +kernel
theorem dL_law_293 : decode kL_law 293 = .ok (.lor, 1) := by decide +kernel
theorem dL_law_294 : decode kL_law 294 = .ok (.aload_n 0, 1) := by decide +kernel
theorem dL_law_295 : decode kL_law 295 = .ok (.iload_n 3, 1) := by decide +kernel
theorem dL_law_296 : decode kL_law 296 = .ok (.iconst 3, 1) := by decide +kernel
theorem dL_law_297 : decode kL_law 297 = .ok (.iadd, 1) := by decide +kernel
theorem dL_law_298 : decode kL_law 298 = .ok (.iaload, 1) := by decide +kernel
theorem dL_law_299 : decode kL_law 299 = .ok (.invokevirtual 30, 3) := by decide +kernel
theorem dL_law_302 : decode kL_law 302 = .ok (.aload_n 2, 1) := by decide +kernel
theorem dL_law_303 : decode kL_law 303 = .ok (.aload_n 0, 1) := by decide +kernel
theorem dL_law_304 : decode kL_law 304 = .ok (.iload_n 3, 1) := by decide +kernel
theorem dL_law_305 : decode kL_law 305 = .ok (.iconst 1, 1) := by decide +kernel
theorem dL_law_306 : decode kL_law 306 = .ok (.iadd, 1) := by decide +kernel
theorem dL_law_307 : decode kL_law 307 = .ok (.iaload, 1) := by decide +kernel
theorem dL_law_308 : decode kL_law 308 = .ok (.i2l, 1) := by decide +kernel
theorem dL_law_309 : decode kL_law 309 = .ok (.bipush 32, 2) := by decide +kernel
theorem dL_law_311 : decode kL_law 311 = .ok (.lshl, 1) := by decide +kernel
theorem dL_law_312 : decode kL_law 312 = .ok (.aload_n 0, 1) := by decide +kernel
theorem dL_law_313 : decode kL_law 313 = .ok (.iload_n 3, 1) := by decide +kernel
theorem dL_law_314 : decode kL_law 314 = .ok (.iconst 2, 1) := by decide +kernel
theorem dL_law_315 : decode kL_law 315 = .ok (.iadd, 1) := by decide +kernel
theorem dL_law_316 : decode kL_law 316 = .ok (.iaload, 1) := by decide +kernel
theorem dL_law_317 : decode kL_law 317 = .ok (.i2l, 1) := by decide +kernel
theorem dL_law_318 : decode kL_law 318 = .ok (.ldc2_w 13, 3) := by decide +kernel
theorem dL_law_321 : decode kL_law 321 = .ok (.land, 1) := by decide +kernel
theorem dL_law_322 : decode kL_law 322 = .ok (.lor, 1) := by decide +kernel
theorem dL_law_323 : decode kL_law 323 = .ok (.aload_n 0, 1) := by decide +kernel
theorem dL_law_324 : decode kL_law 324 = .ok (.iload_n 3, 1) := by decide +kernel
theorem dL_law_325 : decode kL_law 325 = .ok (.iconst 3, 1) := by decide +kernel
theorem dL_law_326 : decode kL_law 326 = .ok (.iadd, 1) := by decide +kernel
theorem dL_law_327 : decode kL_law 327 = .ok (.iaload, 1) := by decide +kernel
theorem dL_law_328 : decode kL_law 328 = .ok (.invokevirtual 33, 3) := by decide +kernel
theorem dL_law_331 : decode kL_law 331 = .ok (.if_icmp .eq 333, 3) := by decide +kernel
theorem dL_law_334 : decode kL_law 334 = .ok (.iconst 0, 1) := by decide +kernel
theorem dL_law_335 : decode kL_law 335 = .ok (.ireturn, 1) := by decide +kernel
theorem dL_law_336 : decode kL_law 336 = .ok (.aload_n 1, 1) := by decide +kernel
theorem dL_law_337 : decode kL_law 337 = .ok (.aload_n 0, 1) := by decide +kernel
theorem dL_law_338 : decode kL_law 338 = .ok (.iload_n 3, 1) := by decide +kernel
theorem dL_law_339 : decode kL_law 339 = .ok (.iconst 1, 1) := by decide +kernel
theorem dL_law_340 : decode kL_law 340 = .ok (.iadd, 1) := by decide +kernel
theorem dL_law_341 : decode kL_law 341 = .ok (.iaload, 1) := by decide +kernel
theorem dL_law_342 : decode kL_law 342 = .ok (.aload_n 0, 1) := by decide +kernel
theorem dL_law_343 : decode kL_law 343 = .ok (.iload_n 3, 1) := by decide +kernel
theorem dL_law_344 : decode kL_law 344 = .ok (.iconst 2, 1) := by decide +kernel
theorem dL_law_345 : decode kL_law 345 = .ok (.iadd, 1) := by decide +kernel
theorem dL_law_346 : decode kL_law 346 = .ok (.iaload, 1) := by decide +kernel
theorem dL_law_347 : decode kL_law 347 = .ok (.invokevirtual 34, 3) := by decide +kernel
theorem dL_law_350 : decode kL_law 350 = .ok (.aload_n 2, 1) := by decide +kernel
theorem dL_law_351 : decode kL_law 351 = .ok (.aload_n 0, 1) := by decide +kernel
theorem dL_law_352 : decode kL_law 352 = .ok (.iload_n 3, 1) := by decide +kernel
theorem dL_law_353 : decode kL_law 353 = .ok (.iconst 1, 1) := by decide +kernel
theorem dL_law_354 : decode kL_law 354 = .ok (.iadd, 1) := by decide +kernel
theorem dL_law_355 : decode kL_law 355 = .ok (.iaload, 1) := by decide +kernel
theorem dL_law_356 : decode kL_law 356 = .ok (.aload_n 0, 1) := by decide +kernel
theorem dL_law_357 : decode kL_law 357 = .ok (.iload_n 3, 1) := by decide +kernel
theorem dL_law_358 : decode kL_law 358 = .ok (.iconst 2, 1) := by decide +kernel
theorem dL_law_359 : decode kL_law 359 = .ok (.iadd, 1) := by decide +kernel
theorem dL_law_360 : decode kL_law 360 = .ok (.iaload, 1) := by decide +kernel
theorem dL_law_361 : decode kL_law 361 = .ok (.invokevirtual 38, 3) := by decide +kernel
theorem dL_law_364 : decode kL_law 364 = .ok (.if_icmp .eq 300, 3) := by decide +kernel
theorem dL_law_367 : decode kL_law 367 = .ok (.iconst 0, 1) := by decide +kernel
theorem dL_law_368 : decode kL_law 368 = .ok (.ireturn, 1) := by decide +kernel
theorem dL_law_369 : decode kL_law 369 = .ok (.aload_n 1, 1) := by decide +kernel
theorem dL_law_370 : decode kL_law 370 = .ok (.aload_n 0, 1) := by decide +kernel
theorem dL_law_371 : decode kL_law 371 = .ok (.iload_n 3, 1) := by decide +kernel
theorem dL_law_372 : decode kL_law 372 = .ok (.iconst 1, 1) := by decide +kernel
theorem dL_law_373 : decode kL_law 373 = .ok (.iadd, 1) := by decide +kernel
theorem dL_law_374 : decode kL_law 374 = .ok (.iaload, 1) := by decide +kernel
theorem dL_law_375 : decode kL_law 375 = .ok (.aload_n 0, 1) := by decide +kernel
theorem dL_law_376 : decode kL_law 376 = .ok (.iload_n 3, 1) := by decide +kernel
theorem dL_law_377 : decode kL_law 377 = .ok (.iconst 2, 1) := by decide +kernel
theorem dL_law_378 : decode kL_law 378 = .ok (.iadd, 1) := by decide +kernel
theorem dL_law_379 : decode kL_law 379 = .ok (.iaload, 1) := by decide +kernel
theorem dL_law_380 : decode kL_law 380 = .ok (.invokevirtual 39, 3) := by decide +kernel
theorem dL_law_383 : decode kL_law 383 = .ok (.aload_n 2, 1) := by decide +kernel
theorem dL_law_384 : decode kL_law 384 = .ok (.aload_n 0, 1) := by decide +kernel
theorem dL_law_385 : decode kL_law 385 = .ok (.iload_n 3, 1) := by decide +kernel
theorem dL_law_386 : decode kL_law 386 = .ok (.iconst 1, 1) := by decide +kernel
theorem dL_law_387 : decode kL_law 387 = .ok (.iadd, 1) := by decide +kernel
theorem dL_law_388 : decode kL_law 388 = .ok (.iaload, 1) := by decide +kernel
theorem dL_law_389 : decode kL_law 389 = .ok (.aload_n 0, 1) := by decide +kernel
theorem dL_law_390 : decode kL_law 390 = .ok (.iload_n 3, 1) := by decide +kernel
theorem dL_law_391 : decode kL_law 391 = .ok (.iconst 2, 1) := by decide +kernel
theorem dL_law_392 : decode kL_law 392 = .ok (.iadd, 1) := by decide +kernel
theorem dL_law_393 : decode kL_law 393 = .ok (.iaload, 1) := by decide +kernel
theorem dL_law_394 : decode kL_law 394 = .ok (.invokevirtual 42, 3) := by decide +kernel
theorem dL_law_397 : decode kL_law 397 = .ok (.if_icmp .eq 267, 3) := by decide +kernel
theorem dL_law_400 : decode kL_law 400 = .ok (.iconst 0, 1) := by decide +kernel
theorem dL_law_401 : decode kL_law 401 = .ok (.ireturn, 1) := by decide +kernel
theorem dL_law_402 : decode kL_law 402 = .ok (.aload_n 1, 1) := by decide +kernel
theorem dL_law_403 : decode kL_law 403 = .ok (.aload_n 0, 1) := by decide +kernel
theorem dL_law_404 : decode kL_law 404 = .ok (.iload_n 3, 1) := by decide +kernel
theorem dL_law_405 : decode kL_law 405 = .ok (.iconst 1, 1) := by decide +kernel
theorem dL_law_406 : decode kL_law 406 = .ok (.iadd, 1) := by decide +kernel
theorem dL_law_407 : decode kL_law 407 = .ok (.iaload, 1) := by decide +kernel
theorem dL_law_408 : decode kL_law 408 = .ok (.invokevirtual 43, 3) := by decide +kernel
theorem dL_law_411 : decode kL_law 411 = .ok (.aload_n 2, 1) := by decide +kernel
theorem dL_law_412 : decode kL_law 412 = .ok (.aload_n 0, 1) := by decide +kernel
theorem dL_law_413 : decode kL_law 413 = .ok (.iload_n 3, 1) := by decide +kernel
theorem dL_law_414 : decode kL_law 414 = .ok (.iconst 1, 1) := by decide +kernel
theorem dL_law_415 : decode kL_law 415 = .ok (.iadd, 1) := by decide +kernel
theorem dL_law_416 : decode kL_law 416 = .ok (.iaload, 1) := by decide +kernel
theorem dL_law_417 : decode kL_law 417 = .ok (.invokevirtual 47, 3) := by decide +kernel
theorem dL_law_420 : decode kL_law 420 = .ok (.if_icmp .eq 244, 3) := by decide +kernel
theorem dL_law_423 : decode kL_law 423 = .ok (.iconst 0, 1) := by decide +kernel
theorem dL_law_424 : decode kL_law 424 = .ok (.ireturn, 1) := by decide +kernel
theorem dL_law_425 : decode kL_law 425 = .ok (.aload_n 1, 1) := by decide +kernel
theorem dL_law_426 : decode kL_law 426 = .ok (.invokevirtual 48, 3) := by decide +kernel
theorem dL_law_429 : decode kL_law 429 = .ok (.aload_n 2, 1) := by decide +kernel
theorem dL_law_430 : decode kL_law 430 = .ok (.invokevirtual 52, 3) := by decide +kernel
theorem dL_law_433 : decode kL_law 433 = .ok (.if_icmp .eq 231, 3) := by decide +kernel
theorem dL_law_436 : decode kL_law 436 = .ok (.iconst 0, 1) := by decide +kernel
theorem dL_law_437 : decode kL_law 437 = .ok (.ireturn, 1) := by decide +kernel
theorem dL_law_438 : decode kL_law 438 = .ok (.aload_n 1, 1) := by decide +kernel
theorem dL_law_439 : decode kL_law 439 = .ok (.invokevirtual 53, 3) := by decide +kernel
theorem dL_law_442 : decode kL_law 442 = .ok (.aload_n 2, 1) := by decide +kernel
theorem dL_law_443 : decode kL_law 443 = .ok (.invokevirtual 56, 3) := by decide +kernel
theorem dL_law_446 : decode kL_law 446 = .ok (.if_icmp .eq 218, 3) := by decide +kernel
theorem dL_law_449 : decode kL_law 449 = .ok (.iconst 0, 1) := by decide +kernel
theorem dL_law_450 : decode kL_law 450 = .ok (.ireturn, 1) := by decide +kernel
theorem dL_law_451 : decode kL_law 451 = .ok (.aload_n 1, 1) := by decide +kernel
theorem dL_law_452 : decode kL_law 452 = .ok (.invokevirtual 57, 3) := by decide +kernel
theorem dL_law_455 : decode kL_law 455 = .ok (.aload_n 2, 1) := by decide +kernel
theorem dL_law_456 : decode kL_law 456 = .ok (.invokevirtual 60, 3) := by decide +kernel
theorem dL_law_459 : decode kL_law 459 = .ok (.if_icmp .eq 205, 3) := by decide +kernel
theorem dL_law_462 : decode kL_law 462 = .ok (.iconst 0, 1) := by decide +kernel
theorem dL_law_463 : decode kL_law 463 = .ok (.ireturn, 1) := by decide +kernel
theorem dL_law_464 : decode kL_law 464 = .ok (.aload_n 1, 1) := by decide +kernel
theorem dL_law_465 : decode kL_law 465 = .ok (.invokevirtual 61, 3) := by decide +kernel
theorem dL_law_468 : decode kL_law 468 = .ok (.aload_n 2, 1) := by decide +kernel
theorem dL_law_469 : decode kL_law 469 = .ok (.invokevirtual 64, 3) := by decide +kernel
theorem dL_law_472 : decode kL_law 472 = .ok (.if_icmp .eq 192, 3) := by decide +kernel
theorem dL_law_475 : decode kL_law 475 = .ok (.iconst 0, 1) := by decide +kernel
theorem dL_law_476 : decode kL_law 476 = .ok (.ireturn, 1) := by decide +kernel
theorem dL_law_477 : decode kL_law 477 = .ok (.aload_n 1, 1) := by decide +kernel
theorem dL_law_478 : decode kL_law 478 = .ok (.invokevirtual 65, 3) := by decide +kernel
theorem dL_law_481 : decode kL_law 481 = .ok (.aload_n 2, 1) := by decide +kernel
theorem dL_law_482 : decode kL_law 482 = .ok (.invokevirtual 68, 3) := by decide +kernel
theorem dL_law_485 : decode kL_law 485 = .ok (.if_icmp .eq 179, 3) := by decide +kernel
theorem dL_law_488 : decode kL_law 488 = .ok (.iconst 0, 1) := by decide +kernel
theorem dL_law_489 : decode kL_law 489 = .ok (.ireturn, 1) := by decide +kernel
theorem dL_law_490 : decode kL_law 490 = .ok (.aload_n 1, 1) := by decide +kernel
theorem dL_law_491 : decode kL_law 491 = .ok (.aload_n 0, 1) := by decide +kernel
theorem dL_law_492 : decode kL_law 492 = .ok (.iload_n 3, 1) := by decide +kernel
theorem dL_law_493 : decode kL_law 493 = .ok (.iconst 1, 1) := by decide +kernel
theorem dL_law_494 : decode kL_law 494 = .ok (.iadd, 1) := by decide +kernel
theorem dL_law_495 : decode kL_law 495 = .ok (.iaload, 1) := by decide +kernel
theorem dL_law_496 : decode kL_law 496 = .ok (.invokevirtual 69, 3) := by decide +kernel
theorem dL_law_499 : decode kL_law 499 = .ok (.aload_n 2, 1) := by decide +kernel
theorem dL_law_500 : decode kL_law 500 = .ok (.aload_n 0, 1) := by decide +kernel
theorem dL_law_501 : decode kL_law 501 = .ok (.iload_n 3, 1) := by decide +kernel
theorem dL_law_502 : decode kL_law 502 = .ok (.iconst 1, 1) := by decide +kernel
theorem dL_law_503 : decode kL_law 503 = .ok (.iadd, 1) := by decide +kernel
theorem dL_law_504 : decode kL_law 504 = .ok (.iaload, 1) := by decide +kernel
theorem dL_law_505 : decode kL_law 505 = .ok (.invokevirtual 72, 3) := by decide +kernel
theorem dL_law_508 : decode kL_law 508 = .ok (.if_icmp .eq 156, 3) := by decide +kernel
theorem dL_law_511 : decode kL_law 511 = .ok (.iconst 0, 1) := by decide +kernel
theorem dL_law_512 : decode kL_law 512 = .ok (.ireturn, 1) := by decide +kernel
theorem dL_law_513 : decode kL_law 513 = .ok (.aload_n 1, 1) := by decide +kernel
theorem dL_law_514 : decode kL_law 514 = .ok (.invokevirtual 73, 3) := by decide +kernel
theorem dL_law_517 : decode kL_law 517 = .ok (.aload_n 2, 1) := by decide +kernel
theorem dL_law_518 : decode kL_law 518 = .ok (.invokevirtual 76, 3) := by decide +kernel
theorem dL_law_521 : decode kL_law 521 = .ok (.if_icmp .eq 143, 3) := by decide +kernel
theorem dL_law_524 : decode kL_law 524 = .ok (.iconst 0, 1) := by decide +kernel
theorem dL_law_525 : decode kL_law 525 = .ok (.ireturn, 1) := by decide +kernel
theorem dL_law_526 : decode kL_law 526 = .ok (.aload_n 1, 1) := by decide +kernel
theorem dL_law_527 : decode kL_law 527 = .ok (.invokevirtual 77, 3) := by decide +kernel
theorem dL_law_530 : decode kL_law 530 = .ok (.aload_n 2, 1) := by decide +kernel
theorem dL_law_531 : decode kL_law 531 = .ok (.invokevirtual 80, 3) := by decide +kernel
theorem dL_law_534 : decode kL_law 534 = .ok (.if_icmp .eq 130, 3) := by decide +kernel
theorem dL_law_537 : decode kL_law 537 = .ok (.iconst 0, 1) := by decide +kernel
theorem dL_law_538 : decode kL_law 538 = .ok (.ireturn, 1) := by decide +kernel
theorem dL_law_539 : decode kL_law 539 = .ok (.aload_n 1, 1) := by decide +kernel
theorem dL_law_540 : decode kL_law 540 = .ok (.aload_n 0, 1) := by decide +kernel
theorem dL_law_541 : decode kL_law 541 = .ok (.iload_n 3, 1) := by decide +kernel
theorem dL_law_542 : decode kL_law 542 = .ok (.iconst 1, 1) := by decide +kernel
theorem dL_law_543 : decode kL_law 543 = .ok (.iadd, 1) := by decide +kernel
theorem dL_law_544 : decode kL_law 544 = .ok (.iaload, 1) := by decide +kernel
theorem dL_law_545 : decode kL_law 545 = .ok (.aload_n 0, 1) := by decide +kernel
theorem dL_law_546 : decode kL_law 546 = .ok (.iload_n 3, 1) := by decide +kernel
theorem dL_law_547 : decode kL_law 547 = .ok (.iconst 2, 1) := by decide +kernel
theorem dL_law_548 : decode kL_law 548 = .ok (.iadd, 1) := by decide +kernel
theorem dL_law_549 : decode kL_law 549 = .ok (.iaload, 1) := by decide +kernel
theorem dL_law_550 : decode kL_law 550 = .ok (.invokevirtual 81, 3) := by decide +kernel
theorem dL_law_553 : decode kL_law 553 = .ok (.aload_n 2, 1) := by decide +kernel
theorem dL_law_554 : decode kL_law 554 = .ok (.aload_n 0, 1) := by decide +kernel
theorem dL_law_555 : decode kL_law 555 = .ok (.iload_n 3, 1) := by decide +kernel
theorem dL_law_556 : decode kL_law 556 = .ok (.iconst 1, 1) := by decide +kernel
theorem dL_law_557 : decode kL_law 557 = .ok (.iadd, 1) := by decide +kernel
theorem dL_law_558 : decode kL_law 558 = .ok (.iaload, 1) := by decide +kernel
theorem dL_law_559 : decode kL_law 559 = .ok (.aload_n 0, 1) := by decide +kernel
theorem dL_law_560 : decode kL_law 560 = .ok (.iload_n 3, 1) := by decide +kernel
theorem dL_law_561 : decode kL_law 561 = .ok (.iconst 2, 1) := by decide +kernel
theorem dL_law_562 : decode kL_law 562 = .ok (.iadd, 1) := by decide +kernel
theorem dL_law_563 : decode kL_law 563 = .ok (.iaload, 1) := by decide +kernel
theorem dL_law_564 : decode kL_law 564 = .ok (.invokevirtual 84, 3) := by decide +kernel
theorem dL_law_567 : decode kL_law 567 = .ok (.if_icmp .eq 97, 3) := by decide +kernel
theorem dL_law_570 : decode kL_law 570 = .ok (.iconst 0, 1) := by decide +kernel
theorem dL_law_571 : decode kL_law 571 = .ok (.ireturn, 1) := by decide +kernel
theorem dL_law_572 : decode kL_law 572 = .ok (.aload_n 1, 1) := by decide +kernel
theorem dL_law_573 : decode kL_law 573 = .ok (.invokevirtual 85, 3) := by decide +kernel
theorem dL_law_576 : decode kL_law 576 = .ok (.aload_n 2, 1) := by decide +kernel
theorem dL_law_577 : decode kL_law 577 = .ok (.invokevirtual 88, 3) := by decide +kernel
theorem dL_law_580 : decode kL_law 580 = .ok (.if_icmp .eq 84, 3) := by decide +kernel
theorem dL_law_583 : decode kL_law 583 = .ok (.iconst 0, 1) := by decide +kernel
theorem dL_law_584 : decode kL_law 584 = .ok (.ireturn, 1) := by decide +kernel
theorem dL_law_585 : decode kL_law 585 = .ok (.aload_n 1, 1) := by decide +kernel
theorem dL_law_586 : decode kL_law 586 = .ok (.aload_n 0, 1) := by decide +kernel
theorem dL_law_587 : decode kL_law 587 = .ok (.iload_n 3, 1) := by decide +kernel
theorem dL_law_588 : decode kL_law 588 = .ok (.iconst 1, 1) := by decide +kernel
theorem dL_law_589 : decode kL_law 589 = .ok (.iadd, 1) := by decide +kernel
theorem dL_law_590 : decode kL_law 590 = .ok (.iaload, 1) := by decide +kernel
theorem dL_law_591 : decode kL_law 591 = .ok (.aload_n 0, 1) := by decide +kernel
theorem dL_law_592 : decode kL_law 592 = .ok (.iload_n 3, 1) := by decide +kernel
theorem dL_law_593 : decode kL_law 593 = .ok (.iconst 2, 1) := by decide +kernel
theorem dL_law_594 : decode kL_law 594 = .ok (.iadd, 1) := by decide +kernel
theorem dL_law_595 : decode kL_law 595 = .ok (.iaload, 1) := by decide +kernel
theorem dL_law_596 : decode kL_law 596 = .ok (.invokevirtual 89, 3) := by decide +kernel
theorem dL_law_599 : decode kL_law 599 = .ok (.aload_n 2, 1) := by decide +kernel
theorem dL_law_600 : decode kL_law 600 = .ok (.aload_n 0, 1) := by decide +kernel
theorem dL_law_601 : decode kL_law 601 = .ok (.iload_n 3, 1) := by decide +kernel
theorem dL_law_602 : decode kL_law 602 = .ok (.iconst 1, 1) := by decide +kernel
theorem dL_law_603 : decode kL_law 603 = .ok (.iadd, 1) := by decide +kernel
theorem dL_law_604 : decode kL_law 604 = .ok (.iaload, 1) := by decide +kernel
theorem dL_law_605 : decode kL_law 605 = .ok (.aload_n 0, 1) := by decide +kernel
theorem dL_law_606 : decode kL_law 606 = .ok (.iload_n 3, 1) := by decide +kernel
theorem dL_law_607 : decode kL_law 607 = .ok (.iconst 2, 1) := by decide +kernel
theorem dL_law_608 : decode kL_law 608 = .ok (.iadd, 1) := by decide +kernel
theorem dL_law_609 : decode kL_law 609 = .ok (.iaload, 1) := by decide +kernel
theorem dL_law_610 : decode kL_law 610 = .ok (.invokevirtual 92, 3) := by decide +kernel
theorem dL_law_613 : decode kL_law 613 = .ok (.if_icmp .eq 51, 3) := by decide +kernel
theorem dL_law_616 : decode kL_law 616 = .ok (.iconst 0, 1) := by decide +kernel
theorem dL_law_617 : decode kL_law 617 = .ok (.ireturn, 1) := by decide +kernel
theorem dL_law_618 : decode kL_law 618 = .ok (.aload_n 1, 1) := by decide +kernel
theorem dL_law_619 : decode kL_law 619 = .ok (.aload_n 0, 1) := by decide +kernel
theorem dL_law_620 : decode kL_law 620 = .ok (.iload_n 3, 1) := by decide +kernel
theorem dL_law_621 : decode kL_law 621 = .ok (.iconst 1, 1) := by decide +kernel
theorem dL_law_622 : decode kL_law 622 = .ok (.iadd, 1) := by decide +kernel
theorem dL_law_623 : decode kL_law 623 = .ok (.iaload, 1) := by decide +kernel
theorem dL_law_624 : decode kL_law 624 = .ok (.aload_n 0, 1) := by decide +kernel
theorem dL_law_625 : decode kL_law 625 = .ok (.iload_n 3, 1) := by decide +kernel
theorem dL_law_626 : decode kL_law 626 = .ok (.iconst 2, 1) := by decide +kernel
theorem dL_law_627 : decode kL_law 627 = .ok (.iadd, 1) := by decide +kernel
theorem dL_law_628 : decode kL_law 628 = .ok (.iaload, 1) := by decide +kernel
theorem dL_law_629 : decode kL_law 629 = .ok (.invokevirtual 93, 3) := by decide +kernel
theorem dL_law_632 : decode kL_law 632 = .ok (.aload_n 2, 1) := by decide +kernel
theorem dL_law_633 : decode kL_law 633 = .ok (.aload_n 0, 1) := by decide +kernel
theorem dL_law_634 : decode kL_law 634 = .ok (.iload_n 3, 1) := by decide +kernel
theorem dL_law_635 : decode kL_law 635 = .ok (.iconst 1, 1) := by decide +kernel
theorem dL_law_636 : decode kL_law 636 = .ok (.iadd, 1) := by decide +kernel
theorem dL_law_637 : decode kL_law 637 = .ok (.iaload, 1) := by decide +kernel
theorem dL_law_638 : decode kL_law 638 = .ok (.aload_n 0, 1) := by decide +kernel
theorem dL_law_639 : decode kL_law 639 = .ok (.iload_n 3, 1) := by decide +kernel
theorem dL_law_640 : decode kL_law 640 = .ok (.iconst 2, 1) := by decide +kernel
theorem dL_law_641 : decode kL_law 641 = .ok (.iadd, 1) := by decide +kernel
theorem dL_law_642 : decode kL_law 642 = .ok (.iaload, 1) := by decide +kernel
theorem dL_law_643 : decode kL_law 643 = .ok (.invokevirtual 96, 3) := by decide +kernel
theorem dL_law_646 : decode kL_law 646 = .ok (.if_icmp .eq 18, 3) := by decide +kernel
theorem dL_law_649 : decode kL_law 649 = .ok (.iconst 0, 1) := by decide +kernel
theorem dL_law_650 : decode kL_law 650 = .ok (.ireturn, 1) := by decide +kernel
theorem dL_law_651 : decode kL_law 651 = .ok (.aload_n 1, 1) := by decide +kernel
theorem dL_law_652 : decode kL_law 652 = .ok (.invokevirtual 97, 3) := by decide +kernel
theorem dL_law_655 : decode kL_law 655 = .ok (.aload_n 2, 1) := by decide +kernel
theorem dL_law_656 : decode kL_law 656 = .ok (.invokevirtual 100, 3) := by decide +kernel
theorem dL_law_659 : decode kL_law 659 = .ok (.if_icmp .eq 5, 3) := by decide +kernel
theorem dL_law_662 : decode kL_law 662 = .ok (.iconst 0, 1) := by decide +kernel
theorem dL_law_663 : decode kL_law 663 = .ok (.ireturn, 1) := by decide +kernel
theorem dL_law_664 : decode kL_law 664 = .ok (.iinc 3 4, 3) := by decide +kernel
theorem dL_law_667 : decode kL_law 667 = .ok (.goto (-649), 3) := by decide +kernel
theorem dL_law_670 : decode kL_law 670 = .ok (.iconst 1, 1) := by decide +kernel
theorem dL_law_671 : decode kL_law 671 = .ok (.ireturn, 1) := by decide +kernel
theorem law_end {p : Program} {l : Launch} {e : Env} {s : State} {m : MethodId} {below : List Frame} {meth : Method} {c : Code} {b : Nat} {θ : TH} {H : Heap} {locs : List Loc} {ls : Array Slot} {pc : Nat} (hC : Cx p s m #[Value.ref b] c kL_law 4 nRL θ) (hbs : tb θ = s.heap.size) (hr : meth.sig.returnType = ret) (hlk : meth.locks = false) (hS : Sx θ s H locs) (hdg : decode code pc = .ok (.ireturn, 1)) : W p l e room_1 s m #[Value.ref b] below meth c H locs 166 12749 (lw_Z below #[Value.ref b] s) (F0 m pc ls [.int 1]) := by
  refine va_forget (fun q hq => by have h9 : tb θ ≤ q.base := hS.2.2 q hq; omega) ?_
  refine W.widen (k := 600000) (n := 7302250) (by decide) (by decide) ?_
  exact lw_ret hC.1 hC.2.1 hr hlk hdg
