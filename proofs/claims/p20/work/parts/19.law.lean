-- ===== end of PART A; then your names; then what follows =====
/-! THE CLAIM OUT OF ONE WALK OF THE LAW'S BODY. Your part is whole_start (and what it stands on); all else here is the same for every law, but numbers. -/
def R_law : String := "ActSurgeryLaw"
def lw_P (b : Addr) (xs : List Int32) (args : Array Value) (s : State) : Prop := args = #[.ref b] ∧ s.IntsAt b xs ∧ xs.length ≤ 4096 ∧ (Jvm.Cond.and given_1 narrow_1).before args s = true
def lw_Q (_ : Array Value) (s : State) (o : Outcome) (t : State) : Prop := o = .returned (some (.int 1)) ∧ Framed s o t [] 600000 7302250
def lw_Z (below : List Frame) (a : Array Value) (s : State) : State → Prop := fun t => ∃ o, t.status = .running ∧ Ended t below o ∧ lw_Q a s o t
/-- the law's own end, with 1 on the stack, nothing written that was there before, its room as the claim has it -/
theorem lw_ret {p : Program} {l : Launch} {e : Env} {s : State} {m : MethodId} {below : List Frame} {meth : Method} {c : Code} {b : Nat} (hx : p.tables.exec = Jvm.exec) (hb : c.code = code) (hr : meth.sig.returnType = ret) (hlocks : meth.locks = false) {pc : Nat} {H : Heap} {ls : Array Slot} (hdg : decode code pc = .ok (.ireturn, 1)) : W p l e room_1 s m #[Value.ref b] below meth c H [] 600000 7302250 (lw_Z below #[Value.ref b] s) (F0 m pc ls [.int 1]) := by
  intro T hT X
  obtain ⟨fs, hret, hrun, hended, hW, hframe⟩ := X.leave (v := some (.int 1)) (hlocks := hlocks) (fun h => by rw [hr] at h; cases h)
  have hmeth' : T.vm.method? m = some meth := X.method'
  refine ⟨T.setFrames fs, ?_, .returned (some (.int 1)), hrun, hended, rfl, ⟨_, rfl⟩, hW, hframe⟩
  jvm_step X.here [X.here.top, hx, hb, hdg, hmeth', hr, ret, narrow_b1]
  (try refine ⟨rfl, ?_⟩); (try refine ⟨rfl, ?_⟩)
  first | (intro acts; rw [hret _ acts rfl rfl rfl]) | rw [hret _ _ rfl rfl rfl]
  exact Steps.refl _
/-- what holds at the law's entry: the machine, the code, the tables' words (any of lw_tbl by 'hts w (by decide +kernel)'), the script of L ints xs at the cell b, what the Statement gives of the start (any of its parts by flat_of_before) -/
def lw_At (p : Program) (s : State) (m : MethodId) (meth : Method) (c : Code) (b L : Nat) (xs : Nat → Int32) : Prop :=
  p.tables.exec = Jvm.exec ∧ c.code = code ∧ meth.sig.returnType = ret ∧ c.maxLocals = 4 ∧ s.vm.findClass R_law = some m.cls ∧ (∀ w ∈ lw_tbl, w.before #[Value.ref b] s = true) ∧ va_X b L xs s s.heap ∧ b < s.heap.size ∧ meth.locks = false ∧ (Jvm.Cond.and given_1 narrow_1).before #[Value.ref b] s = true
def yL_law : MethodName := ⟨"ActSurgeryLaw", "law", "([I)Z"⟩
def x_QL : x_QF := fun below args s _ _ _ _ => lw_Z below args s
theorem x_lawret {xl : Nat} {xs : Nat → Int32} {pc : Nat} {L : x_L} {w : x_W} {v : Int32} (hd : decode code pc = .ok (.ireturn, 1)) (hr : v = 1) : x_G (some (xl, xs)) yL_law code 4 ret room_1 x_QL pc L [.int v] w 28 1302 := by
  intro p l e s m args below meth c D cI base b H locs ls C I
  subst hr
  obtain ⟨hX, h1, h2, rfl⟩ := C.2.2.2.2.2.2.2.2.1
  refine va_forget (fun q hq => by have := I.2.2.1.2.2 q hq; dsimp only at this; omega) ?_
  refine W.widen (k := 600000) (n := 7302250) (Nat.le_of_ble_eq_true rfl) (Nat.le_of_ble_eq_true rfl) ?_
  exact lw_ret C.1 C.2.1 C.2.2.2.2.2.2.2.2.2.1 C.2.2.2.2.2.2.2.2.2.2.1 hd
theorem dL_law_0 : decode code 0 = .ok (.new 7, 3) := by decide +kernel
theorem dL_law_3 : decode code 3 = .ok (.dup, 1) := by decide +kernel
theorem dL_law_4 : decode code 4 = .ok (.invokespecial 9, 3) := by decide +kernel
theorem dL_law_7 : decode code 7 = .ok (.astore_n 1, 1) := by decide +kernel
theorem dL_law_8 : decode code 8 = .ok (.new 10, 3) := by decide +kernel
theorem dL_law_11 : decode code 11 = .ok (.dup, 1) := by decide +kernel
theorem dL_law_12 : decode code 12 = .ok (.invokespecial 12, 3) := by decide +kernel
theorem dL_law_15 : decode code 15 = .ok (.astore_n 2, 1) := by decide +kernel
theorem dL_law_16 : decode code 16 = .ok (.iconst 0, 1) := by decide +kernel
theorem dL_law_17 : decode code 17 = .ok (.istore_n 3, 1) := by decide +kernel
theorem dL_law_18 : decode code 18 = .ok (.iload_n 3, 1) := by decide +kernel
theorem dL_law_19 : decode code 19 = .ok (.aload_n 0, 1) := by decide +kernel
theorem dL_law_20 : decode code 20 = .ok (.arraylength, 1) := by decide +kernel
theorem dL_law_21 : decode code 21 = .ok (.bipush 8, 2) := by decide +kernel
theorem dL_law_23 : decode code 23 = .ok (.isub, 1) := by decide +kernel
theorem dL_law_24 : decode code 24 = .ok (.if_icmp .gt 837, 3) := by decide +kernel
theorem dL_law_27 : decode code 27 = .ok (.aload_n 0, 1) := by decide +kernel
theorem dL_law_28 : decode code 28 = .ok (.iload_n 3, 1) := by decide +kernel
theorem dL_law_29 : decode code 29 = .ok (.iaload, 1) := by decide +kernel
theorem dL_law_30 : decode code 30 = .ok (.bipush 31, 2) := by decide +kernel
theorem dL_law_32 : decode code 32 = .ok (.iand, 1) := by decide +kernel
theorem dL_law_33 : decode code 33 = .ok (.tableswitch 822 0 18 #[91, 114, 147, 190, 239, 262, 295, 338, 371, 414, 467, 510, 533, 620, 707, 740, 773, 786, 799], 91) := by decide +kernel
theorem dL_law_124 : decode code 124 = .ok (.aload_n 1, 1) := by decide +kernel
theorem dL_law_125 : decode code 125 = .ok (.aload_n 0, 1) := by decide +kernel
theorem dL_law_126 : decode code 126 = .ok (.iload_n 3, 1) := by decide +kernel
theorem dL_law_127 : decode code 127 = .ok (.iconst 1, 1) := by decide +kernel
theorem dL_law_128 : decode code 128 = .ok (.iadd, 1) := by decide +kernel
theorem dL_law_129 : decode code 129 = .ok (.iaload, 1) := by decide +kernel
theorem dL_law_130 : decode code 130 = .ok (.invokevirtual 13, 3) := by decide +kernel
theorem dL_law_133 : decode code 133 = .ok (.pop, 1) := by decide +kernel
theorem dL_law_134 : decode code 134 = .ok (.aload_n 2, 1) := by decide +kernel
theorem dL_law_135 : decode code 135 = .ok (.aload_n 0, 1) := by decide +kernel
theorem dL_law_136 : decode code 136 = .ok (.iload_n 3, 1) := by decide +kernel
theorem dL_law_137 : decode code 137 = .ok (.iconst 1, 1) := by decide +kernel
theorem dL_law_138 : decode code 138 = .ok (.iadd, 1) := by decide +kernel
theorem dL_law_139 : decode code 139 = .ok (.iaload, 1) := by decide +kernel
theorem dL_law_140 : decode code 140 = .ok (.invokevirtual 17, 3) := by decide +kernel
theorem dL_law_143 : decode code 143 = .ok (.pop, 1) := by decide +kernel
theorem dL_law_144 : decode code 144 = .ok (.goto 711, 3) := by decide +kernel
theorem dL_law_147 : decode code 147 = .ok (.aload_n 1, 1) := by decide +kernel
theorem dL_law_148 : decode code 148 = .ok (.aload_n 0, 1) := by decide +kernel
theorem dL_law_149 : decode code 149 = .ok (.iload_n 3, 1) := by decide +kernel
theorem dL_law_150 : decode code 150 = .ok (.iconst 1, 1) := by decide +kernel
theorem dL_law_151 : decode code 151 = .ok (.iadd, 1) := by decide +kernel
theorem dL_law_152 : decode code 152 = .ok (.iaload, 1) := by decide +kernel
theorem dL_law_153 : decode code 153 = .ok (.aload_n 0, 1) := by decide +kernel
theorem dL_law_154 : decode code 154 = .ok (.iload_n 3, 1) := by decide +kernel
theorem dL_law_155 : decode code 155 = .ok (.iconst 2, 1) := by decide +kernel
theorem dL_law_156 : decode code 156 = .ok (.iadd, 1) := by decide +kernel
theorem dL_law_157 : decode code 157 = .ok (.iaload, 1) := by decide +kernel
theorem dL_law_158 : decode code 158 = .ok (.invokevirtual 18, 3) := by decide +kernel
theorem dL_law_161 : decode code 161 = .ok (.pop, 1) := by decide +kernel
theorem dL_law_162 : decode code 162 = .ok (.aload_n 2, 1) := by decide +kernel
theorem dL_law_163 : decode code 163 = .ok (.aload_n 0, 1) := by decide +kernel
theorem dL_law_164 : decode code 164 = .ok (.iload_n 3, 1) := by decide +kernel
theorem dL_law_165 : decode code 165 = .ok (.iconst 1, 1) := by decide +kernel
theorem dL_law_166 : decode code 166 = .ok (.iadd, 1) := by decide +kernel
theorem dL_law_167 : decode code 167 = .ok (.iaload, 1) := by decide +kernel
theorem dL_law_168 : decode code 168 = .ok (.aload_n 0, 1) := by decide +kernel
theorem dL_law_169 : decode code 169 = .ok (.iload_n 3, 1) := by decide +kernel
theorem dL_law_170 : decode code 170 = .ok (.iconst 2, 1) := by decide +kernel
theorem dL_law_171 : decode code 171 = .ok (.iadd, 1) := by decide +kernel
theorem dL_law_172 : decode code 172 = .ok (.iaload, 1) := by decide +kernel
theorem dL_law_173 : decode code 173 = .ok (.invokevirtual 22, 3) := by decide +kernel
theorem dL_law_176 : decode code 176 = .ok (.pop, 1) := by decide +kernel
theorem dL_law_177 : decode code 177 = .ok (.goto 678, 3) := by decide +kernel
theorem dL_law_180 : decode code 180 = .ok (.aload_n 1, 1) := by decide +kernel
theorem dL_law_181 : decode code 181 = .ok (.aload_n 0, 1) := by decide +kernel
theorem dL_law_182 : decode code 182 = .ok (.iload_n 3, 1) := by decide +kernel
theorem dL_law_183 : decode code 183 = .ok (.iconst 1, 1) := by decide +kernel
theorem dL_law_184 : decode code 184 = .ok (.iadd, 1) := by decide +kernel
theorem dL_law_185 : decode code 185 = .ok (.iaload, 1) := by decide +kernel
theorem dL_law_186 : decode code 186 = .ok (.aload_n 0, 1) := by decide +kernel
theorem dL_law_187 : decode code 187 = .ok (.iload_n 3, 1) := by decide +kernel
theorem dL_law_188 : decode code 188 = .ok (.iconst 2, 1) := by decide +kernel
theorem dL_law_189 : decode code 189 = .ok (.iadd, 1) := by decide +kernel
theorem dL_law_190 : decode code 190 = .ok (.iaload, 1) := by decide +kernel
theorem dL_law_191 : decode code 191 = .ok (.aload_n 0, 1) := by decide +kernel
theorem dL_law_192 : decode code 192 = .ok (.iload_n 3, 1) := by decide +kernel
theorem dL_law_193 : decode code 193 = .ok (.iconst 3, 1) := by decide +kernel
theorem dL_law_194 : decode code 194 = .ok (.iadd, 1) := by decide +kernel
theorem dL_law_195 : decode code 195 = .ok (.iaload, 1) := by decide +kernel
theorem dL_law_196 : decode code 196 = .ok (.invokevirtual 23, 3) := by decide +kernel
theorem dL_law_199 : decode code 199 = .ok (.pop, 1) := by decide +kernel
theorem dL_law_200 : decode code 200 = .ok (.aload_n 2, 1) := by decide +kernel
theorem dL_law_201 : decode code 201 = .ok (.aload_n 0, 1) := by decide +kernel
theorem dL_law_202 : decode code 202 = .ok (.iload_n 3, 1) := by decide +kernel
theorem dL_law_203 : decode code 203 = .ok (.iconst 1, 1) := by decide +kernel
theorem dL_law_204 : decode code 204 = .ok (.iadd, 1) := by decide +kernel
theorem dL_law_205 : decode code 205 = .ok (.iaload, 1) := by decide +kernel
theorem dL_law_206 : decode code 206 = .ok (.aload_n 0, 1) := by decide +kernel
theorem dL_law_207 : decode code 207 = .ok (.iload_n 3, 1) := by decide +kernel
theorem dL_law_208 : decode code 208 = .ok (.iconst 2, 1) := by decide +kernel
theorem dL_law_209 : decode code 209 = .ok (.iadd, 1) := by decide +kernel
theorem dL_law_210 : decode code 210 = .ok (.iaload, 1) := by decide +kernel
theorem dL_law_211 : decode code 211 = .ok (.aload_n 0, 1) := by decide +kernel
theorem dL_law_212 : decode code 212 = .ok (.iload_n 3, 1) := by decide +kernel
theorem dL_law_213 : decode code 213 = .ok (.iconst 3, 1) := by decide +kernel
theorem dL_law_214 : decode code 214 = .ok (.iadd, 1) := by decide +kernel
theorem dL_law_215 : decode code 215 = .ok (.iaload, 1) := by decide +kernel
theorem dL_law_216 : decode code 216 = .ok (.invokevirtual 27, 3) := by decide +kernel
theorem dL_law_219 : decode code 219 = .ok (.pop, 1) := by decide +kernel
theorem dL_law_220 : decode code 220 = .ok (.goto 635, 3) := by decide +kernel
theorem dL_law_223 : decode code 223 = .ok (.aload_n 1, 1) := by decide +kernel
theorem dL_law_224 : decode code 224 = .ok (.aload_n 0, 1) := by decide +kernel
theorem dL_law_225 : decode code 225 = .ok (.iload_n 3, 1) := by decide +kernel
theorem dL_law_226 : decode code 226 = .ok (.iconst 1, 1) := by decide +kernel
theorem dL_law_227 : decode code 227 = .ok (.iadd, 1) := by decide +kernel
theorem dL_law_228 : decode code 228 = .ok (.iaload, 1) := by decide +kernel
theorem dL_law_229 : decode code 229 = .ok (.aload_n 0, 1) := by decide +kernel
theorem dL_law_230 : decode code 230 = .ok (.iload_n 3, 1) := by decide +kernel
theorem dL_law_231 : decode code 231 = .ok (.iconst 2, 1) := by decide +kernel
theorem dL_law_232 : decode code 232 = .ok (.iadd, 1) := by decide +kernel
theorem dL_law_233 : decode code 233 = .ok (.iaload, 1) := by decide +kernel
theorem dL_law_234 : decode code 234 = .ok (.ifCond .eq 7, 3) := by decide +kernel
theorem dL_law_237 : decode code 237 = .ok (.iconst 1, 1) := by decide +kernel
theorem dL_law_238 : decode code 238 = .ok (.goto 4, 3) := by decide +kernel
theorem dL_law_241 : decode code 241 = .ok (.iconst 0, 1) := by decide +kernel
theorem dL_law_242 : decode code 242 = .ok (.invokevirtual 28, 3) := by decide +kernel
theorem dL_law_245 : decode code 245 = .ok (.pop, 1) := by decide +kernel
theorem dL_law_246 : decode code 246 = .ok (.aload_n 2, 1) := by decide +kernel
theorem dL_law_247 : decode code 247 = .ok (.aload_n 0, 1) := by decide +kernel
theorem dL_law_248 : decode code 248 = .ok (.iload_n 3, 1) := by decide +kernel
theorem dL_law_249 : decode code 249 = .ok (.iconst 1, 1) := by decide +kernel
theorem dL_law_250 : decode code 250 = .ok (.iadd, 1) := by decide +kernel
theorem dL_law_251 : decode code 251 = .ok (.iaload, 1) := by decide +kernel
theorem dL_law_252 : decode code 252 = .ok (.aload_n 0, 1) := by decide +kernel
theorem dL_law_253 : decode code 253 = .ok (.iload_n 3, 1) := by decide +kernel
theorem dL_law_254 : decode code 254 = .ok (.iconst 2, 1) := by decide +kernel
theorem dL_law_255 : decode code 255 = .ok (.iadd, 1) := by decide +kernel
theorem dL_law_256 : decode code 256 = .ok (.iaload, 1) := by decide +kernel
theorem dL_law_257 : decode code 257 = .ok (.ifCond .eq 7, 3) := by decide +kernel
theorem dL_law_260 : decode code 260 = .ok (.iconst 1, 1) := by decide +kernel
theorem dL_law_261 : decode code 261 = .ok (.goto 4, 3) := by decide +kernel
theorem dL_law_264 : decode code 264 = .ok (.iconst 0, 1) := by decide +kernel
theorem dL_law_265 : decode code 265 = .ok (.invokevirtual 32, 3) := by decide +kernel
theorem dL_law_268 : decode code 268 = .ok (.pop, 1) := by decide +kernel
theorem dL_law_269 : decode code 269 = .ok (.goto 586, 3) := by decide +kernel
theorem dL_law_272 : decode code 272 = .ok (.aload_n 1, 1) := by decide +kernel
theorem dL_law_273 : decode code 273 = .ok (.aload_n 0, 1) := by decide +kernel
theorem dL_law_274 : decode code 274 = .ok (.iload_n 3, 1) := by decide +kernel
theorem dL_law_275 : decode code 275 = .ok (.iconst 1, 1) := by decide +kernel
theorem dL_law_276 : decode code 276 = .ok (.iadd, 1) := by decide +kernel
theorem dL_law_277 : decode code 277 = .ok (.iaload, 1) := by decide +kernel
theorem dL_law_278 : decode code 278 = .ok (.invokevirtual 33, 3) := by decide +kernel
theorem dL_law_281 : decode code 281 = .ok (.pop, 1) := by decide +kernel
theorem dL_law_282 : decode code 282 = .ok (.aload_n 2, 1) := by decide +kernel
theorem dL_law_283 : decode code 283 = .ok (.aload_n 0, 1) := by decide +kernel
theorem dL_law_284 : decode code 284 = .ok (.iload_n 3, 1) := by decide +kernel
theorem dL_law_285 : decode code 285 = .ok (.iconst 1, 1) := by decide +kernel
theorem dL_law_286 : decode code 286 = .ok (.iadd, 1) := by decide +kernel
theorem dL_law_287 : decode code 287 = .ok (.iaload, 1) := by decide +kernel
theorem dL_law_288 : decode code 288 = .ok (.invokevirtual 36, 3) := by decide +kernel
theorem dL_law_291 : decode code 291 = .ok (.pop, 1) := by decide +kernel
theorem dL_law_292 : decode code 292 = .ok (.goto 563, 3) := by decide +kernel
theorem dL_law_295 : decode code 295 = .ok (.aload_n 1, 1) := by decide +kernel
theorem dL_law_296 : decode code 296 = .ok (.aload_n 0, 1) := by decide +kernel
theorem dL_law_297 : decode code 297 = .ok (.iload_n 3, 1) := by decide +kernel
theorem dL_law_298 : decode code 298 = .ok (.iconst 1, 1) := by decide +kernel
theorem dL_law_299 : decode code 299 = .ok (.iadd, 1) := by decide +kernel
theorem dL_law_300 : decode code 300 = .ok (.iaload, 1) := by decide +kernel
theorem dL_law_301 : decode code 301 = .ok (.aload_n 0, 1) := by decide +kernel
theorem dL_law_302 : decode code 302 = .ok (.iload_n 3, 1) := by decide +kernel
theorem dL_law_303 : decode code 303 = .ok (.iconst 2, 1) := by decide +kernel
theorem dL_law_304 : decode code 304 = .ok (.iadd, 1) := by decide +kernel
theorem dL_law_305 : decode code 305 = .ok (.iaload, 1) := by decide +kernel
theorem dL_law_306 : decode code 306 = .ok (.invokevirtual 37, 3) := by decide +kernel
theorem dL_law_309 : decode code 309 = .ok (.pop, 1) := by decide +kernel
theorem dL_law_310 : decode code 310 = .ok (.aload_n 2, 1) := by decide +kernel
theorem dL_law_311 : decode code 311 = .ok (.aload_n 0, 1) := by decide +kernel
theorem dL_law_312 : decode code 312 = .ok (.iload_n 3, 1) := by decide +kernel
theorem dL_law_313 : decode code 313 = .ok (.iconst 1, 1) := by decide +kernel
theorem dL_law_314 : decode code 314 = .ok (.iadd, 1) := by decide +kernel
theorem dL_law_315 : decode code 315 = .ok (.iaload, 1) := by decide +kernel
theorem dL_law_316 : decode code 316 = .ok (.aload_n 0, 1) := by decide +kernel
theorem dL_law_317 : decode code 317 = .ok (.iload_n 3, 1) := by decide +kernel
theorem dL_law_318 : decode code 318 = .ok (.iconst 2, 1) := by decide +kernel
theorem dL_law_319 : decode code 319 = .ok (.iadd, 1) := by decide +kernel
theorem dL_law_320 : decode code 320 = .ok (.iaload, 1) := by decide +kernel
theorem dL_law_321 : decode code 321 = .ok (.invokevirtual 40, 3) := by decide +kernel
theorem dL_law_324 : decode code 324 = .ok (.pop, 1) := by decide +kernel
theorem dL_law_325 : decode code 325 = .ok (.goto 530, 3) := by decide +kernel
theorem dL_law_328 : decode code 328 = .ok (.aload_n 1, 1) := by decide +kernel
theorem dL_law_329 : decode code 329 = .ok (.aload_n 0, 1) := by decide +kernel
theorem dL_law_330 : decode code 330 = .ok (.iload_n 3, 1) := by decide +kernel
theorem dL_law_331 : decode code 331 = .ok (.iconst 1, 1) := by decide +kernel
theorem dL_law_332 : decode code 332 = .ok (.iadd, 1) := by decide +kernel
theorem dL_law_333 : decode code 333 = .ok (.iaload, 1) := by decide +kernel
theorem dL_law_334 : decode code 334 = .ok (.aload_n 0, 1) := by decide +kernel
theorem dL_law_335 : decode code 335 = .ok (.iload_n 3, 1) := by decide +kernel
theorem dL_law_336 : decode code 336 = .ok (.iconst 2, 1) := by decide +kernel
theorem dL_law_337 : decode code 337 = .ok (.iadd, 1) := by decide +kernel
theorem dL_law_338 : decode code 338 = .ok (.iaload, 1) := by decide +kernel
theorem dL_law_339 : decode code 339 = .ok (.aload_n 0, 1) := by decide +kernel
theorem dL_law_340 : decode code 340 = .ok (.iload_n 3, 1) := by decide +kernel
theorem dL_law_341 : decode code 341 = .ok (.iconst 3, 1) := by decide +kernel
theorem dL_law_342 : decode code 342 = .ok (.iadd, 1) := by decide +kernel
theorem dL_law_343 : decode code 343 = .ok (.iaload, 1) := by decide +kernel
theorem dL_law_344 : decode code 344 = .ok (.invokevirtual 41, 3) := by decide +kernel
theorem dL_law_347 : decode code 347 = .ok (.pop, 1) := by decide +kernel
theorem dL_law_348 : decode code 348 = .ok (.aload_n 2, 1) := by decide +kernel
theorem dL_law_349 : decode code 349 = .ok (.aload_n 0, 1) := by decide +kernel
theorem dL_law_350 : decode code 350 = .ok (.iload_n 3, 1) := by decide +kernel
theorem dL_law_351 : decode code 351 = .ok (.iconst 1, 1) := by decide +kernel
theorem dL_law_352 : decode code 352 = .ok (.iadd, 1) := by decide +kernel
theorem dL_law_353 : decode code 353 = .ok (.iaload, 1) := by decide +kernel
theorem dL_law_354 : decode code 354 = .ok (.aload_n 0, 1) := by decide +kernel
theorem dL_law_355 : decode code 355 = .ok (.iload_n 3, 1) := by decide +kernel
theorem dL_law_356 : decode code 356 = .ok (.iconst 2, 1) := by decide +kernel
theorem dL_law_357 : decode code 357 = .ok (.iadd, 1) := by decide +kernel
theorem dL_law_358 : decode code 358 = .ok (.iaload, 1) := by decide +kernel
theorem dL_law_359 : decode code 359 = .ok (.aload_n 0, 1) := by decide +kernel
theorem dL_law_360 : decode code 360 = .ok (.iload_n 3, 1) := by decide +kernel
theorem dL_law_361 : decode code 361 = .ok (.iconst 3, 1) := by decide +kernel
theorem dL_law_362 : decode code 362 = .ok (.iadd, 1) := by decide +kernel
theorem dL_law_363 : decode code 363 = .ok (.iaload, 1) := by decide +kernel
theorem dL_law_364 : decode code 364 = .ok (.invokevirtual 44, 3) := by decide +kernel
theorem dL_law_367 : decode code 367 = .ok (.pop, 1) := by decide +kernel
theorem dL_law_368 : decode code 368 = .ok (.goto 487, 3) := by decide +kernel
theorem dL_law_371 : decode code 371 = .ok (.aload_n 1, 1) := by decide +kernel
theorem dL_law_372 : decode code 372 = .ok (.aload_n 0, 1) := by decide +kernel
theorem dL_law_373 : decode code 373 = .ok (.iload_n 3, 1) := by decide +kernel
theorem dL_law_374 : decode code 374 = .ok (.iconst 1, 1) := by decide +kernel
theorem dL_law_375 : decode code 375 = .ok (.iadd, 1) := by decide +kernel
theorem dL_law_376 : decode code 376 = .ok (.iaload, 1) := by decide +kernel
theorem dL_law_377 : decode code 377 = .ok (.aload_n 0, 1) := by decide +kernel
theorem dL_law_378 : decode code 378 = .ok (.iload_n 3, 1) := by decide +kernel
theorem dL_law_379 : decode code 379 = .ok (.iconst 2, 1) := by decide +kernel
theorem dL_law_380 : decode code 380 = .ok (.iadd, 1) := by decide +kernel
theorem dL_law_381 : decode code 381 = .ok (.iaload, 1) := by decide +kernel
theorem dL_law_382 : decode code 382 = .ok (.invokevirtual 45, 3) := by decide +kernel
theorem dL_law_385 : decode code 385 = .ok (.pop, 1) := by decide +kernel
theorem dL_law_386 : decode code 386 = .ok (.aload_n 2, 1) := by decide +kernel
theorem dL_law_387 : decode code 387 = .ok (.aload_n 0, 1) := by decide +kernel
theorem dL_law_388 : decode code 388 = .ok (.iload_n 3, 1) := by decide +kernel
theorem dL_law_389 : decode code 389 = .ok (.iconst 1, 1) := by decide +kernel
theorem dL_law_390 : decode code 390 = .ok (.iadd, 1) := by decide +kernel
theorem dL_law_391 : decode code 391 = .ok (.iaload, 1) := by decide +kernel
theorem dL_law_392 : decode code 392 = .ok (.aload_n 0, 1) := by decide +kernel
theorem dL_law_393 : decode code 393 = .ok (.iload_n 3, 1) := by decide +kernel
theorem dL_law_394 : decode code 394 = .ok (.iconst 2, 1) := by decide +kernel
theorem dL_law_395 : decode code 395 = .ok (.iadd, 1) := by decide +kernel
theorem dL_law_396 : decode code 396 = .ok (.iaload, 1) := by decide +kernel
theorem dL_law_397 : decode code 397 = .ok (.invokevirtual 48, 3) := by decide +kernel
theorem dL_law_400 : decode code 400 = .ok (.pop, 1) := by decide +kernel
theorem dL_law_401 : decode code 401 = .ok (.goto 454, 3) := by decide +kernel
theorem dL_law_404 : decode code 404 = .ok (.aload_n 1, 1) := by decide +kernel
theorem dL_law_405 : decode code 405 = .ok (.aload_n 0, 1) := by decide +kernel
theorem dL_law_406 : decode code 406 = .ok (.iload_n 3, 1) := by decide +kernel
theorem dL_law_407 : decode code 407 = .ok (.iconst 1, 1) := by decide +kernel
theorem dL_law_408 : decode code 408 = .ok (.iadd, 1) := by decide +kernel
theorem dL_law_409 : decode code 409 = .ok (.iaload, 1) := by decide +kernel
theorem dL_law_410 : decode code 410 = .ok (.aload_n 0, 1) := by decide +kernel
theorem dL_law_411 : decode code 411 = .ok (.iload_n 3, 1) := by decide +kernel
theorem dL_law_412 : decode code 412 = .ok (.iconst 2, 1) := by decide +kernel
theorem dL_law_413 : decode code 413 = .ok (.iadd, 1) := by decide +kernel
theorem dL_law_414 : decode code 414 = .ok (.iaload, 1) := by decide +kernel
theorem dL_law_415 : decode code 415 = .ok (.aload_n 0, 1) := by decide +kernel
theorem dL_law_416 : decode code 416 = .ok (.iload_n 3, 1) := by decide +kernel
theorem dL_law_417 : decode code 417 = .ok (.iconst 3, 1) := by decide +kernel
theorem dL_law_418 : decode code 418 = .ok (.iadd, 1) := by decide +kernel
theorem dL_law_419 : decode code 419 = .ok (.iaload, 1) := by decide +kernel
theorem dL_law_420 : decode code 420 = .ok (.invokevirtual 49, 3) := by decide +kernel
theorem dL_law_423 : decode code 423 = .ok (.pop, 1) := by decide +kernel
theorem dL_law_424 : decode code 424 = .ok (.aload_n 2, 1) := by decide +kernel
theorem dL_law_425 : decode code 425 = .ok (.aload_n 0, 1) := by decide +kernel
theorem dL_law_426 : decode code 426 = .ok (.iload_n 3, 1) := by decide +kernel
theorem dL_law_427 : decode code 427 = .ok (.iconst 1, 1) := by decide +kernel
theorem dL_law_428 : decode code 428 = .ok (.iadd, 1) := by decide +kernel
theorem dL_law_429 : decode code 429 = .ok (.iaload, 1) := by decide +kernel
theorem dL_law_430 : decode code 430 = .ok (.aload_n 0, 1) := by decide +kernel
theorem dL_law_431 : decode code 431 = .ok (.iload_n 3, 1) := by decide +kernel
theorem dL_law_432 : decode code 432 = .ok (.iconst 2, 1) := by decide +kernel
theorem dL_law_433 : decode code 433 = .ok (.iadd, 1) := by decide +kernel
theorem dL_law_434 : decode code 434 = .ok (.iaload, 1) := by decide +kernel
theorem dL_law_435 : decode code 435 = .ok (.aload_n 0, 1) := by decide +kernel
theorem dL_law_436 : decode code 436 = .ok (.iload_n 3, 1) := by decide +kernel
theorem dL_law_437 : decode code 437 = .ok (.iconst 3, 1) := by decide +kernel
theorem dL_law_438 : decode code 438 = .ok (.iadd, 1) := by decide +kernel
theorem dL_law_439 : decode code 439 = .ok (.iaload, 1) := by decide +kernel
theorem dL_law_440 : decode code 440 = .ok (.invokevirtual 52, 3) := by decide +kernel
theorem dL_law_443 : decode code 443 = .ok (.pop, 1) := by decide +kernel
theorem dL_law_444 : decode code 444 = .ok (.goto 411, 3) := by decide +kernel
theorem dL_law_447 : decode code 447 = .ok (.aload_n 1, 1) := by decide +kernel
theorem dL_law_448 : decode code 448 = .ok (.aload_n 0, 1) := by decide +kernel
theorem dL_law_449 : decode code 449 = .ok (.iload_n 3, 1) := by decide +kernel
theorem dL_law_450 : decode code 450 = .ok (.iconst 1, 1) := by decide +kernel
theorem dL_law_451 : decode code 451 = .ok (.iadd, 1) := by decide +kernel
theorem dL_law_452 : decode code 452 = .ok (.iaload, 1) := by decide +kernel
theorem dL_law_453 : decode code 453 = .ok (.aload_n 0, 1) := by decide +kernel
theorem dL_law_454 : decode code 454 = .ok (.iload_n 3, 1) := by decide +kernel
theorem dL_law_455 : decode code 455 = .ok (.iconst 2, 1) := by decide +kernel
theorem dL_law_456 : decode code 456 = .ok (.iadd, 1) := by decide +kernel
theorem dL_law_457 : decode code 457 = .ok (.iaload, 1) := by decide +kernel
theorem dL_law_458 : decode code 458 = .ok (.aload_n 0, 1) := by decide +kernel
theorem dL_law_459 : decode code 459 = .ok (.iload_n 3, 1) := by decide +kernel
theorem dL_law_460 : decode code 460 = .ok (.iconst 3, 1) := by decide +kernel
theorem dL_law_461 : decode code 461 = .ok (.iadd, 1) := by decide +kernel
theorem dL_law_462 : decode code 462 = .ok (.iaload, 1) := by decide +kernel
theorem dL_law_463 : decode code 463 = .ok (.aload_n 0, 1) := by decide +kernel
theorem dL_law_464 : decode code 464 = .ok (.iload_n 3, 1) := by decide +kernel
theorem dL_law_465 : decode code 465 = .ok (.iconst 4, 1) := by decide +kernel
theorem dL_law_466 : decode code 466 = .ok (.iadd, 1) := by decide +kernel
theorem dL_law_467 : decode code 467 = .ok (.iaload, 1) := by decide +kernel
theorem dL_law_468 : decode code 468 = .ok (.invokevirtual 53, 3) := by decide +kernel
theorem dL_law_471 : decode code 471 = .ok (.pop, 1) := by decide +kernel
theorem dL_law_472 : decode code 472 = .ok (.aload_n 2, 1) := by decide +kernel
theorem dL_law_473 : decode code 473 = .ok (.aload_n 0, 1) := by decide +kernel
theorem dL_law_474 : decode code 474 = .ok (.iload_n 3, 1) := by decide +kernel
theorem dL_law_475 : decode code 475 = .ok (.iconst 1, 1) := by decide +kernel
theorem dL_law_476 : decode code 476 = .ok (.iadd, 1) := by decide +kernel
theorem dL_law_477 : decode code 477 = .ok (.iaload, 1) := by decide +kernel
theorem dL_law_478 : decode code 478 = .ok (.aload_n 0, 1) := by decide +kernel
theorem dL_law_479 : decode code 479 = .ok (.iload_n 3, 1) := by decide +kernel
theorem dL_law_480 : decode code 480 = .ok (.iconst 2, 1) := by decide +kernel
theorem dL_law_481 : decode code 481 = .ok (.iadd, 1) := by decide +kernel
theorem dL_law_482 : decode code 482 = .ok (.iaload, 1) := by decide +kernel
theorem dL_law_483 : decode code 483 = .ok (.aload_n 0, 1) := by decide +kernel
theorem dL_law_484 : decode code 484 = .ok (.iload_n 3, 1) := by decide +kernel
theorem dL_law_485 : decode code 485 = .ok (.iconst 3, 1) := by decide +kernel
theorem dL_law_486 : decode code 486 = .ok (.iadd, 1) := by decide +kernel
theorem dL_law_487 : decode code 487 = .ok (.iaload, 1) := by decide +kernel
theorem dL_law_488 : decode code 488 = .ok (.aload_n 0, 1) := by decide +kernel
theorem dL_law_489 : decode code 489 = .ok (.iload_n 3, 1) := by decide +kernel
theorem dL_law_490 : decode code 490 = .ok (.iconst 4, 1) := by decide +kernel
theorem dL_law_491 : decode code 491 = .ok (.iadd, 1) := by decide +kernel
theorem dL_law_492 : decode code 492 = .ok (.iaload, 1) := by decide +kernel
theorem dL_law_493 : decode code 493 = .ok (.invokevirtual 57, 3) := by decide +kernel
theorem dL_law_496 : decode code 496 = .ok (.pop, 1) := by decide +kernel
theorem dL_law_497 : decode code 497 = .ok (.goto 358, 3) := by decide +kernel
theorem dL_law_500 : decode code 500 = .ok (.aload_n 1, 1) := by decide +kernel
theorem dL_law_501 : decode code 501 = .ok (.aload_n 0, 1) := by decide +kernel
theorem dL_law_502 : decode code 502 = .ok (.iload_n 3, 1) := by decide +kernel
theorem dL_law_503 : decode code 503 = .ok (.iconst 1, 1) := by decide +kernel
theorem dL_law_504 : decode code 504 = .ok (.iadd, 1) := by decide +kernel
theorem dL_law_505 : decode code 505 = .ok (.iaload, 1) := by decide +kernel
theorem dL_law_506 : decode code 506 = .ok (.aload_n 0, 1) := by decide +kernel
theorem dL_law_507 : decode code 507 = .ok (.iload_n 3, 1) := by decide +kernel
theorem dL_law_508 : decode code 508 = .ok (.iconst 2, 1) := by decide +kernel
theorem dL_law_509 : decode code 509 = .ok (.iadd, 1) := by decide +kernel
theorem dL_law_510 : decode code 510 = .ok (.iaload, 1) := by decide +kernel
theorem dL_law_511 : decode code 511 = .ok (.aload_n 0, 1) := by decide +kernel
theorem dL_law_512 : decode code 512 = .ok (.iload_n 3, 1) := by decide +kernel
theorem dL_law_513 : decode code 513 = .ok (.iconst 3, 1) := by decide +kernel
theorem dL_law_514 : decode code 514 = .ok (.iadd, 1) := by decide +kernel
theorem dL_law_515 : decode code 515 = .ok (.iaload, 1) := by decide +kernel
theorem dL_law_516 : decode code 516 = .ok (.invokevirtual 58, 3) := by decide +kernel
theorem dL_law_519 : decode code 519 = .ok (.pop, 1) := by decide +kernel
theorem dL_law_520 : decode code 520 = .ok (.aload_n 2, 1) := by decide +kernel
theorem dL_law_521 : decode code 521 = .ok (.aload_n 0, 1) := by decide +kernel
theorem dL_law_522 : decode code 522 = .ok (.iload_n 3, 1) := by decide +kernel
theorem dL_law_523 : decode code 523 = .ok (.iconst 1, 1) := by decide +kernel
theorem dL_law_524 : decode code 524 = .ok (.iadd, 1) := by decide +kernel
theorem dL_law_525 : decode code 525 = .ok (.iaload, 1) := by decide +kernel
theorem dL_law_526 : decode code 526 = .ok (.aload_n 0, 1) := by decide +kernel
theorem dL_law_527 : decode code 527 = .ok (.iload_n 3, 1) := by decide +kernel
theorem dL_law_528 : decode code 528 = .ok (.iconst 2, 1) := by decide +kernel
theorem dL_law_529 : decode code 529 = .ok (.iadd, 1) := by decide +kernel
theorem dL_law_530 : decode code 530 = .ok (.iaload, 1) := by decide +kernel
theorem dL_law_531 : decode code 531 = .ok (.aload_n 0, 1) := by decide +kernel
theorem dL_law_532 : decode code 532 = .ok (.iload_n 3, 1) := by decide +kernel
theorem dL_law_533 : decode code 533 = .ok (.iconst 3, 1) := by decide +kernel
theorem dL_law_534 : decode code 534 = .ok (.iadd, 1) := by decide +kernel
theorem dL_law_535 : decode code 535 = .ok (.iaload, 1) := by decide +kernel
theorem dL_law_536 : decode code 536 = .ok (.invokevirtual 61, 3) := by decide +kernel
theorem dL_law_539 : decode code 539 = .ok (.pop, 1) := by decide +kernel
theorem dL_law_540 : decode code 540 = .ok (.goto 315, 3) := by decide +kernel
theorem dL_law_543 : decode code 543 = .ok (.aload_n 1, 1) := by decide +kernel
theorem dL_law_544 : decode code 544 = .ok (.aload_n 0, 1) := by decide +kernel
theorem dL_law_545 : decode code 545 = .ok (.iload_n 3, 1) := by decide +kernel
theorem dL_law_546 : decode code 546 = .ok (.iconst 1, 1) := by decide +kernel
theorem dL_law_547 : decode code 547 = .ok (.iadd, 1) := by decide +kernel
theorem dL_law_548 : decode code 548 = .ok (.iaload, 1) := by decide +kernel
theorem dL_law_549 : decode code 549 = .ok (.invokevirtual 62, 3) := by decide +kernel
theorem dL_law_552 : decode code 552 = .ok (.pop, 1) := by decide +kernel
theorem dL_law_553 : decode code 553 = .ok (.aload_n 2, 1) := by decide +kernel
theorem dL_law_554 : decode code 554 = .ok (.aload_n 0, 1) := by decide +kernel
theorem dL_law_555 : decode code 555 = .ok (.iload_n 3, 1) := by decide +kernel
theorem dL_law_556 : decode code 556 = .ok (.iconst 1, 1) := by decide +kernel
theorem dL_law_557 : decode code 557 = .ok (.iadd, 1) := by decide +kernel
theorem dL_law_558 : decode code 558 = .ok (.iaload, 1) := by decide +kernel
theorem dL_law_559 : decode code 559 = .ok (.invokevirtual 65, 3) := by decide +kernel
theorem dL_law_562 : decode code 562 = .ok (.pop, 1) := by decide +kernel
theorem dL_law_563 : decode code 563 = .ok (.goto 292, 3) := by decide +kernel
theorem dL_law_566 : decode code 566 = .ok (.aload_n 1, 1) := by decide +kernel
theorem dL_law_567 : decode code 567 = .ok (.aload_n 0, 1) := by decide +kernel
theorem dL_law_568 : decode code 568 = .ok (.iload_n 3, 1) := by decide +kernel
theorem dL_law_569 : decode code 569 = .ok (.iconst 1, 1) := by decide +kernel
theorem dL_law_570 : decode code 570 = .ok (.iadd, 1) := by decide +kernel
theorem dL_law_571 : decode code 571 = .ok (.iaload, 1) := by decide +kernel
theorem dL_law_572 : decode code 572 = .ok (.aload_n 0, 1) := by decide +kernel
theorem dL_law_573 : decode code 573 = .ok (.iload_n 3, 1) := by decide +kernel
theorem dL_law_574 : decode code 574 = .ok (.iconst 2, 1) := by decide +kernel
theorem dL_law_575 : decode code 575 = .ok (.iadd, 1) := by decide +kernel
theorem dL_law_576 : decode code 576 = .ok (.iaload, 1) := by decide +kernel
theorem dL_law_577 : decode code 577 = .ok (.aload_n 0, 1) := by decide +kernel
theorem dL_law_578 : decode code 578 = .ok (.iload_n 3, 1) := by decide +kernel
theorem dL_law_579 : decode code 579 = .ok (.iconst 3, 1) := by decide +kernel
theorem dL_law_580 : decode code 580 = .ok (.iadd, 1) := by decide +kernel
theorem dL_law_581 : decode code 581 = .ok (.iaload, 1) := by decide +kernel
theorem dL_law_582 : decode code 582 = .ok (.aload_n 0, 1) := by decide +kernel
theorem dL_law_583 : decode code 583 = .ok (.iload_n 3, 1) := by decide +kernel
theorem dL_law_584 : decode code 584 = .ok (.iconst 4, 1) := by decide +kernel
theorem dL_law_585 : decode code 585 = .ok (.iadd, 1) := by decide +kernel
theorem dL_law_586 : decode code 586 = .ok (.iaload, 1) := by decide +kernel
theorem dL_law_587 : decode code 587 = .ok (.aload_n 0, 1) := by decide +kernel
theorem dL_law_588 : decode code 588 = .ok (.iload_n 3, 1) := by decide +kernel
theorem dL_law_589 : decode code 589 = .ok (.iconst 5, 1) := by decide +kernel
theorem dL_law_590 : decode code 590 = .ok (.iadd, 1) := by decide +kernel
theorem dL_law_591 : decode code 591 = .ok (.iaload, 1) := by decide +kernel
theorem dL_law_592 : decode code 592 = .ok (.aload_n 0, 1) := by decide +kernel
theorem dL_law_593 : decode code 593 = .ok (.iload_n 3, 1) := by decide +kernel
theorem dL_law_594 : decode code 594 = .ok (.bipush 6, 2) := by decide +kernel
theorem dL_law_596 : decode code 596 = .ok (.iadd, 1) := by decide +kernel
theorem dL_law_597 : decode code 597 = .ok (.iaload, 1) := by decide +kernel
theorem dL_law_598 : decode code 598 = .ok (.aload_n 0, 1) := by decide +kernel
theorem dL_law_599 : decode code 599 = .ok (.iload_n 3, 1) := by decide +kernel
theorem dL_law_600 : decode code 600 = .ok (.bipush 7, 2) := by decide +kernel
theorem dL_law_602 : decode code 602 = .ok (.iadd, 1) := by decide +kernel
theorem dL_law_603 : decode code 603 = .ok (.iaload, 1) := by decide +kernel
theorem dL_law_604 : decode code 604 = .ok (.invokevirtual 66, 3) := by decide +kernel
theorem dL_law_607 : decode code 607 = .ok (.pop, 1) := by decide +kernel
theorem dL_law_608 : decode code 608 = .ok (.aload_n 2, 1) := by decide +kernel
theorem dL_law_609 : decode code 609 = .ok (.aload_n 0, 1) := by decide +kernel
theorem dL_law_610 : decode code 610 = .ok (.iload_n 3, 1) := by decide +kernel
theorem dL_law_611 : decode code 611 = .ok (.iconst 1, 1) := by decide +kernel
theorem dL_law_612 : decode code 612 = .ok (.iadd, 1) := by decide +kernel
theorem dL_law_613 : decode code 613 = .ok (.iaload, 1) := by decide +kernel
theorem dL_law_614 : decode code 614 = .ok (.aload_n 0, 1) := by decide +kernel
theorem dL_law_615 : decode code 615 = .ok (.iload_n 3, 1) := by decide +kernel
theorem dL_law_616 : decode code 616 = .ok (.iconst 2, 1) := by decide +kernel
theorem dL_law_617 : decode code 617 = .ok (.iadd, 1) := by decide +kernel
theorem dL_law_618 : decode code 618 = .ok (.iaload, 1) := by decide +kernel
theorem dL_law_619 : decode code 619 = .ok (.aload_n 0, 1) := by decide +kernel
theorem dL_law_620 : decode code 620 = .ok (.iload_n 3, 1) := by decide +kernel
theorem dL_law_621 : decode code 621 = .ok (.iconst 3, 1) := by decide +kernel
theorem dL_law_622 : decode code 622 = .ok (.iadd, 1) := by decide +kernel
theorem dL_law_623 : decode code 623 = .ok (.iaload, 1) := by decide +kernel
theorem dL_law_624 : decode code 624 = .ok (.aload_n 0, 1) := by decide +kernel
theorem dL_law_625 : decode code 625 = .ok (.iload_n 3, 1) := by decide +kernel
theorem dL_law_626 : decode code 626 = .ok (.iconst 4, 1) := by decide +kernel
theorem dL_law_627 : decode code 627 = .ok (.iadd, 1) := by decide +kernel
theorem dL_law_628 : decode code 628 = .ok (.iaload, 1) := by decide +kernel
theorem dL_law_629 : decode code 629 = .ok (.aload_n 0, 1) := by decide +kernel
theorem dL_law_630 : decode code 630 = .ok (.iload_n 3, 1) := by decide +kernel
theorem dL_law_631 : decode code 631 = .ok (.iconst 5, 1) := by decide +kernel
theorem dL_law_632 : decode code 632 = .ok (.iadd, 1) := by decide +kernel
theorem dL_law_633 : decode code 633 = .ok (.iaload, 1) := by decide +kernel
theorem dL_law_634 : decode code 634 = .ok (.aload_n 0, 1) := by decide +kernel
theorem dL_law_635 : decode code 635 = .ok (.iload_n 3, 1) := by decide +kernel
theorem dL_law_636 : decode code 636 = .ok (.bipush 6, 2) := by decide +kernel
theorem dL_law_638 : decode code 638 = .ok (.iadd, 1) := by decide +kernel
theorem dL_law_639 : decode code 639 = .ok (.iaload, 1) := by decide +kernel
theorem dL_law_640 : decode code 640 = .ok (.aload_n 0, 1) := by decide +kernel
theorem dL_law_641 : decode code 641 = .ok (.iload_n 3, 1) := by decide +kernel
theorem dL_law_642 : decode code 642 = .ok (.bipush 7, 2) := by decide +kernel
theorem dL_law_644 : decode code 644 = .ok (.iadd, 1) := by decide +kernel
theorem dL_law_645 : decode code 645 = .ok (.iaload, 1) := by decide +kernel
theorem dL_law_646 : decode code 646 = .ok (.invokevirtual 70, 3) := by decide +kernel
theorem dL_law_649 : decode code 649 = .ok (.pop, 1) := by decide +kernel
theorem dL_law_650 : decode code 650 = .ok (.goto 205, 3) := by decide +kernel
theorem dL_law_653 : decode code 653 = .ok (.aload_n 1, 1) := by decide +kernel
theorem dL_law_654 : decode code 654 = .ok (.aload_n 0, 1) := by decide +kernel
theorem dL_law_655 : decode code 655 = .ok (.iload_n 3, 1) := by decide +kernel
theorem dL_law_656 : decode code 656 = .ok (.iconst 1, 1) := by decide +kernel
theorem dL_law_657 : decode code 657 = .ok (.iadd, 1) := by decide +kernel
theorem dL_law_658 : decode code 658 = .ok (.iaload, 1) := by decide +kernel
theorem dL_law_659 : decode code 659 = .ok (.aload_n 0, 1) := by decide +kernel
theorem dL_law_660 : decode code 660 = .ok (.iload_n 3, 1) := by decide +kernel
theorem dL_law_661 : decode code 661 = .ok (.iconst 2, 1) := by decide +kernel
theorem dL_law_662 : decode code 662 = .ok (.iadd, 1) := by decide +kernel
theorem dL_law_663 : decode code 663 = .ok (.iaload, 1) := by decide +kernel
theorem dL_law_664 : decode code 664 = .ok (.aload_n 0, 1) := by decide +kernel
theorem dL_law_665 : decode code 665 = .ok (.iload_n 3, 1) := by decide +kernel
theorem dL_law_666 : decode code 666 = .ok (.iconst 3, 1) := by decide +kernel
theorem dL_law_667 : decode code 667 = .ok (.iadd, 1) := by decide +kernel
theorem dL_law_668 : decode code 668 = .ok (.iaload, 1) := by decide +kernel
theorem dL_law_669 : decode code 669 = .ok (.aload_n 0, 1) := by decide +kernel
theorem dL_law_670 : decode code 670 = .ok (.iload_n 3, 1) := by decide +kernel
theorem dL_law_671 : decode code 671 = .ok (.iconst 4, 1) := by decide +kernel
theorem dL_law_672 : decode code 672 = .ok (.iadd, 1) := by decide +kernel
theorem dL_law_673 : decode code 673 = .ok (.iaload, 1) := by decide +kernel
theorem dL_law_674 : decode code 674 = .ok (.aload_n 0, 1) := by decide +kernel
theorem dL_law_675 : decode code 675 = .ok (.iload_n 3, 1) := by decide +kernel
theorem dL_law_676 : decode code 676 = .ok (.iconst 5, 1) := by decide +kernel
theorem dL_law_677 : decode code 677 = .ok (.iadd, 1) := by decide +kernel
theorem dL_law_678 : decode code 678 = .ok (.iaload, 1) := by decide +kernel
theorem dL_law_679 : decode code 679 = .ok (.aload_n 0, 1) := by decide +kernel
theorem dL_law_680 : decode code 680 = .ok (.iload_n 3, 1) := by decide +kernel
theorem dL_law_681 : decode code 681 = .ok (.bipush 6, 2) := by decide +kernel
theorem dL_law_683 : decode code 683 = .ok (.iadd, 1) := by decide +kernel
theorem dL_law_684 : decode code 684 = .ok (.iaload, 1) := by decide +kernel
theorem dL_law_685 : decode code 685 = .ok (.aload_n 0, 1) := by decide +kernel
theorem dL_law_686 : decode code 686 = .ok (.iload_n 3, 1) := by decide +kernel
theorem dL_law_687 : decode code 687 = .ok (.bipush 7, 2) := by decide +kernel
theorem dL_law_689 : decode code 689 = .ok (.iadd, 1) := by decide +kernel
theorem dL_law_690 : decode code 690 = .ok (.iaload, 1) := by decide +kernel
theorem dL_law_691 : decode code 691 = .ok (.invokevirtual 71, 3) := by decide +kernel
theorem dL_law_694 : decode code 694 = .ok (.pop, 1) := by decide +kernel
theorem dL_law_695 : decode code 695 = .ok (.aload_n 2, 1) := by decide +kernel
theorem dL_law_696 : decode code 696 = .ok (.aload_n 0, 1) := by decide +kernel
theorem dL_law_697 : decode code 697 = .ok (.iload_n 3, 1) := by decide +kernel
theorem dL_law_698 : decode code 698 = .ok (.iconst 1, 1) := by decide +kernel
theorem dL_law_699 : decode code 699 = .ok (.iadd, 1) := by decide +kernel
theorem dL_law_700 : decode code 700 = .ok (.iaload, 1) := by decide +kernel
theorem dL_law_701 : decode code 701 = .ok (.aload_n 0, 1) := by decide +kernel
theorem dL_law_702 : decode code 702 = .ok (.iload_n 3, 1) := by decide +kernel
theorem dL_law_703 : decode code 703 = .ok (.iconst 2, 1) := by decide +kernel
theorem dL_law_704 : decode code 704 = .ok (.iadd, 1) := by decide +kernel
theorem dL_law_705 : decode code 705 = .ok (.iaload, 1) := by decide +kernel
theorem dL_law_706 : decode code 706 = .ok (.aload_n 0, 1) := by decide +kernel
theorem dL_law_707 : decode code 707 = .ok (.iload_n 3, 1) := by decide +kernel
theorem dL_law_708 : decode code 708 = .ok (.iconst 3, 1) := by decide +kernel
theorem dL_law_709 : decode code 709 = .ok (.iadd, 1) := by decide +kernel
theorem dL_law_710 : decode code 710 = .ok (.iaload, 1) := by decide +kernel
theorem dL_law_711 : decode code 711 = .ok (.aload_n 0, 1) := by decide +kernel
theorem dL_law_712 : decode code 712 = .ok (.iload_n 3, 1) := by decide +kernel
theorem dL_law_713 : decode code 713 = .ok (.iconst 4, 1) := by decide +kernel
theorem dL_law_714 : decode code 714 = .ok (.iadd, 1) := by decide +kernel
theorem dL_law_715 : decode code 715 = .ok (.iaload, 1) := by decide +kernel
theorem dL_law_716 : decode code 716 = .ok (.aload_n 0, 1) := by decide +kernel
theorem dL_law_717 : decode code 717 = .ok (.iload_n 3, 1) := by decide +kernel
theorem dL_law_718 : decode code 718 = .ok (.iconst 5, 1) := by decide +kernel
theorem dL_law_719 : decode code 719 = .ok (.iadd, 1) := by decide +kernel
theorem dL_law_720 : decode code 720 = .ok (.iaload, 1) := by decide +kernel
theorem dL_law_721 : decode code 721 = .ok (.aload_n 0, 1) := by decide +kernel
theorem dL_law_722 : decode code 722 = .ok (.iload_n 3, 1) := by decide +kernel
theorem dL_law_723 : decode code 723 = .ok (.bipush 6, 2) := by decide +kernel
theorem dL_law_725 : decode code 725 = .ok (.iadd, 1) := by decide +kernel
theorem dL_law_726 : decode code 726 = .ok (.iaload, 1) := by decide +kernel
theorem dL_law_727 : decode code 727 = .ok (.aload_n 0, 1) := by decide +kernel
theorem dL_law_728 : decode code 728 = .ok (.iload_n 3, 1) := by decide +kernel
theorem dL_law_729 : decode code 729 = .ok (.bipush 7, 2) := by decide +kernel
theorem dL_law_731 : decode code 731 = .ok (.iadd, 1) := by decide +kernel
theorem dL_law_732 : decode code 732 = .ok (.iaload, 1) := by decide +kernel
theorem dL_law_733 : decode code 733 = .ok (.invokevirtual 74, 3) := by decide +kernel
theorem dL_law_736 : decode code 736 = .ok (.pop, 1) := by decide +kernel
theorem dL_law_737 : decode code 737 = .ok (.goto 118, 3) := by decide +kernel
theorem dL_law_740 : decode code 740 = .ok (.aload_n 1, 1) := by decide +kernel
theorem dL_law_741 : decode code 741 = .ok (.aload_n 0, 1) := by decide +kernel
theorem dL_law_742 : decode code 742 = .ok (.iload_n 3, 1) := by decide +kernel
theorem dL_law_743 : decode code 743 = .ok (.iconst 1, 1) := by decide +kernel
theorem dL_law_744 : decode code 744 = .ok (.iadd, 1) := by decide +kernel
theorem dL_law_745 : decode code 745 = .ok (.iaload, 1) := by decide +kernel
theorem dL_law_746 : decode code 746 = .ok (.aload_n 0, 1) := by decide +kernel
theorem dL_law_747 : decode code 747 = .ok (.iload_n 3, 1) := by decide +kernel
theorem dL_law_748 : decode code 748 = .ok (.iconst 2, 1) := by decide +kernel
theorem dL_law_749 : decode code 749 = .ok (.iadd, 1) := by decide +kernel
theorem dL_law_750 : decode code 750 = .ok (.iaload, 1) := by decide +kernel
theorem dL_law_751 : decode code 751 = .ok (.invokevirtual 75, 3) := by decide +kernel
theorem dL_law_754 : decode code 754 = .ok (.pop, 1) := by decide +kernel
theorem dL_law_755 : decode code 755 = .ok (.aload_n 2, 1) := by decide +kernel
theorem dL_law_756 : decode code 756 = .ok (.aload_n 0, 1) := by decide +kernel
theorem dL_law_757 : decode code 757 = .ok (.iload_n 3, 1) := by decide +kernel
theorem dL_law_758 : decode code 758 = .ok (.iconst 1, 1) := by decide +kernel
theorem dL_law_759 : decode code 759 = .ok (.iadd, 1) := by decide +kernel
theorem dL_law_760 : decode code 760 = .ok (.iaload, 1) := by decide +kernel
theorem dL_law_761 : decode code 761 = .ok (.aload_n 0, 1) := by decide +kernel
theorem dL_law_762 : decode code 762 = .ok (.iload_n 3, 1) := by decide +kernel
theorem dL_law_763 : decode code 763 = .ok (.iconst 2, 1) := by decide +kernel
theorem dL_law_764 : decode code 764 = .ok (.iadd, 1) := by decide +kernel
theorem dL_law_765 : decode code 765 = .ok (.iaload, 1) := by decide +kernel
theorem dL_law_766 : decode code 766 = .ok (.invokevirtual 78, 3) := by decide +kernel
theorem dL_law_769 : decode code 769 = .ok (.pop, 1) := by decide +kernel
theorem dL_law_770 : decode code 770 = .ok (.goto 85, 3) := by decide +kernel
theorem dL_law_773 : decode code 773 = .ok (.aload_n 1, 1) := by decide +kernel
theorem dL_law_774 : decode code 774 = .ok (.aload_n 0, 1) := by decide +kernel
theorem dL_law_775 : decode code 775 = .ok (.iload_n 3, 1) := by decide +kernel
theorem dL_law_776 : decode code 776 = .ok (.iconst 1, 1) := by decide +kernel
theorem dL_law_777 : decode code 777 = .ok (.iadd, 1) := by decide +kernel
theorem dL_law_778 : decode code 778 = .ok (.iaload, 1) := by decide +kernel
theorem dL_law_779 : decode code 779 = .ok (.aload_n 0, 1) := by decide +kernel
theorem dL_law_780 : decode code 780 = .ok (.iload_n 3, 1) := by decide +kernel
theorem dL_law_781 : decode code 781 = .ok (.iconst 2, 1) := by decide +kernel
theorem dL_law_782 : decode code 782 = .ok (.iadd, 1) := by decide +kernel
theorem dL_law_783 : decode code 783 = .ok (.iaload, 1) := by decide +kernel
theorem dL_law_784 : decode code 784 = .ok (.invokevirtual 79, 3) := by decide +kernel
theorem dL_law_787 : decode code 787 = .ok (.pop, 1) := by decide +kernel
theorem dL_law_788 : decode code 788 = .ok (.aload_n 2, 1) := by decide +kernel
theorem dL_law_789 : decode code 789 = .ok (.aload_n 0, 1) := by decide +kernel
theorem dL_law_790 : decode code 790 = .ok (.iload_n 3, 1) := by decide +kernel
theorem dL_law_791 : decode code 791 = .ok (.iconst 1, 1) := by decide +kernel
theorem dL_law_792 : decode code 792 = .ok (.iadd, 1) := by decide +kernel
theorem dL_law_793 : decode code 793 = .ok (.iaload, 1) := by decide +kernel
theorem dL_law_794 : decode code 794 = .ok (.aload_n 0, 1) := by decide +kernel
theorem dL_law_795 : decode code 795 = .ok (.iload_n 3, 1) := by decide +kernel
theorem dL_law_796 : decode code 796 = .ok (.iconst 2, 1) := by decide +kernel
theorem dL_law_797 : decode code 797 = .ok (.iadd, 1) := by decide +kernel
theorem dL_law_798 : decode code 798 = .ok (.iaload, 1) := by decide +kernel
theorem dL_law_799 : decode code 799 = .ok (.invokevirtual 82, 3) := by decide +kernel
theorem dL_law_802 : decode code 802 = .ok (.pop, 1) := by decide +kernel
theorem dL_law_803 : decode code 803 = .ok (.goto 52, 3) := by decide +kernel
theorem dL_law_806 : decode code 806 = .ok (.aload_n 1, 1) := by decide +kernel
theorem dL_law_807 : decode code 807 = .ok (.invokevirtual 83, 3) := by decide +kernel
theorem dL_law_810 : decode code 810 = .ok (.pop, 1) := by decide +kernel
theorem dL_law_811 : decode code 811 = .ok (.aload_n 2, 1) := by decide +kernel
theorem dL_law_812 : decode code 812 = .ok (.invokevirtual 87, 3) := by decide +kernel
theorem dL_law_815 : decode code 815 = .ok (.pop, 1) := by decide +kernel
theorem dL_law_816 : decode code 816 = .ok (.goto 39, 3) := by decide +kernel
theorem dL_law_819 : decode code 819 = .ok (.aload_n 1, 1) := by decide +kernel
theorem dL_law_820 : decode code 820 = .ok (.invokevirtual 88, 3) := by decide +kernel
theorem dL_law_823 : decode code 823 = .ok (.pop, 1) := by decide +kernel
theorem dL_law_824 : decode code 824 = .ok (.aload_n 2, 1) := by decide +kernel
theorem dL_law_825 : decode code 825 = .ok (.invokevirtual 91, 3) := by decide +kernel
theorem dL_law_828 : decode code 828 = .ok (.pop, 1) := by decide +kernel
theorem dL_law_829 : decode code 829 = .ok (.goto 26, 3) := by decide +kernel
theorem dL_law_832 : decode code 832 = .ok (.aload_n 1, 1) := by decide +kernel
theorem dL_law_833 : decode code 833 = .ok (.aload_n 0, 1) := by decide +kernel
theorem dL_law_834 : decode code 834 = .ok (.iload_n 3, 1) := by decide +kernel
theorem dL_law_835 : decode code 835 = .ok (.iconst 1, 1) := by decide +kernel
theorem dL_law_836 : decode code 836 = .ok (.iadd, 1) := by decide +kernel
theorem dL_law_837 : decode code 837 = .ok (.iaload, 1) := by decide +kernel
theorem dL_law_838 : decode code 838 = .ok (.invokevirtual 92, 3) := by decide +kernel
theorem dL_law_841 : decode code 841 = .ok (.aload_n 2, 1) := by decide +kernel
theorem dL_law_842 : decode code 842 = .ok (.aload_n 0, 1) := by decide +kernel
theorem dL_law_843 : decode code 843 = .ok (.iload_n 3, 1) := by decide +kernel
theorem dL_law_844 : decode code 844 = .ok (.iconst 1, 1) := by decide +kernel
theorem dL_law_845 : decode code 845 = .ok (.iadd, 1) := by decide +kernel
theorem dL_law_846 : decode code 846 = .ok (.iaload, 1) := by decide +kernel
theorem dL_law_847 : decode code 847 = .ok (.invokevirtual 95, 3) := by decide +kernel
theorem dL_law_850 : decode code 850 = .ok (.if_icmp .eq 5, 3) := by decide +kernel
theorem dL_law_853 : decode code 853 = .ok (.iconst 0, 1) := by decide +kernel
theorem dL_law_854 : decode code 854 = .ok (.ireturn, 1) := by decide +kernel
theorem dL_law_855 : decode code 855 = .ok (.iinc 3 8, 3) := by decide +kernel
theorem dL_law_858 : decode code 858 = .ok (.goto (-840), 3) := by decide +kernel
theorem dL_law_861 : decode code 861 = .ok (.iconst 1, 1) := by decide +kernel
theorem dL_law_862 : decode code 862 = .ok (.ireturn, 1) := by decide +kernel
theorem tw_1_135 : (Jvm.Cond.instanceMethod ({ cls := "ActSurgery", name := "begin", desc := "(I)I" } : Jvm.MethodName)) ∈ x_GT := x_t1 135 rfl rfl
theorem tw_1_136 : (Jvm.Cond.selects "ActSurgery" ({ cls := "ActSurgery", name := "begin", desc := "(I)I" } : Jvm.MethodName) ({ cls := "ActSurgery", name := "begin", desc := "(I)I" } : Jvm.MethodName)) ∈ x_GT := x_t1 136 rfl rfl
theorem tw_1_137 : (Jvm.Cond.code ({ cls := "ActSurgery", name := "begin", desc := "(I)I" } : Jvm.MethodName) prog_1_method_2_code (3 : Nat) (Option.some Jvm.ClassFile.FieldType.int)) ∈ x_GT := x_t1 137 rfl rfl
theorem tw_1_134 : (Jvm.Cond.methodLink "ActSurgeryLaw" (13 : Nat) ({ cls := "ActSurgery", name := "begin", desc := "(I)I" } : Jvm.MethodName)) ∈ x_GT := x_t1 134 rfl rfl
theorem kL_13 : x_kV "ActSurgeryLaw" 13 yA_begin cA_begin 3 (some .int) 1 0 := ⟨tw_1_135, tw_1_136, tw_1_137, tw_1_1, tw_1_134, (by decide +kernel), rfl⟩
theorem tw_3_33 : (Jvm.Cond.instanceMethod ({ cls := "ActSurgeryModel", name := "begin", desc := "(I)I" } : Jvm.MethodName)) ∈ x_GT := x_t3 33 rfl rfl
theorem tw_3_34 : (Jvm.Cond.selects "ActSurgeryModel" ({ cls := "ActSurgeryModel", name := "begin", desc := "(I)I" } : Jvm.MethodName) ({ cls := "ActSurgeryModel", name := "begin", desc := "(I)I" } : Jvm.MethodName)) ∈ x_GT := x_t3 34 rfl rfl
theorem tw_3_35 : (Jvm.Cond.code ({ cls := "ActSurgeryModel", name := "begin", desc := "(I)I" } : Jvm.MethodName) prog_7_method_11_code (3 : Nat) (Option.some Jvm.ClassFile.FieldType.int)) ∈ x_GT := x_t3 35 rfl rfl
theorem tw_3_32 : (Jvm.Cond.methodLink "ActSurgeryLaw" (17 : Nat) ({ cls := "ActSurgeryModel", name := "begin", desc := "(I)I" } : Jvm.MethodName)) ∈ x_GT := x_t3 32 rfl rfl
theorem kL_17 : x_kV "ActSurgeryLaw" 17 yM_begin cM_begin 3 (some .int) 1 5 := ⟨tw_3_33, tw_3_34, tw_3_35, tw_1_6, tw_3_32, (by decide +kernel), rfl⟩
theorem tw_1_140 : (Jvm.Cond.instanceMethod ({ cls := "ActSurgery", name := "parents", desc := "(II)I" } : Jvm.MethodName)) ∈ x_GT := x_t1 140 rfl rfl
theorem tw_1_141 : (Jvm.Cond.selects "ActSurgery" ({ cls := "ActSurgery", name := "parents", desc := "(II)I" } : Jvm.MethodName) ({ cls := "ActSurgery", name := "parents", desc := "(II)I" } : Jvm.MethodName)) ∈ x_GT := x_t1 141 rfl rfl
theorem tw_1_142 : (Jvm.Cond.code ({ cls := "ActSurgery", name := "parents", desc := "(II)I" } : Jvm.MethodName) prog_1_method_3_code (4 : Nat) (Option.some Jvm.ClassFile.FieldType.int)) ∈ x_GT := x_t1 142 rfl rfl
theorem tw_1_139 : (Jvm.Cond.methodLink "ActSurgeryLaw" (18 : Nat) ({ cls := "ActSurgery", name := "parents", desc := "(II)I" } : Jvm.MethodName)) ∈ x_GT := x_t1 139 rfl rfl
theorem kL_18 : x_kV "ActSurgeryLaw" 18 yA_parents cA_parents 4 (some .int) 2 0 := ⟨tw_1_140, tw_1_141, tw_1_142, tw_1_1, tw_1_139, (by decide +kernel), rfl⟩
theorem tw_3_44 : (Jvm.Cond.instanceMethod ({ cls := "ActSurgeryModel", name := "parents", desc := "(II)I" } : Jvm.MethodName)) ∈ x_GT := x_t3 44 rfl rfl
theorem tw_3_45 : (Jvm.Cond.selects "ActSurgeryModel" ({ cls := "ActSurgeryModel", name := "parents", desc := "(II)I" } : Jvm.MethodName) ({ cls := "ActSurgeryModel", name := "parents", desc := "(II)I" } : Jvm.MethodName)) ∈ x_GT := x_t3 45 rfl rfl
theorem tw_3_46 : (Jvm.Cond.code ({ cls := "ActSurgeryModel", name := "parents", desc := "(II)I" } : Jvm.MethodName) prog_7_method_12_code (4 : Nat) (Option.some Jvm.ClassFile.FieldType.int)) ∈ x_GT := x_t3 46 rfl rfl
theorem tw_3_43 : (Jvm.Cond.methodLink "ActSurgeryLaw" (22 : Nat) ({ cls := "ActSurgeryModel", name := "parents", desc := "(II)I" } : Jvm.MethodName)) ∈ x_GT := x_t3 43 rfl rfl
theorem kL_22 : x_kV "ActSurgeryLaw" 22 yM_parents cM_parents 4 (some .int) 2 5 := ⟨tw_3_44, tw_3_45, tw_3_46, tw_1_6, tw_3_43, (by decide +kernel), rfl⟩
theorem tw_1_155 : (Jvm.Cond.instanceMethod ({ cls := "ActSurgery", name := "weight", desc := "(III)I" } : Jvm.MethodName)) ∈ x_GT := x_t1 155 rfl rfl
theorem tw_1_156 : (Jvm.Cond.selects "ActSurgery" ({ cls := "ActSurgery", name := "weight", desc := "(III)I" } : Jvm.MethodName) ({ cls := "ActSurgery", name := "weight", desc := "(III)I" } : Jvm.MethodName)) ∈ x_GT := x_t1 156 rfl rfl
theorem tw_1_157 : (Jvm.Cond.code ({ cls := "ActSurgery", name := "weight", desc := "(III)I" } : Jvm.MethodName) prog_1_method_4_code (5 : Nat) (Option.some Jvm.ClassFile.FieldType.int)) ∈ x_GT := x_t1 157 rfl rfl
theorem tw_1_154 : (Jvm.Cond.methodLink "ActSurgeryLaw" (23 : Nat) ({ cls := "ActSurgery", name := "weight", desc := "(III)I" } : Jvm.MethodName)) ∈ x_GT := x_t1 154 rfl rfl
theorem kL_23 : x_kV "ActSurgeryLaw" 23 yA_weight cA_weight 5 (some .int) 3 0 := ⟨tw_1_155, tw_1_156, tw_1_157, tw_1_1, tw_1_154, (by decide +kernel), rfl⟩
theorem tw_3_52 : (Jvm.Cond.instanceMethod ({ cls := "ActSurgeryModel", name := "weight", desc := "(III)I" } : Jvm.MethodName)) ∈ x_GT := x_t3 52 rfl rfl
theorem tw_3_53 : (Jvm.Cond.selects "ActSurgeryModel" ({ cls := "ActSurgeryModel", name := "weight", desc := "(III)I" } : Jvm.MethodName) ({ cls := "ActSurgeryModel", name := "weight", desc := "(III)I" } : Jvm.MethodName)) ∈ x_GT := x_t3 53 rfl rfl
theorem tw_3_54 : (Jvm.Cond.code ({ cls := "ActSurgeryModel", name := "weight", desc := "(III)I" } : Jvm.MethodName) prog_7_method_13_code (5 : Nat) (Option.some Jvm.ClassFile.FieldType.int)) ∈ x_GT := x_t3 54 rfl rfl
theorem tw_3_51 : (Jvm.Cond.methodLink "ActSurgeryLaw" (27 : Nat) ({ cls := "ActSurgeryModel", name := "weight", desc := "(III)I" } : Jvm.MethodName)) ∈ x_GT := x_t3 51 rfl rfl
theorem kL_27 : x_kV "ActSurgeryLaw" 27 yM_weight cM_weight 5 (some .int) 3 5 := ⟨tw_3_52, tw_3_53, tw_3_54, tw_1_6, tw_3_51, (by decide +kernel), rfl⟩
theorem tw_1_164 : (Jvm.Cond.instanceMethod ({ cls := "ActSurgery", name := "hide", desc := "(IZ)I" } : Jvm.MethodName)) ∈ x_GT := x_t1 164 rfl rfl
theorem tw_1_165 : (Jvm.Cond.selects "ActSurgery" ({ cls := "ActSurgery", name := "hide", desc := "(IZ)I" } : Jvm.MethodName) ({ cls := "ActSurgery", name := "hide", desc := "(IZ)I" } : Jvm.MethodName)) ∈ x_GT := x_t1 165 rfl rfl
theorem tw_1_166 : (Jvm.Cond.code ({ cls := "ActSurgery", name := "hide", desc := "(IZ)I" } : Jvm.MethodName) prog_1_method_5_code (4 : Nat) (Option.some Jvm.ClassFile.FieldType.int)) ∈ x_GT := x_t1 166 rfl rfl
theorem tw_1_163 : (Jvm.Cond.methodLink "ActSurgeryLaw" (28 : Nat) ({ cls := "ActSurgery", name := "hide", desc := "(IZ)I" } : Jvm.MethodName)) ∈ x_GT := x_t1 163 rfl rfl
theorem kL_28 : x_kV "ActSurgeryLaw" 28 yA_hide cA_hide 4 (some .int) 2 0 := ⟨tw_1_164, tw_1_165, tw_1_166, tw_1_1, tw_1_163, (by decide +kernel), rfl⟩
theorem tw_3_64 : (Jvm.Cond.instanceMethod ({ cls := "ActSurgeryModel", name := "hide", desc := "(IZ)I" } : Jvm.MethodName)) ∈ x_GT := x_t3 64 rfl rfl
theorem tw_3_65 : (Jvm.Cond.selects "ActSurgeryModel" ({ cls := "ActSurgeryModel", name := "hide", desc := "(IZ)I" } : Jvm.MethodName) ({ cls := "ActSurgeryModel", name := "hide", desc := "(IZ)I" } : Jvm.MethodName)) ∈ x_GT := x_t3 65 rfl rfl
theorem tw_3_66 : (Jvm.Cond.code ({ cls := "ActSurgeryModel", name := "hide", desc := "(IZ)I" } : Jvm.MethodName) prog_7_method_14_code (4 : Nat) (Option.some Jvm.ClassFile.FieldType.int)) ∈ x_GT := x_t3 66 rfl rfl
theorem tw_3_63 : (Jvm.Cond.methodLink "ActSurgeryLaw" (32 : Nat) ({ cls := "ActSurgeryModel", name := "hide", desc := "(IZ)I" } : Jvm.MethodName)) ∈ x_GT := x_t3 63 rfl rfl
theorem kL_32 : x_kV "ActSurgeryLaw" 32 yM_hide cM_hide 4 (some .int) 2 5 := ⟨tw_3_64, tw_3_65, tw_3_66, tw_1_6, tw_3_63, (by decide +kernel), rfl⟩
theorem tw_1_174 : (Jvm.Cond.instanceMethod ({ cls := "ActSurgery", name := "count", desc := "(I)I" } : Jvm.MethodName)) ∈ x_GT := x_t1 174 rfl rfl
theorem tw_1_175 : (Jvm.Cond.selects "ActSurgery" ({ cls := "ActSurgery", name := "count", desc := "(I)I" } : Jvm.MethodName) ({ cls := "ActSurgery", name := "count", desc := "(I)I" } : Jvm.MethodName)) ∈ x_GT := x_t1 175 rfl rfl
theorem tw_1_176 : (Jvm.Cond.code ({ cls := "ActSurgery", name := "count", desc := "(I)I" } : Jvm.MethodName) prog_1_method_6_code (2 : Nat) (Option.some Jvm.ClassFile.FieldType.int)) ∈ x_GT := x_t1 176 rfl rfl
theorem tw_1_173 : (Jvm.Cond.methodLink "ActSurgeryLaw" (33 : Nat) ({ cls := "ActSurgery", name := "count", desc := "(I)I" } : Jvm.MethodName)) ∈ x_GT := x_t1 173 rfl rfl
theorem kL_33 : x_kV "ActSurgeryLaw" 33 yA_count cA_count 2 (some .int) 1 0 := ⟨tw_1_174, tw_1_175, tw_1_176, tw_1_1, tw_1_173, (by decide +kernel), rfl⟩
theorem tw_3_169 : (Jvm.Cond.instanceMethod ({ cls := "ActSurgeryModel", name := "count", desc := "(I)I" } : Jvm.MethodName)) ∈ x_GT := x_t3 169 rfl rfl
theorem tw_3_170 : (Jvm.Cond.selects "ActSurgeryModel" ({ cls := "ActSurgeryModel", name := "count", desc := "(I)I" } : Jvm.MethodName) ({ cls := "ActSurgeryModel", name := "count", desc := "(I)I" } : Jvm.MethodName)) ∈ x_GT := x_t3 170 rfl rfl
theorem tw_3_171 : (Jvm.Cond.code ({ cls := "ActSurgeryModel", name := "count", desc := "(I)I" } : Jvm.MethodName) prog_7_method_45_code (4 : Nat) (Option.some Jvm.ClassFile.FieldType.int)) ∈ x_GT := x_t3 171 rfl rfl
theorem tw_3_168 : (Jvm.Cond.methodLink "ActSurgeryLaw" (36 : Nat) ({ cls := "ActSurgeryModel", name := "count", desc := "(I)I" } : Jvm.MethodName)) ∈ x_GT := x_t3 168 rfl rfl
theorem kL_36 : x_kV "ActSurgeryLaw" 36 yM_count cM_count 4 (some .int) 1 5 := ⟨tw_3_169, tw_3_170, tw_3_171, tw_1_6, tw_3_168, (by decide +kernel), rfl⟩
theorem tw_2_40 : (Jvm.Cond.instanceMethod ({ cls := "ActSurgery", name := "of", desc := "(II)I" } : Jvm.MethodName)) ∈ x_GT := x_t2 40 rfl rfl
theorem tw_2_41 : (Jvm.Cond.selects "ActSurgery" ({ cls := "ActSurgery", name := "of", desc := "(II)I" } : Jvm.MethodName) ({ cls := "ActSurgery", name := "of", desc := "(II)I" } : Jvm.MethodName)) ∈ x_GT := x_t2 41 rfl rfl
theorem tw_2_42 : (Jvm.Cond.code ({ cls := "ActSurgery", name := "of", desc := "(II)I" } : Jvm.MethodName) prog_1_method_7_code (3 : Nat) (Option.some Jvm.ClassFile.FieldType.int)) ∈ x_GT := x_t2 42 rfl rfl
theorem tw_2_39 : (Jvm.Cond.methodLink "ActSurgeryLaw" (37 : Nat) ({ cls := "ActSurgery", name := "of", desc := "(II)I" } : Jvm.MethodName)) ∈ x_GT := x_t2 39 rfl rfl
theorem kL_37 : x_kV "ActSurgeryLaw" 37 yA_of cA_of 3 (some .int) 2 0 := ⟨tw_2_40, tw_2_41, tw_2_42, tw_1_1, tw_2_39, (by decide +kernel), rfl⟩
theorem tw_3_196 : (Jvm.Cond.instanceMethod ({ cls := "ActSurgeryModel", name := "of", desc := "(II)I" } : Jvm.MethodName)) ∈ x_GT := x_t3 196 rfl rfl
theorem tw_3_197 : (Jvm.Cond.selects "ActSurgeryModel" ({ cls := "ActSurgeryModel", name := "of", desc := "(II)I" } : Jvm.MethodName) ({ cls := "ActSurgeryModel", name := "of", desc := "(II)I" } : Jvm.MethodName)) ∈ x_GT := x_t3 197 rfl rfl
theorem tw_3_198 : (Jvm.Cond.code ({ cls := "ActSurgeryModel", name := "of", desc := "(II)I" } : Jvm.MethodName) prog_7_method_48_code (3 : Nat) (Option.some Jvm.ClassFile.FieldType.int)) ∈ x_GT := x_t3 198 rfl rfl
theorem tw_3_195 : (Jvm.Cond.methodLink "ActSurgeryLaw" (40 : Nat) ({ cls := "ActSurgeryModel", name := "of", desc := "(II)I" } : Jvm.MethodName)) ∈ x_GT := x_t3 195 rfl rfl
theorem kL_40 : x_kV "ActSurgeryLaw" 40 yM_of cM_of 3 (some .int) 2 5 := ⟨tw_3_196, tw_3_197, tw_3_198, tw_1_6, tw_3_195, (by decide +kernel), rfl⟩
theorem tw_2_55 : (Jvm.Cond.instanceMethod ({ cls := "ActSurgery", name := "parted", desc := "(III)I" } : Jvm.MethodName)) ∈ x_GT := x_t2 55 rfl rfl
theorem tw_2_56 : (Jvm.Cond.selects "ActSurgery" ({ cls := "ActSurgery", name := "parted", desc := "(III)I" } : Jvm.MethodName) ({ cls := "ActSurgery", name := "parted", desc := "(III)I" } : Jvm.MethodName)) ∈ x_GT := x_t2 56 rfl rfl
theorem tw_2_57 : (Jvm.Cond.code ({ cls := "ActSurgery", name := "parted", desc := "(III)I" } : Jvm.MethodName) prog_1_method_8_code (4 : Nat) (Option.some Jvm.ClassFile.FieldType.int)) ∈ x_GT := x_t2 57 rfl rfl
theorem tw_2_54 : (Jvm.Cond.methodLink "ActSurgeryLaw" (41 : Nat) ({ cls := "ActSurgery", name := "parted", desc := "(III)I" } : Jvm.MethodName)) ∈ x_GT := x_t2 54 rfl rfl
theorem kL_41 : x_kV "ActSurgeryLaw" 41 yA_parted cA_parted 4 (some .int) 3 0 := ⟨tw_2_55, tw_2_56, tw_2_57, tw_1_1, tw_2_54, (by decide +kernel), rfl⟩
theorem tw_3_68 : (Jvm.Cond.instanceMethod ({ cls := "ActSurgeryModel", name := "parted", desc := "(III)I" } : Jvm.MethodName)) ∈ x_GT := x_t3 68 rfl rfl
theorem tw_3_69 : (Jvm.Cond.selects "ActSurgeryModel" ({ cls := "ActSurgeryModel", name := "parted", desc := "(III)I" } : Jvm.MethodName) ({ cls := "ActSurgeryModel", name := "parted", desc := "(III)I" } : Jvm.MethodName)) ∈ x_GT := x_t3 69 rfl rfl
theorem tw_3_70 : (Jvm.Cond.code ({ cls := "ActSurgeryModel", name := "parted", desc := "(III)I" } : Jvm.MethodName) prog_7_method_23_code (4 : Nat) (Option.some Jvm.ClassFile.FieldType.int)) ∈ x_GT := x_t3 70 rfl rfl
theorem tw_3_67 : (Jvm.Cond.methodLink "ActSurgeryLaw" (44 : Nat) ({ cls := "ActSurgeryModel", name := "parted", desc := "(III)I" } : Jvm.MethodName)) ∈ x_GT := x_t3 67 rfl rfl
theorem kL_44 : x_kV "ActSurgeryLaw" 44 yM_parted cM_parted 4 (some .int) 3 5 := ⟨tw_3_68, tw_3_69, tw_3_70, tw_1_6, tw_3_67, (by decide +kernel), rfl⟩
theorem tw_2_67 : (Jvm.Cond.instanceMethod ({ cls := "ActSurgery", name := "parting", desc := "(II)I" } : Jvm.MethodName)) ∈ x_GT := x_t2 67 rfl rfl
theorem tw_2_68 : (Jvm.Cond.selects "ActSurgery" ({ cls := "ActSurgery", name := "parting", desc := "(II)I" } : Jvm.MethodName) ({ cls := "ActSurgery", name := "parting", desc := "(II)I" } : Jvm.MethodName)) ∈ x_GT := x_t2 68 rfl rfl
theorem tw_2_69 : (Jvm.Cond.code ({ cls := "ActSurgery", name := "parting", desc := "(II)I" } : Jvm.MethodName) prog_1_method_9_code (3 : Nat) (Option.some Jvm.ClassFile.FieldType.int)) ∈ x_GT := x_t2 69 rfl rfl
theorem tw_2_66 : (Jvm.Cond.methodLink "ActSurgeryLaw" (45 : Nat) ({ cls := "ActSurgery", name := "parting", desc := "(II)I" } : Jvm.MethodName)) ∈ x_GT := x_t2 66 rfl rfl
theorem kL_45 : x_kV "ActSurgeryLaw" 45 yA_parting cA_parting 3 (some .int) 2 0 := ⟨tw_2_67, tw_2_68, tw_2_69, tw_1_1, tw_2_66, (by decide +kernel), rfl⟩
theorem tw_3_111 : (Jvm.Cond.instanceMethod ({ cls := "ActSurgeryModel", name := "parting", desc := "(II)I" } : Jvm.MethodName)) ∈ x_GT := x_t3 111 rfl rfl
theorem tw_3_112 : (Jvm.Cond.selects "ActSurgeryModel" ({ cls := "ActSurgeryModel", name := "parting", desc := "(II)I" } : Jvm.MethodName) ({ cls := "ActSurgeryModel", name := "parting", desc := "(II)I" } : Jvm.MethodName)) ∈ x_GT := x_t3 112 rfl rfl
theorem tw_3_113 : (Jvm.Cond.code ({ cls := "ActSurgeryModel", name := "parting", desc := "(II)I" } : Jvm.MethodName) prog_7_method_26_code (3 : Nat) (Option.some Jvm.ClassFile.FieldType.int)) ∈ x_GT := x_t3 113 rfl rfl
theorem tw_3_110 : (Jvm.Cond.methodLink "ActSurgeryLaw" (48 : Nat) ({ cls := "ActSurgeryModel", name := "parting", desc := "(II)I" } : Jvm.MethodName)) ∈ x_GT := x_t3 110 rfl rfl
theorem kL_48 : x_kV "ActSurgeryLaw" 48 yM_parting cM_parting 3 (some .int) 2 5 := ⟨tw_3_111, tw_3_112, tw_3_113, tw_1_6, tw_3_110, (by decide +kernel), rfl⟩
theorem tw_2_71 : (Jvm.Cond.instanceMethod ({ cls := "ActSurgery", name := "ways", desc := "(III)I" } : Jvm.MethodName)) ∈ x_GT := x_t2 71 rfl rfl
theorem tw_2_72 : (Jvm.Cond.selects "ActSurgery" ({ cls := "ActSurgery", name := "ways", desc := "(III)I" } : Jvm.MethodName) ({ cls := "ActSurgery", name := "ways", desc := "(III)I" } : Jvm.MethodName)) ∈ x_GT := x_t2 72 rfl rfl
theorem tw_2_73 : (Jvm.Cond.code ({ cls := "ActSurgery", name := "ways", desc := "(III)I" } : Jvm.MethodName) prog_1_method_10_code (4 : Nat) (Option.some Jvm.ClassFile.FieldType.int)) ∈ x_GT := x_t2 73 rfl rfl
theorem tw_2_70 : (Jvm.Cond.methodLink "ActSurgeryLaw" (49 : Nat) ({ cls := "ActSurgery", name := "ways", desc := "(III)I" } : Jvm.MethodName)) ∈ x_GT := x_t2 70 rfl rfl
theorem kL_49 : x_kV "ActSurgeryLaw" 49 yA_ways cA_ways 4 (some .int) 3 0 := ⟨tw_2_71, tw_2_72, tw_2_73, tw_1_1, tw_2_70, (by decide +kernel), rfl⟩
theorem tw_3_107 : (Jvm.Cond.instanceMethod ({ cls := "ActSurgeryModel", name := "ways", desc := "(III)I" } : Jvm.MethodName)) ∈ x_GT := x_t3 107 rfl rfl
theorem tw_3_108 : (Jvm.Cond.selects "ActSurgeryModel" ({ cls := "ActSurgeryModel", name := "ways", desc := "(III)I" } : Jvm.MethodName) ({ cls := "ActSurgeryModel", name := "ways", desc := "(III)I" } : Jvm.MethodName)) ∈ x_GT := x_t3 108 rfl rfl
theorem tw_3_109 : (Jvm.Cond.code ({ cls := "ActSurgeryModel", name := "ways", desc := "(III)I" } : Jvm.MethodName) prog_7_method_24_code (4 : Nat) (Option.some Jvm.ClassFile.FieldType.int)) ∈ x_GT := x_t3 109 rfl rfl
theorem tw_3_106 : (Jvm.Cond.methodLink "ActSurgeryLaw" (52 : Nat) ({ cls := "ActSurgeryModel", name := "ways", desc := "(III)I" } : Jvm.MethodName)) ∈ x_GT := x_t3 106 rfl rfl
theorem kL_52 : x_kV "ActSurgeryLaw" 52 yM_ways cM_ways 4 (some .int) 3 5 := ⟨tw_3_107, tw_3_108, tw_3_109, tw_1_6, tw_3_106, (by decide +kernel), rfl⟩
theorem tw_2_79 : (Jvm.Cond.instanceMethod ({ cls := "ActSurgery", name := "tells", desc := "(IIII)I" } : Jvm.MethodName)) ∈ x_GT := x_t2 79 rfl rfl
theorem tw_2_80 : (Jvm.Cond.selects "ActSurgery" ({ cls := "ActSurgery", name := "tells", desc := "(IIII)I" } : Jvm.MethodName) ({ cls := "ActSurgery", name := "tells", desc := "(IIII)I" } : Jvm.MethodName)) ∈ x_GT := x_t2 80 rfl rfl
theorem tw_2_81 : (Jvm.Cond.code ({ cls := "ActSurgery", name := "tells", desc := "(IIII)I" } : Jvm.MethodName) prog_1_method_11_code (5 : Nat) (Option.some Jvm.ClassFile.FieldType.int)) ∈ x_GT := x_t2 81 rfl rfl
theorem tw_2_78 : (Jvm.Cond.methodLink "ActSurgeryLaw" (53 : Nat) ({ cls := "ActSurgery", name := "tells", desc := "(IIII)I" } : Jvm.MethodName)) ∈ x_GT := x_t2 78 rfl rfl
theorem kL_53 : x_kV "ActSurgeryLaw" 53 yA_tells cA_tells 5 (some .int) 4 0 := ⟨tw_2_79, tw_2_80, tw_2_81, tw_1_1, tw_2_78, (by decide +kernel), rfl⟩
theorem tw_3_122 : (Jvm.Cond.instanceMethod ({ cls := "ActSurgeryModel", name := "tells", desc := "(IIII)I" } : Jvm.MethodName)) ∈ x_GT := x_t3 122 rfl rfl
theorem tw_3_123 : (Jvm.Cond.selects "ActSurgeryModel" ({ cls := "ActSurgeryModel", name := "tells", desc := "(IIII)I" } : Jvm.MethodName) ({ cls := "ActSurgeryModel", name := "tells", desc := "(IIII)I" } : Jvm.MethodName)) ∈ x_GT := x_t3 123 rfl rfl
theorem tw_3_124 : (Jvm.Cond.code ({ cls := "ActSurgeryModel", name := "tells", desc := "(IIII)I" } : Jvm.MethodName) prog_7_method_34_code (5 : Nat) (Option.some Jvm.ClassFile.FieldType.int)) ∈ x_GT := x_t3 124 rfl rfl
theorem tw_3_121 : (Jvm.Cond.methodLink "ActSurgeryLaw" (57 : Nat) ({ cls := "ActSurgeryModel", name := "tells", desc := "(IIII)I" } : Jvm.MethodName)) ∈ x_GT := x_t3 121 rfl rfl
theorem kL_57 : x_kV "ActSurgeryLaw" 57 yM_tells cM_tells 5 (some .int) 4 5 := ⟨tw_3_122, tw_3_123, tw_3_124, tw_1_6, tw_3_121, (by decide +kernel), rfl⟩
theorem tw_2_118 : (Jvm.Cond.instanceMethod ({ cls := "ActSurgery", name := "telling", desc := "(III)I" } : Jvm.MethodName)) ∈ x_GT := x_t2 118 rfl rfl
theorem tw_2_119 : (Jvm.Cond.selects "ActSurgery" ({ cls := "ActSurgery", name := "telling", desc := "(III)I" } : Jvm.MethodName) ({ cls := "ActSurgery", name := "telling", desc := "(III)I" } : Jvm.MethodName)) ∈ x_GT := x_t2 119 rfl rfl
theorem tw_2_120 : (Jvm.Cond.code ({ cls := "ActSurgery", name := "telling", desc := "(III)I" } : Jvm.MethodName) prog_1_method_12_code (7 : Nat) (Option.some Jvm.ClassFile.FieldType.int)) ∈ x_GT := x_t2 120 rfl rfl
theorem tw_2_117 : (Jvm.Cond.methodLink "ActSurgeryLaw" (58 : Nat) ({ cls := "ActSurgery", name := "telling", desc := "(III)I" } : Jvm.MethodName)) ∈ x_GT := x_t2 117 rfl rfl
theorem kL_58 : x_kV "ActSurgeryLaw" 58 yA_telling cA_telling 7 (some .int) 3 0 := ⟨tw_2_118, tw_2_119, tw_2_120, tw_1_1, tw_2_117, (by decide +kernel), rfl⟩
theorem tw_3_153 : (Jvm.Cond.instanceMethod ({ cls := "ActSurgeryModel", name := "telling", desc := "(III)I" } : Jvm.MethodName)) ∈ x_GT := x_t3 153 rfl rfl
theorem tw_3_154 : (Jvm.Cond.selects "ActSurgeryModel" ({ cls := "ActSurgeryModel", name := "telling", desc := "(III)I" } : Jvm.MethodName) ({ cls := "ActSurgeryModel", name := "telling", desc := "(III)I" } : Jvm.MethodName)) ∈ x_GT := x_t3 154 rfl rfl
theorem tw_3_155 : (Jvm.Cond.code ({ cls := "ActSurgeryModel", name := "telling", desc := "(III)I" } : Jvm.MethodName) prog_7_method_35_code (6 : Nat) (Option.some Jvm.ClassFile.FieldType.int)) ∈ x_GT := x_t3 155 rfl rfl
theorem tw_3_152 : (Jvm.Cond.methodLink "ActSurgeryLaw" (61 : Nat) ({ cls := "ActSurgeryModel", name := "telling", desc := "(III)I" } : Jvm.MethodName)) ∈ x_GT := x_t3 152 rfl rfl
theorem kL_61 : x_kV "ActSurgeryLaw" 61 yM_telling cM_telling 6 (some .int) 3 5 := ⟨tw_3_153, tw_3_154, tw_3_155, tw_1_6, tw_3_152, (by decide +kernel), rfl⟩
theorem tw_2_122 : (Jvm.Cond.instanceMethod ({ cls := "ActSurgery", name := "told", desc := "(I)I" } : Jvm.MethodName)) ∈ x_GT := x_t2 122 rfl rfl
theorem tw_2_123 : (Jvm.Cond.selects "ActSurgery" ({ cls := "ActSurgery", name := "told", desc := "(I)I" } : Jvm.MethodName) ({ cls := "ActSurgery", name := "told", desc := "(I)I" } : Jvm.MethodName)) ∈ x_GT := x_t2 123 rfl rfl
theorem tw_2_124 : (Jvm.Cond.code ({ cls := "ActSurgery", name := "told", desc := "(I)I" } : Jvm.MethodName) prog_1_method_13_code (2 : Nat) (Option.some Jvm.ClassFile.FieldType.int)) ∈ x_GT := x_t2 124 rfl rfl
theorem tw_2_121 : (Jvm.Cond.methodLink "ActSurgeryLaw" (62 : Nat) ({ cls := "ActSurgery", name := "told", desc := "(I)I" } : Jvm.MethodName)) ∈ x_GT := x_t2 121 rfl rfl
theorem kL_62 : x_kV "ActSurgeryLaw" 62 yA_told cA_told 2 (some .int) 1 0 := ⟨tw_2_122, tw_2_123, tw_2_124, tw_1_1, tw_2_121, (by decide +kernel), rfl⟩
theorem tw_3_157 : (Jvm.Cond.instanceMethod ({ cls := "ActSurgeryModel", name := "told", desc := "(I)I" } : Jvm.MethodName)) ∈ x_GT := x_t3 157 rfl rfl
theorem tw_3_158 : (Jvm.Cond.selects "ActSurgeryModel" ({ cls := "ActSurgeryModel", name := "told", desc := "(I)I" } : Jvm.MethodName) ({ cls := "ActSurgeryModel", name := "told", desc := "(I)I" } : Jvm.MethodName)) ∈ x_GT := x_t3 158 rfl rfl
theorem tw_3_159 : (Jvm.Cond.code ({ cls := "ActSurgeryModel", name := "told", desc := "(I)I" } : Jvm.MethodName) prog_7_method_39_code (3 : Nat) (Option.some Jvm.ClassFile.FieldType.int)) ∈ x_GT := x_t3 159 rfl rfl
theorem tw_3_156 : (Jvm.Cond.methodLink "ActSurgeryLaw" (65 : Nat) ({ cls := "ActSurgeryModel", name := "told", desc := "(I)I" } : Jvm.MethodName)) ∈ x_GT := x_t3 156 rfl rfl
theorem kL_65 : x_kV "ActSurgeryLaw" 65 yM_told cM_told 3 (some .int) 1 5 := ⟨tw_3_157, tw_3_158, tw_3_159, tw_1_6, tw_3_156, (by decide +kernel), rfl⟩
theorem tw_2_127 : (Jvm.Cond.instanceMethod ({ cls := "ActSurgery", name := "odds", desc := "(IIIIIII)I" } : Jvm.MethodName)) ∈ x_GT := x_t2 127 rfl rfl
theorem tw_2_128 : (Jvm.Cond.selects "ActSurgery" ({ cls := "ActSurgery", name := "odds", desc := "(IIIIIII)I" } : Jvm.MethodName) ({ cls := "ActSurgery", name := "odds", desc := "(IIIIIII)I" } : Jvm.MethodName)) ∈ x_GT := x_t2 128 rfl rfl
theorem tw_2_129 : (Jvm.Cond.code ({ cls := "ActSurgery", name := "odds", desc := "(IIIIIII)I" } : Jvm.MethodName) prog_1_method_14_code (8 : Nat) (Option.some Jvm.ClassFile.FieldType.int)) ∈ x_GT := x_t2 129 rfl rfl
theorem tw_2_126 : (Jvm.Cond.methodLink "ActSurgeryLaw" (66 : Nat) ({ cls := "ActSurgery", name := "odds", desc := "(IIIIIII)I" } : Jvm.MethodName)) ∈ x_GT := x_t2 126 rfl rfl
theorem kL_66 : x_kV "ActSurgeryLaw" 66 yA_odds cA_odds 8 (some .int) 7 0 := ⟨tw_2_127, tw_2_128, tw_2_129, tw_1_1, tw_2_126, (by decide +kernel), rfl⟩
theorem tw_3_208 : (Jvm.Cond.instanceMethod ({ cls := "ActSurgeryModel", name := "odds", desc := "(IIIIIII)I" } : Jvm.MethodName)) ∈ x_GT := x_t3 208 rfl rfl
theorem tw_3_209 : (Jvm.Cond.selects "ActSurgeryModel" ({ cls := "ActSurgeryModel", name := "odds", desc := "(IIIIIII)I" } : Jvm.MethodName) ({ cls := "ActSurgeryModel", name := "odds", desc := "(IIIIIII)I" } : Jvm.MethodName)) ∈ x_GT := x_t3 209 rfl rfl
theorem tw_3_210 : (Jvm.Cond.code ({ cls := "ActSurgeryModel", name := "odds", desc := "(IIIIIII)I" } : Jvm.MethodName) prog_7_method_54_code (15 : Nat) (Option.some Jvm.ClassFile.FieldType.int)) ∈ x_GT := x_t3 210 rfl rfl
theorem tw_3_207 : (Jvm.Cond.methodLink "ActSurgeryLaw" (70 : Nat) ({ cls := "ActSurgeryModel", name := "odds", desc := "(IIIIIII)I" } : Jvm.MethodName)) ∈ x_GT := x_t3 207 rfl rfl
theorem kL_70 : x_kV "ActSurgeryLaw" 70 yM_odds cM_odds 15 (some .int) 7 5 := ⟨tw_3_208, tw_3_209, tw_3_210, tw_1_6, tw_3_207, (by decide +kernel), rfl⟩
theorem tw_2_178 : (Jvm.Cond.instanceMethod ({ cls := "ActSurgery", name := "would", desc := "(IIIIIII)I" } : Jvm.MethodName)) ∈ x_GT := x_t2 178 rfl rfl
theorem tw_2_179 : (Jvm.Cond.selects "ActSurgery" ({ cls := "ActSurgery", name := "would", desc := "(IIIIIII)I" } : Jvm.MethodName) ({ cls := "ActSurgery", name := "would", desc := "(IIIIIII)I" } : Jvm.MethodName)) ∈ x_GT := x_t2 179 rfl rfl
theorem tw_2_180 : (Jvm.Cond.code ({ cls := "ActSurgery", name := "would", desc := "(IIIIIII)I" } : Jvm.MethodName) prog_1_method_15_code (8 : Nat) (Option.some Jvm.ClassFile.FieldType.int)) ∈ x_GT := x_t2 180 rfl rfl
theorem tw_2_177 : (Jvm.Cond.methodLink "ActSurgeryLaw" (71 : Nat) ({ cls := "ActSurgery", name := "would", desc := "(IIIIIII)I" } : Jvm.MethodName)) ∈ x_GT := x_t2 177 rfl rfl
theorem kL_71 : x_kV "ActSurgeryLaw" 71 yA_would cA_would 8 (some .int) 7 0 := ⟨tw_2_178, tw_2_179, tw_2_180, tw_1_1, tw_2_177, (by decide +kernel), rfl⟩
theorem tw_3_226 : (Jvm.Cond.instanceMethod ({ cls := "ActSurgeryModel", name := "would", desc := "(IIIIIII)I" } : Jvm.MethodName)) ∈ x_GT := x_t3 226 rfl rfl
theorem tw_3_227 : (Jvm.Cond.selects "ActSurgeryModel" ({ cls := "ActSurgeryModel", name := "would", desc := "(IIIIIII)I" } : Jvm.MethodName) ({ cls := "ActSurgeryModel", name := "would", desc := "(IIIIIII)I" } : Jvm.MethodName)) ∈ x_GT := x_t3 227 rfl rfl
theorem tw_3_228 : (Jvm.Cond.code ({ cls := "ActSurgeryModel", name := "would", desc := "(IIIIIII)I" } : Jvm.MethodName) prog_7_method_55_code (14 : Nat) (Option.some Jvm.ClassFile.FieldType.int)) ∈ x_GT := x_t3 228 rfl rfl
theorem tw_3_225 : (Jvm.Cond.methodLink "ActSurgeryLaw" (74 : Nat) ({ cls := "ActSurgeryModel", name := "would", desc := "(IIIIIII)I" } : Jvm.MethodName)) ∈ x_GT := x_t3 225 rfl rfl
theorem kL_74 : x_kV "ActSurgeryLaw" 74 yM_would cM_would 14 (some .int) 7 5 := ⟨tw_3_226, tw_3_227, tw_3_228, tw_1_6, tw_3_225, (by decide +kernel), rfl⟩
theorem tw_2_182 : (Jvm.Cond.instanceMethod ({ cls := "ActSurgery", name := "effect", desc := "(II)I" } : Jvm.MethodName)) ∈ x_GT := x_t2 182 rfl rfl
theorem tw_2_183 : (Jvm.Cond.selects "ActSurgery" ({ cls := "ActSurgery", name := "effect", desc := "(II)I" } : Jvm.MethodName) ({ cls := "ActSurgery", name := "effect", desc := "(II)I" } : Jvm.MethodName)) ∈ x_GT := x_t2 183 rfl rfl
theorem tw_2_184 : (Jvm.Cond.code ({ cls := "ActSurgery", name := "effect", desc := "(II)I" } : Jvm.MethodName) prog_1_method_16_code (3 : Nat) (Option.some Jvm.ClassFile.FieldType.int)) ∈ x_GT := x_t2 184 rfl rfl
theorem tw_2_181 : (Jvm.Cond.methodLink "ActSurgeryLaw" (75 : Nat) ({ cls := "ActSurgery", name := "effect", desc := "(II)I" } : Jvm.MethodName)) ∈ x_GT := x_t2 181 rfl rfl
theorem kL_75 : x_kV "ActSurgeryLaw" 75 yA_effect cA_effect 3 (some .int) 2 0 := ⟨tw_2_182, tw_2_183, tw_2_184, tw_1_1, tw_2_181, (by decide +kernel), rfl⟩
theorem tw_3_234 : (Jvm.Cond.instanceMethod ({ cls := "ActSurgeryModel", name := "effect", desc := "(II)I" } : Jvm.MethodName)) ∈ x_GT := x_t3 234 rfl rfl
theorem tw_3_235 : (Jvm.Cond.selects "ActSurgeryModel" ({ cls := "ActSurgeryModel", name := "effect", desc := "(II)I" } : Jvm.MethodName) ({ cls := "ActSurgeryModel", name := "effect", desc := "(II)I" } : Jvm.MethodName)) ∈ x_GT := x_t3 235 rfl rfl
theorem tw_3_236 : (Jvm.Cond.code ({ cls := "ActSurgeryModel", name := "effect", desc := "(II)I" } : Jvm.MethodName) prog_7_method_57_code (3 : Nat) (Option.some Jvm.ClassFile.FieldType.int)) ∈ x_GT := x_t3 236 rfl rfl
theorem tw_3_233 : (Jvm.Cond.methodLink "ActSurgeryLaw" (78 : Nat) ({ cls := "ActSurgeryModel", name := "effect", desc := "(II)I" } : Jvm.MethodName)) ∈ x_GT := x_t3 233 rfl rfl
theorem kL_78 : x_kV "ActSurgeryLaw" 78 yM_effect cM_effect 3 (some .int) 2 5 := ⟨tw_3_234, tw_3_235, tw_3_236, tw_1_6, tw_3_233, (by decide +kernel), rfl⟩
theorem tw_2_186 : (Jvm.Cond.instanceMethod ({ cls := "ActSurgery", name := "swayed", desc := "(II)I" } : Jvm.MethodName)) ∈ x_GT := x_t2 186 rfl rfl
theorem tw_2_187 : (Jvm.Cond.selects "ActSurgery" ({ cls := "ActSurgery", name := "swayed", desc := "(II)I" } : Jvm.MethodName) ({ cls := "ActSurgery", name := "swayed", desc := "(II)I" } : Jvm.MethodName)) ∈ x_GT := x_t2 187 rfl rfl
theorem tw_2_188 : (Jvm.Cond.code ({ cls := "ActSurgery", name := "swayed", desc := "(II)I" } : Jvm.MethodName) prog_1_method_17_code (3 : Nat) (Option.some Jvm.ClassFile.FieldType.int)) ∈ x_GT := x_t2 188 rfl rfl
theorem tw_2_185 : (Jvm.Cond.methodLink "ActSurgeryLaw" (79 : Nat) ({ cls := "ActSurgery", name := "swayed", desc := "(II)I" } : Jvm.MethodName)) ∈ x_GT := x_t2 185 rfl rfl
theorem kL_79 : x_kV "ActSurgeryLaw" 79 yA_swayed cA_swayed 3 (some .int) 2 0 := ⟨tw_2_186, tw_2_187, tw_2_188, tw_1_1, tw_2_185, (by decide +kernel), rfl⟩
theorem tw_4_2 : (Jvm.Cond.instanceMethod ({ cls := "ActSurgeryModel", name := "swayed", desc := "(II)I" } : Jvm.MethodName)) ∈ x_GT := x_t4 2 rfl rfl
theorem tw_4_3 : (Jvm.Cond.selects "ActSurgeryModel" ({ cls := "ActSurgeryModel", name := "swayed", desc := "(II)I" } : Jvm.MethodName) ({ cls := "ActSurgeryModel", name := "swayed", desc := "(II)I" } : Jvm.MethodName)) ∈ x_GT := x_t4 3 rfl rfl
theorem tw_4_4 : (Jvm.Cond.code ({ cls := "ActSurgeryModel", name := "swayed", desc := "(II)I" } : Jvm.MethodName) prog_7_method_58_code (7 : Nat) (Option.some Jvm.ClassFile.FieldType.int)) ∈ x_GT := x_t4 4 rfl rfl
theorem tw_4_1 : (Jvm.Cond.methodLink "ActSurgeryLaw" (82 : Nat) ({ cls := "ActSurgeryModel", name := "swayed", desc := "(II)I" } : Jvm.MethodName)) ∈ x_GT := x_t4 1 rfl rfl
theorem kL_82 : x_kV "ActSurgeryLaw" 82 yM_swayed cM_swayed 7 (some .int) 2 5 := ⟨tw_4_2, tw_4_3, tw_4_4, tw_1_6, tw_4_1, (by decide +kernel), rfl⟩
theorem tw_2_190 : (Jvm.Cond.instanceMethod ({ cls := "ActSurgery", name := "swap", desc := "()I" } : Jvm.MethodName)) ∈ x_GT := x_t2 190 rfl rfl
theorem tw_2_191 : (Jvm.Cond.selects "ActSurgery" ({ cls := "ActSurgery", name := "swap", desc := "()I" } : Jvm.MethodName) ({ cls := "ActSurgery", name := "swap", desc := "()I" } : Jvm.MethodName)) ∈ x_GT := x_t2 191 rfl rfl
theorem tw_2_192 : (Jvm.Cond.code ({ cls := "ActSurgery", name := "swap", desc := "()I" } : Jvm.MethodName) prog_1_method_18_code (2 : Nat) (Option.some Jvm.ClassFile.FieldType.int)) ∈ x_GT := x_t2 192 rfl rfl
theorem tw_2_189 : (Jvm.Cond.methodLink "ActSurgeryLaw" (83 : Nat) ({ cls := "ActSurgery", name := "swap", desc := "()I" } : Jvm.MethodName)) ∈ x_GT := x_t2 189 rfl rfl
theorem kL_83 : x_kV "ActSurgeryLaw" 83 yA_swap cA_swap 2 (some .int) 0 0 := ⟨tw_2_190, tw_2_191, tw_2_192, tw_1_1, tw_2_189, (by decide +kernel), rfl⟩
theorem tw_4_10 : (Jvm.Cond.instanceMethod ({ cls := "ActSurgeryModel", name := "swap", desc := "()I" } : Jvm.MethodName)) ∈ x_GT := x_t4 10 rfl rfl
theorem tw_4_11 : (Jvm.Cond.selects "ActSurgeryModel" ({ cls := "ActSurgeryModel", name := "swap", desc := "()I" } : Jvm.MethodName) ({ cls := "ActSurgeryModel", name := "swap", desc := "()I" } : Jvm.MethodName)) ∈ x_GT := x_t4 11 rfl rfl
theorem tw_4_12 : (Jvm.Cond.code ({ cls := "ActSurgeryModel", name := "swap", desc := "()I" } : Jvm.MethodName) prog_7_method_60_code (5 : Nat) (Option.some Jvm.ClassFile.FieldType.int)) ∈ x_GT := x_t4 12 rfl rfl
theorem tw_4_9 : (Jvm.Cond.methodLink "ActSurgeryLaw" (87 : Nat) ({ cls := "ActSurgeryModel", name := "swap", desc := "()I" } : Jvm.MethodName)) ∈ x_GT := x_t4 9 rfl rfl
theorem kL_87 : x_kV "ActSurgeryLaw" 87 yM_swap cM_swap 5 (some .int) 0 5 := ⟨tw_4_10, tw_4_11, tw_4_12, tw_1_6, tw_4_9, (by decide +kernel), rfl⟩
theorem tw_2_194 : (Jvm.Cond.instanceMethod ({ cls := "ActSurgery", name := "keep", desc := "()I" } : Jvm.MethodName)) ∈ x_GT := x_t2 194 rfl rfl
theorem tw_2_195 : (Jvm.Cond.selects "ActSurgery" ({ cls := "ActSurgery", name := "keep", desc := "()I" } : Jvm.MethodName) ({ cls := "ActSurgery", name := "keep", desc := "()I" } : Jvm.MethodName)) ∈ x_GT := x_t2 195 rfl rfl
theorem tw_2_196 : (Jvm.Cond.code ({ cls := "ActSurgery", name := "keep", desc := "()I" } : Jvm.MethodName) prog_1_method_19_code (1 : Nat) (Option.some Jvm.ClassFile.FieldType.int)) ∈ x_GT := x_t2 196 rfl rfl
theorem tw_2_193 : (Jvm.Cond.methodLink "ActSurgeryLaw" (88 : Nat) ({ cls := "ActSurgery", name := "keep", desc := "()I" } : Jvm.MethodName)) ∈ x_GT := x_t2 193 rfl rfl
theorem kL_88 : x_kV "ActSurgeryLaw" 88 yA_keep cA_keep 1 (some .int) 0 0 := ⟨tw_2_194, tw_2_195, tw_2_196, tw_1_1, tw_2_193, (by decide +kernel), rfl⟩
theorem tw_4_14 : (Jvm.Cond.instanceMethod ({ cls := "ActSurgeryModel", name := "keep", desc := "()I" } : Jvm.MethodName)) ∈ x_GT := x_t4 14 rfl rfl
theorem tw_4_15 : (Jvm.Cond.selects "ActSurgeryModel" ({ cls := "ActSurgeryModel", name := "keep", desc := "()I" } : Jvm.MethodName) ({ cls := "ActSurgeryModel", name := "keep", desc := "()I" } : Jvm.MethodName)) ∈ x_GT := x_t4 15 rfl rfl
theorem tw_4_16 : (Jvm.Cond.code ({ cls := "ActSurgeryModel", name := "keep", desc := "()I" } : Jvm.MethodName) prog_7_method_61_code (2 : Nat) (Option.some Jvm.ClassFile.FieldType.int)) ∈ x_GT := x_t4 16 rfl rfl
theorem tw_4_13 : (Jvm.Cond.methodLink "ActSurgeryLaw" (91 : Nat) ({ cls := "ActSurgeryModel", name := "keep", desc := "()I" } : Jvm.MethodName)) ∈ x_GT := x_t4 13 rfl rfl
theorem kL_91 : x_kV "ActSurgeryLaw" 91 yM_keep cM_keep 2 (some .int) 0 5 := ⟨tw_4_14, tw_4_15, tw_4_16, tw_1_6, tw_4_13, (by decide +kernel), rfl⟩
theorem tw_2_206 : (Jvm.Cond.instanceMethod ({ cls := "ActSurgery", name := "alike", desc := "(I)I" } : Jvm.MethodName)) ∈ x_GT := x_t2 206 rfl rfl
theorem tw_2_207 : (Jvm.Cond.selects "ActSurgery" ({ cls := "ActSurgery", name := "alike", desc := "(I)I" } : Jvm.MethodName) ({ cls := "ActSurgery", name := "alike", desc := "(I)I" } : Jvm.MethodName)) ∈ x_GT := x_t2 207 rfl rfl
theorem tw_2_208 : (Jvm.Cond.code ({ cls := "ActSurgery", name := "alike", desc := "(I)I" } : Jvm.MethodName) prog_1_method_20_code (2 : Nat) (Option.some Jvm.ClassFile.FieldType.int)) ∈ x_GT := x_t2 208 rfl rfl
theorem tw_2_205 : (Jvm.Cond.methodLink "ActSurgeryLaw" (92 : Nat) ({ cls := "ActSurgery", name := "alike", desc := "(I)I" } : Jvm.MethodName)) ∈ x_GT := x_t2 205 rfl rfl
theorem kL_92 : x_kV "ActSurgeryLaw" 92 yA_alike cA_alike 2 (some .int) 1 0 := ⟨tw_2_206, tw_2_207, tw_2_208, tw_1_1, tw_2_205, (by decide +kernel), rfl⟩
theorem tw_4_18 : (Jvm.Cond.instanceMethod ({ cls := "ActSurgeryModel", name := "alike", desc := "(I)I" } : Jvm.MethodName)) ∈ x_GT := x_t4 18 rfl rfl
theorem tw_4_19 : (Jvm.Cond.selects "ActSurgeryModel" ({ cls := "ActSurgeryModel", name := "alike", desc := "(I)I" } : Jvm.MethodName) ({ cls := "ActSurgeryModel", name := "alike", desc := "(I)I" } : Jvm.MethodName)) ∈ x_GT := x_t4 19 rfl rfl
theorem tw_4_20 : (Jvm.Cond.code ({ cls := "ActSurgeryModel", name := "alike", desc := "(I)I" } : Jvm.MethodName) prog_7_method_66_code (3 : Nat) (Option.some Jvm.ClassFile.FieldType.int)) ∈ x_GT := x_t4 20 rfl rfl
theorem tw_4_17 : (Jvm.Cond.methodLink "ActSurgeryLaw" (95 : Nat) ({ cls := "ActSurgeryModel", name := "alike", desc := "(I)I" } : Jvm.MethodName)) ∈ x_GT := x_t4 17 rfl rfl
theorem kL_95 : x_kV "ActSurgeryLaw" 95 yM_alike cM_alike 3 (some .int) 1 5 := ⟨tw_4_18, tw_4_19, tw_4_20, tw_1_6, tw_4_17, (by decide +kernel), rfl⟩
theorem tw_1_10 : (Jvm.Cond.classLink "ActSurgeryLaw" (7 : Nat) "ActSurgery") ∈ x_GT := x_t1 10 rfl rfl
theorem tw_1_11 : (Jvm.Cond.instantiable "ActSurgery" (6 : Nat)) ∈ x_GT := x_t1 11 rfl rfl
theorem tw_1_13 : (Jvm.Cond.instanceMethod ({ cls := "ActSurgery", name := "<init>", desc := "()V" } : Jvm.MethodName)) ∈ x_GT := x_t1 13 rfl rfl
theorem tw_1_14 : (Jvm.Cond.code ({ cls := "ActSurgery", name := "<init>", desc := "()V" } : Jvm.MethodName) prog_1_method_1_code (1 : Nat) (Option.none : Option Jvm.ClassFile.FieldType)) ∈ x_GT := x_t1 14 rfl rfl
theorem tw_1_12 : (Jvm.Cond.methodLink "ActSurgeryLaw" (9 : Nat) ({ cls := "ActSurgery", name := "<init>", desc := "()V" } : Jvm.MethodName)) ∈ x_GT := x_t1 12 rfl rfl
theorem kL_9 : x_kI "ActSurgeryLaw" 9 yA_init cA_init 1 0 := ⟨rfl, tw_1_13, tw_1_14, tw_1_1, tw_1_12, (by decide +kernel)⟩
theorem tw_2_221 : (Jvm.Cond.classLink "ActSurgeryLaw" (10 : Nat) "ActSurgeryModel") ∈ x_GT := x_t2 221 rfl rfl
theorem tw_2_222 : (Jvm.Cond.instantiable "ActSurgeryModel" (12 : Nat)) ∈ x_GT := x_t2 222 rfl rfl
theorem tw_2_224 : (Jvm.Cond.instanceMethod ({ cls := "ActSurgeryModel", name := "<init>", desc := "()V" } : Jvm.MethodName)) ∈ x_GT := x_t2 224 rfl rfl
theorem tw_2_225 : (Jvm.Cond.code ({ cls := "ActSurgeryModel", name := "<init>", desc := "()V" } : Jvm.MethodName) prog_7_method_1_code (1 : Nat) (Option.none : Option Jvm.ClassFile.FieldType)) ∈ x_GT := x_t2 225 rfl rfl
theorem tw_2_223 : (Jvm.Cond.methodLink "ActSurgeryLaw" (12 : Nat) ({ cls := "ActSurgeryModel", name := "<init>", desc := "()V" } : Jvm.MethodName)) ∈ x_GT := x_t2 223 rfl rfl
theorem kL_12 : x_kI "ActSurgeryLaw" 12 yM_init cM_init 1 0 := ⟨rfl, tw_2_224, tw_2_225, tw_1_6, tw_2_223, (by decide +kernel)⟩
def fL_law_18 (xl : Nat) (xs : Nat → Int32) : Nat → x_W → Nat → Nat → Int32 → Option Int32
  | 0, _, _, _, _ => none
  | n + 1, w, v1, v2, v3 =>
    if ((Int32.ofNat xl) - (8 : Int32)) < v3 then
      some (1 : Int32)
    else
      if v3 < 0 ∨ xl ≤ v3.toNatClampNeg then none else
      if ((xs v3.toNatClampNeg) &&& (31 : Int32)) = (0 : Int32) then
        if (v3 + (1 : Int32)) < 0 ∨ xl ≤ (v3 + (1 : Int32)).toNatClampNeg then none else
        (x_ob w v1 0).bind fun _ =>
        (fA_begin w v1 (xs (v3 + (1 : Int32)).toNatClampNeg)).bind fun q6 =>
        (x_ob q6.2 v2 5).bind fun _ =>
        (fM_begin q6.2 v2 (xs (v3 + (1 : Int32)).toNatClampNeg)).bind fun q8 =>
        fL_law_18 xl xs n q8.2 v1 v2 (v3 + (8 : Int32))
      else
      if ((xs v3.toNatClampNeg) &&& (31 : Int32)) = (1 : Int32) then
        if (v3 + (1 : Int32)) < 0 ∨ xl ≤ (v3 + (1 : Int32)).toNatClampNeg then none else
        if (v3 + (2 : Int32)) < 0 ∨ xl ≤ (v3 + (2 : Int32)).toNatClampNeg then none else
        (x_ob w v1 0).bind fun _ =>
        (fA_parents w v1 (xs (v3 + (1 : Int32)).toNatClampNeg) (xs (v3 + (2 : Int32)).toNatClampNeg)).bind fun q13 =>
        (x_ob q13.2 v2 5).bind fun _ =>
        (fM_parents q13.2 v2 (xs (v3 + (1 : Int32)).toNatClampNeg) (xs (v3 + (2 : Int32)).toNatClampNeg)).bind fun q15 =>
        fL_law_18 xl xs n q15.2 v1 v2 (v3 + (8 : Int32))
      else
      if ((xs v3.toNatClampNeg) &&& (31 : Int32)) = (2 : Int32) then
        if (v3 + (1 : Int32)) < 0 ∨ xl ≤ (v3 + (1 : Int32)).toNatClampNeg then none else
        if (v3 + (2 : Int32)) < 0 ∨ xl ≤ (v3 + (2 : Int32)).toNatClampNeg then none else
        if (v3 + (3 : Int32)) < 0 ∨ xl ≤ (v3 + (3 : Int32)).toNatClampNeg then none else
        (x_ob w v1 0).bind fun _ =>
        (fA_weight w v1 (xs (v3 + (1 : Int32)).toNatClampNeg) (xs (v3 + (2 : Int32)).toNatClampNeg) (xs (v3 + (3 : Int32)).toNatClampNeg)).bind fun q21 =>
        (x_ob q21.2 v2 5).bind fun _ =>
        (fM_weight q21.2 v2 (xs (v3 + (1 : Int32)).toNatClampNeg) (xs (v3 + (2 : Int32)).toNatClampNeg) (xs (v3 + (3 : Int32)).toNatClampNeg)).bind fun q23 =>
        fL_law_18 xl xs n q23.2 v1 v2 (v3 + (8 : Int32))
      else
      if ((xs v3.toNatClampNeg) &&& (31 : Int32)) = (3 : Int32) then
        if (v3 + (1 : Int32)) < 0 ∨ xl ≤ (v3 + (1 : Int32)).toNatClampNeg then none else
        if (v3 + (2 : Int32)) < 0 ∨ xl ≤ (v3 + (2 : Int32)).toNatClampNeg then none else
        if (xs (v3 + (2 : Int32)).toNatClampNeg) = (0 : Int32) then
          (x_ob w v1 0).bind fun _ =>
          (fA_hide w v1 (xs (v3 + (1 : Int32)).toNatClampNeg) (0 : Int32)).bind fun q29 =>
          if (xs (v3 + (2 : Int32)).toNatClampNeg) = (0 : Int32) then
            (x_ob q29.2 v2 5).bind fun _ =>
            (fM_hide q29.2 v2 (xs (v3 + (1 : Int32)).toNatClampNeg) (0 : Int32)).bind fun q32 =>
            fL_law_18 xl xs n q32.2 v1 v2 (v3 + (8 : Int32))
          else
            (x_ob q29.2 v2 5).bind fun _ =>
            (fM_hide q29.2 v2 (xs (v3 + (1 : Int32)).toNatClampNeg) (1 : Int32)).bind fun q34 =>
            fL_law_18 xl xs n q34.2 v1 v2 (v3 + (8 : Int32))
        else
          (x_ob w v1 0).bind fun _ =>
          (fA_hide w v1 (xs (v3 + (1 : Int32)).toNatClampNeg) (1 : Int32)).bind fun q36 =>
          if (xs (v3 + (2 : Int32)).toNatClampNeg) = (0 : Int32) then
            (x_ob q36.2 v2 5).bind fun _ =>
            (fM_hide q36.2 v2 (xs (v3 + (1 : Int32)).toNatClampNeg) (0 : Int32)).bind fun q39 =>
            fL_law_18 xl xs n q39.2 v1 v2 (v3 + (8 : Int32))
          else
            (x_ob q36.2 v2 5).bind fun _ =>
            (fM_hide q36.2 v2 (xs (v3 + (1 : Int32)).toNatClampNeg) (1 : Int32)).bind fun q41 =>
            fL_law_18 xl xs n q41.2 v1 v2 (v3 + (8 : Int32))
      else
      if ((xs v3.toNatClampNeg) &&& (31 : Int32)) = (4 : Int32) then
        if (v3 + (1 : Int32)) < 0 ∨ xl ≤ (v3 + (1 : Int32)).toNatClampNeg then none else
        (x_ob w v1 0).bind fun _ =>
        (fA_count w v1 (xs (v3 + (1 : Int32)).toNatClampNeg)).bind fun q45 =>
        (x_ob q45.2 v2 5).bind fun _ =>
        (fM_count q45.2 v2 (xs (v3 + (1 : Int32)).toNatClampNeg)).bind fun q47 =>
        fL_law_18 xl xs n q47.2 v1 v2 (v3 + (8 : Int32))
      else
      if ((xs v3.toNatClampNeg) &&& (31 : Int32)) = (5 : Int32) then
        if (v3 + (1 : Int32)) < 0 ∨ xl ≤ (v3 + (1 : Int32)).toNatClampNeg then none else
        if (v3 + (2 : Int32)) < 0 ∨ xl ≤ (v3 + (2 : Int32)).toNatClampNeg then none else
        (x_ob w v1 0).bind fun _ =>
        (fA_of w v1 (xs (v3 + (1 : Int32)).toNatClampNeg) (xs (v3 + (2 : Int32)).toNatClampNeg)).bind fun q52 =>
        (x_ob q52.2 v2 5).bind fun _ =>
        (fM_of q52.2 v2 (xs (v3 + (1 : Int32)).toNatClampNeg) (xs (v3 + (2 : Int32)).toNatClampNeg)).bind fun q54 =>
        fL_law_18 xl xs n q54.2 v1 v2 (v3 + (8 : Int32))
      else
      if ((xs v3.toNatClampNeg) &&& (31 : Int32)) = (6 : Int32) then
        if (v3 + (1 : Int32)) < 0 ∨ xl ≤ (v3 + (1 : Int32)).toNatClampNeg then none else
        if (v3 + (2 : Int32)) < 0 ∨ xl ≤ (v3 + (2 : Int32)).toNatClampNeg then none else
        if (v3 + (3 : Int32)) < 0 ∨ xl ≤ (v3 + (3 : Int32)).toNatClampNeg then none else
        (x_ob w v1 0).bind fun _ =>
        (fA_parted w v1 (xs (v3 + (1 : Int32)).toNatClampNeg) (xs (v3 + (2 : Int32)).toNatClampNeg) (xs (v3 + (3 : Int32)).toNatClampNeg)).bind fun t60 =>
        (x_ob w v2 5).bind fun _ =>
        (fM_parted w v2 (xs (v3 + (1 : Int32)).toNatClampNeg) (xs (v3 + (2 : Int32)).toNatClampNeg) (xs (v3 + (3 : Int32)).toNatClampNeg)).bind fun q62 =>
        fL_law_18 xl xs n q62.2 v1 v2 (v3 + (8 : Int32))
      else
      if ((xs v3.toNatClampNeg) &&& (31 : Int32)) = (7 : Int32) then
        if (v3 + (1 : Int32)) < 0 ∨ xl ≤ (v3 + (1 : Int32)).toNatClampNeg then none else
        if (v3 + (2 : Int32)) < 0 ∨ xl ≤ (v3 + (2 : Int32)).toNatClampNeg then none else
        (x_ob w v1 0).bind fun _ =>
        (fA_parting w v1 (xs (v3 + (1 : Int32)).toNatClampNeg) (xs (v3 + (2 : Int32)).toNatClampNeg)).bind fun t67 =>
        (x_ob w v2 5).bind fun _ =>
        (fM_parting w v2 (xs (v3 + (1 : Int32)).toNatClampNeg) (xs (v3 + (2 : Int32)).toNatClampNeg)).bind fun q69 =>
        fL_law_18 xl xs n q69.2 v1 v2 (v3 + (8 : Int32))
      else
      if ((xs v3.toNatClampNeg) &&& (31 : Int32)) = (8 : Int32) then
        if (v3 + (1 : Int32)) < 0 ∨ xl ≤ (v3 + (1 : Int32)).toNatClampNeg then none else
        if (v3 + (2 : Int32)) < 0 ∨ xl ≤ (v3 + (2 : Int32)).toNatClampNeg then none else
        if (v3 + (3 : Int32)) < 0 ∨ xl ≤ (v3 + (3 : Int32)).toNatClampNeg then none else
        (x_ob w v1 0).bind fun _ =>
        (fA_ways w v1 (xs (v3 + (1 : Int32)).toNatClampNeg) (xs (v3 + (2 : Int32)).toNatClampNeg) (xs (v3 + (3 : Int32)).toNatClampNeg)).bind fun t75 =>
        (x_ob w v2 5).bind fun _ =>
        (fM_ways w v2 (xs (v3 + (1 : Int32)).toNatClampNeg) (xs (v3 + (2 : Int32)).toNatClampNeg) (xs (v3 + (3 : Int32)).toNatClampNeg)).bind fun q77 =>
        fL_law_18 xl xs n q77.2 v1 v2 (v3 + (8 : Int32))
      else
      if ((xs v3.toNatClampNeg) &&& (31 : Int32)) = (9 : Int32) then
        if (v3 + (1 : Int32)) < 0 ∨ xl ≤ (v3 + (1 : Int32)).toNatClampNeg then none else
        if (v3 + (2 : Int32)) < 0 ∨ xl ≤ (v3 + (2 : Int32)).toNatClampNeg then none else
        if (v3 + (3 : Int32)) < 0 ∨ xl ≤ (v3 + (3 : Int32)).toNatClampNeg then none else
        if (v3 + (4 : Int32)) < 0 ∨ xl ≤ (v3 + (4 : Int32)).toNatClampNeg then none else
        (x_ob w v1 0).bind fun _ =>
        (fA_tells w v1 (xs (v3 + (1 : Int32)).toNatClampNeg) (xs (v3 + (2 : Int32)).toNatClampNeg) (xs (v3 + (3 : Int32)).toNatClampNeg) (xs (v3 + (4 : Int32)).toNatClampNeg)).bind fun q84 =>
        (x_ob q84.2 v2 5).bind fun _ =>
        (fM_tells q84.2 v2 (xs (v3 + (1 : Int32)).toNatClampNeg) (xs (v3 + (2 : Int32)).toNatClampNeg) (xs (v3 + (3 : Int32)).toNatClampNeg) (xs (v3 + (4 : Int32)).toNatClampNeg)).bind fun q86 =>
        fL_law_18 xl xs n q86.2 v1 v2 (v3 + (8 : Int32))
      else
      if ((xs v3.toNatClampNeg) &&& (31 : Int32)) = (10 : Int32) then
        if (v3 + (1 : Int32)) < 0 ∨ xl ≤ (v3 + (1 : Int32)).toNatClampNeg then none else
        if (v3 + (2 : Int32)) < 0 ∨ xl ≤ (v3 + (2 : Int32)).toNatClampNeg then none else
        if (v3 + (3 : Int32)) < 0 ∨ xl ≤ (v3 + (3 : Int32)).toNatClampNeg then none else
        (x_ob w v1 0).bind fun _ =>
        (fA_telling w v1 (xs (v3 + (1 : Int32)).toNatClampNeg) (xs (v3 + (2 : Int32)).toNatClampNeg) (xs (v3 + (3 : Int32)).toNatClampNeg)).bind fun q92 =>
        (x_ob q92.2 v2 5).bind fun _ =>
        (fM_telling q92.2 v2 (xs (v3 + (1 : Int32)).toNatClampNeg) (xs (v3 + (2 : Int32)).toNatClampNeg) (xs (v3 + (3 : Int32)).toNatClampNeg)).bind fun q94 =>
        fL_law_18 xl xs n q94.2 v1 v2 (v3 + (8 : Int32))
      else
      if ((xs v3.toNatClampNeg) &&& (31 : Int32)) = (11 : Int32) then
        if (v3 + (1 : Int32)) < 0 ∨ xl ≤ (v3 + (1 : Int32)).toNatClampNeg then none else
        (x_ob w v1 0).bind fun _ =>
        (fA_told w v1 (xs (v3 + (1 : Int32)).toNatClampNeg)).bind fun t98 =>
        (x_ob w v2 5).bind fun _ =>
        (fM_told w v2 (xs (v3 + (1 : Int32)).toNatClampNeg)).bind fun q100 =>
        fL_law_18 xl xs n q100.2 v1 v2 (v3 + (8 : Int32))
      else
      if ((xs v3.toNatClampNeg) &&& (31 : Int32)) = (12 : Int32) then
        if (v3 + (1 : Int32)) < 0 ∨ xl ≤ (v3 + (1 : Int32)).toNatClampNeg then none else
        if (v3 + (2 : Int32)) < 0 ∨ xl ≤ (v3 + (2 : Int32)).toNatClampNeg then none else
        if (v3 + (3 : Int32)) < 0 ∨ xl ≤ (v3 + (3 : Int32)).toNatClampNeg then none else
        if (v3 + (4 : Int32)) < 0 ∨ xl ≤ (v3 + (4 : Int32)).toNatClampNeg then none else
        if (v3 + (5 : Int32)) < 0 ∨ xl ≤ (v3 + (5 : Int32)).toNatClampNeg then none else
        if (v3 + (6 : Int32)) < 0 ∨ xl ≤ (v3 + (6 : Int32)).toNatClampNeg then none else
        if (v3 + (7 : Int32)) < 0 ∨ xl ≤ (v3 + (7 : Int32)).toNatClampNeg then none else
        (x_ob w v1 0).bind fun _ =>
        (fA_odds w v1 (xs (v3 + (1 : Int32)).toNatClampNeg) (xs (v3 + (2 : Int32)).toNatClampNeg) (xs (v3 + (3 : Int32)).toNatClampNeg) (xs (v3 + (4 : Int32)).toNatClampNeg) (xs (v3 + (5 : Int32)).toNatClampNeg) (xs (v3 + (6 : Int32)).toNatClampNeg) (xs (v3 + (7 : Int32)).toNatClampNeg)).bind fun q110 =>
        (x_ob q110.2 v2 5).bind fun _ =>
        (fM_odds q110.2 v2 (xs (v3 + (1 : Int32)).toNatClampNeg) (xs (v3 + (2 : Int32)).toNatClampNeg) (xs (v3 + (3 : Int32)).toNatClampNeg) (xs (v3 + (4 : Int32)).toNatClampNeg) (xs (v3 + (5 : Int32)).toNatClampNeg) (xs (v3 + (6 : Int32)).toNatClampNeg) (xs (v3 + (7 : Int32)).toNatClampNeg)).bind fun t112 =>
        fL_law_18 xl xs n q110.2 v1 v2 (v3 + (8 : Int32))
      else
      if ((xs v3.toNatClampNeg) &&& (31 : Int32)) = (13 : Int32) then
        if (v3 + (1 : Int32)) < 0 ∨ xl ≤ (v3 + (1 : Int32)).toNatClampNeg then none else
        if (v3 + (2 : Int32)) < 0 ∨ xl ≤ (v3 + (2 : Int32)).toNatClampNeg then none else
        if (v3 + (3 : Int32)) < 0 ∨ xl ≤ (v3 + (3 : Int32)).toNatClampNeg then none else
        if (v3 + (4 : Int32)) < 0 ∨ xl ≤ (v3 + (4 : Int32)).toNatClampNeg then none else
        if (v3 + (5 : Int32)) < 0 ∨ xl ≤ (v3 + (5 : Int32)).toNatClampNeg then none else
        if (v3 + (6 : Int32)) < 0 ∨ xl ≤ (v3 + (6 : Int32)).toNatClampNeg then none else
        if (v3 + (7 : Int32)) < 0 ∨ xl ≤ (v3 + (7 : Int32)).toNatClampNeg then none else
        (x_ob w v1 0).bind fun _ =>
        (fA_would w v1 (xs (v3 + (1 : Int32)).toNatClampNeg) (xs (v3 + (2 : Int32)).toNatClampNeg) (xs (v3 + (3 : Int32)).toNatClampNeg) (xs (v3 + (4 : Int32)).toNatClampNeg) (xs (v3 + (5 : Int32)).toNatClampNeg) (xs (v3 + (6 : Int32)).toNatClampNeg) (xs (v3 + (7 : Int32)).toNatClampNeg)).bind fun q122 =>
        (x_ob q122.2 v2 5).bind fun _ =>
        (fM_would q122.2 v2 (xs (v3 + (1 : Int32)).toNatClampNeg) (xs (v3 + (2 : Int32)).toNatClampNeg) (xs (v3 + (3 : Int32)).toNatClampNeg) (xs (v3 + (4 : Int32)).toNatClampNeg) (xs (v3 + (5 : Int32)).toNatClampNeg) (xs (v3 + (6 : Int32)).toNatClampNeg) (xs (v3 + (7 : Int32)).toNatClampNeg)).bind fun t124 =>
        fL_law_18 xl xs n q122.2 v1 v2 (v3 + (8 : Int32))
      else
      if ((xs v3.toNatClampNeg) &&& (31 : Int32)) = (14 : Int32) then
        if (v3 + (1 : Int32)) < 0 ∨ xl ≤ (v3 + (1 : Int32)).toNatClampNeg then none else
        if (v3 + (2 : Int32)) < 0 ∨ xl ≤ (v3 + (2 : Int32)).toNatClampNeg then none else
        (x_ob w v1 0).bind fun _ =>
        (fA_effect w v1 (xs (v3 + (1 : Int32)).toNatClampNeg) (xs (v3 + (2 : Int32)).toNatClampNeg)).bind fun q129 =>
        (x_ob q129.2 v2 5).bind fun _ =>
        (fM_effect q129.2 v2 (xs (v3 + (1 : Int32)).toNatClampNeg) (xs (v3 + (2 : Int32)).toNatClampNeg)).bind fun t131 =>
        fL_law_18 xl xs n q129.2 v1 v2 (v3 + (8 : Int32))
      else
      if ((xs v3.toNatClampNeg) &&& (31 : Int32)) = (15 : Int32) then
        if (v3 + (1 : Int32)) < 0 ∨ xl ≤ (v3 + (1 : Int32)).toNatClampNeg then none else
        if (v3 + (2 : Int32)) < 0 ∨ xl ≤ (v3 + (2 : Int32)).toNatClampNeg then none else
        (x_ob w v1 0).bind fun _ =>
        (fA_swayed w v1 (xs (v3 + (1 : Int32)).toNatClampNeg) (xs (v3 + (2 : Int32)).toNatClampNeg)).bind fun q136 =>
        (x_ob q136.2 v2 5).bind fun _ =>
        (fM_swayed q136.2 v2 (xs (v3 + (1 : Int32)).toNatClampNeg) (xs (v3 + (2 : Int32)).toNatClampNeg)).bind fun t138 =>
        fL_law_18 xl xs n q136.2 v1 v2 (v3 + (8 : Int32))
      else
      if ((xs v3.toNatClampNeg) &&& (31 : Int32)) = (16 : Int32) then
        (x_ob w v1 0).bind fun _ =>
        (fA_swap w v1).bind fun q141 =>
        (x_ob q141.2 v2 5).bind fun _ =>
        (fM_swap q141.2 v2).bind fun q143 =>
        fL_law_18 xl xs n q143.2 v1 v2 (v3 + (8 : Int32))
      else
      if ((xs v3.toNatClampNeg) &&& (31 : Int32)) = (17 : Int32) then
        (x_ob w v1 0).bind fun _ =>
        (fA_keep w v1).bind fun q146 =>
        (x_ob q146.2 v2 5).bind fun _ =>
        (fM_keep q146.2 v2).bind fun q148 =>
        fL_law_18 xl xs n q148.2 v1 v2 (v3 + (8 : Int32))
      else
      if ((xs v3.toNatClampNeg) &&& (31 : Int32)) = (18 : Int32) then
        if (v3 + (1 : Int32)) < 0 ∨ xl ≤ (v3 + (1 : Int32)).toNatClampNeg then none else
        (x_ob w v1 0).bind fun _ =>
        (fA_alike w v1 (xs (v3 + (1 : Int32)).toNatClampNeg)).bind fun q152 =>
        (x_ob q152.2 v2 5).bind fun _ =>
        (fM_alike q152.2 v2 (xs (v3 + (1 : Int32)).toNatClampNeg)).bind fun q154 =>
        if q152.1 = q154.1 then
          fL_law_18 xl xs n q154.2 v1 v2 (v3 + (8 : Int32))
        else
          some (0 : Int32)
      else
        fL_law_18 xl xs n w v1 v2 (v3 + (8 : Int32))
def fL_law (xl : Nat) (xs : Nat → Int32) (w : x_W) : Option Int32 :=
  (fA_init (w ++ [.inr (0, [.null, .null, .null, .null, .null, .null])]) w.length).bind fun w1 =>
  (fM_init (w1 ++ [.inr (5, [.null, .null, .null, .null, .int 0, .null, .null, .null, .int 0, .null, .null, .int 0])]) w1.length).bind fun w2 =>
  fL_law_18 xl xs x_F w2 w.length w1.length (0 : Int32)
set_option maxHeartbeats 4000000 in
set_option maxRecDepth 100000 in
theorem lL_law_18 {xl : Nat} {xs : Nat → Int32} {r : Int32} (hr : r = 1) : ∀ (n : Nat) (w : x_W) (v1 : Nat) (v2 : Nat) (v3 : Int32), fL_law_18 xl xs n w v1 v2 v3 = some r → x_G (some (xl, xs)) yL_law code 4 ret room_1 x_QL 18 [some (.retAddr 0), some (.ref v1), some (.ref v2), some (.int v3)] [] w 28 1302 := by
  intro n
  induction n with
  | zero => intro w v1 v2 v3 h; rw [fL_law_18] at h; cases h
  | succ n ih =>
    intro w v1 v2 v3 h
    rw [fL_law_18] at h
    refine g_iload_n 19 (i := 3) dL_law_18 rfl rfl rfl ?_
    refine g_aloadS_n 20 (i := 0) dL_law_19 rfl rfl rfl ?_
    refine g_slen 21 dL_law_20 rfl ?_
    refine g_bipush 23 (8 : Int32) dL_law_21 rfl (by decide) ?_
    refine g_isub 24 dL_law_23 rfl ?_
    by_cases c1 : ((Int32.ofNat xl) - (8 : Int32)) < v3
    · rw [if_pos c1] at h
      refine g_icmp_gt_t 861 dL_law_24 (by decide) c1 ?_
      refine g_iconst 862 (1 : Int32) dL_law_861 rfl (by decide) ?_
      cases h
      exact x_lawret dL_law_862 hr
    · rw [if_neg c1] at h
      refine g_icmp_gt_f 27 861 dL_law_24 (by decide) rfl c1 ?_
      refine g_aloadS_n 28 (i := 0) dL_law_27 rfl rfl rfl ?_
      refine g_iload_n 29 (i := 3) dL_law_28 rfl rfl rfl ?_
      by_cases c2 : v3 < 0 ∨ xl ≤ v3.toNatClampNeg
      · rw [if_pos c2] at h; cases h
      · rw [if_neg c2] at h
        refine g_sld 30 dL_law_29 rfl c2 ?_
        refine g_bipush 32 (31 : Int32) dL_law_30 rfl (by decide) ?_
        refine g_iand 33 dL_law_32 rfl ?_
        by_cases c3 : ((xs v3.toNatClampNeg) &&& (31 : Int32)) = (0 : Int32)
        · rw [if_pos c3] at h
          refine g_tabIn 124 (v := (0 : Int32)) dL_law_33 c3 (by decide) (by decide) rfl (by decide) ?_
          refine g_aload_n 125 (i := 1) dL_law_124 rfl rfl rfl ?_
          refine g_aloadS_n 126 (i := 0) dL_law_125 rfl rfl rfl ?_
          refine g_iload_n 127 (i := 3) dL_law_126 rfl rfl rfl ?_
          refine g_iconst 128 (1 : Int32) dL_law_127 rfl (by decide) ?_
          refine g_iadd 129 dL_law_128 rfl ?_
          by_cases c4 : (v3 + (1 : Int32)) < 0 ∨ xl ≤ (v3 + (1 : Int32)).toNatClampNeg
          · rw [if_pos c4] at h; cases h
          · rw [if_neg c4] at h
            refine g_sld 130 dL_law_129 rfl c4 ?_
            obtain ⟨_, e5, h⟩ := x_bind h
            obtain ⟨q6, e6, h⟩ := x_bind h
            refine g_cV 133 (some (.int q6.1)) q6.2 [.int (xs (v3 + (1 : Int32)).toNatClampNeg)] [] dL_law_130 rfl (fun _ hK2 => mA_begin (30) (by decide) e6 hK2) (x_ob_some e5) kL_13 ⟨Nat.le_of_ble_eq_true rfl, Nat.le_of_ble_eq_true rfl⟩ ⟨Nat.le_of_ble_eq_true rfl, Nat.le_of_ble_eq_true rfl⟩ (Nat.le_of_ble_eq_true rfl) rfl ?_
            refine g_pop 134 dL_law_133 rfl rfl ?_
            refine g_aload_n 135 (i := 2) dL_law_134 rfl rfl rfl ?_
            refine g_aloadS_n 136 (i := 0) dL_law_135 rfl rfl rfl ?_
            refine g_iload_n 137 (i := 3) dL_law_136 rfl rfl rfl ?_
            refine g_iconst 138 (1 : Int32) dL_law_137 rfl (by decide) ?_
            refine g_iadd 139 dL_law_138 rfl ?_
            refine g_sld 140 dL_law_139 rfl c4 ?_
            obtain ⟨_, e7, h⟩ := x_bind h
            obtain ⟨q8, e8, h⟩ := x_bind h
            refine g_cV 143 (some (.int q8.1)) q8.2 [.int (xs (v3 + (1 : Int32)).toNatClampNeg)] [] dL_law_140 rfl (fun _ hK2 => mM_begin (30) (by decide) e8 hK2) (x_ob_some e7) kL_17 ⟨Nat.le_of_ble_eq_true rfl, Nat.le_of_ble_eq_true rfl⟩ ⟨Nat.le_of_ble_eq_true rfl, Nat.le_of_ble_eq_true rfl⟩ (Nat.le_of_ble_eq_true rfl) rfl ?_
            refine g_pop 144 dL_law_143 rfl rfl ?_
            refine g_goto 855 dL_law_144 (by decide) ?_
            refine g_iinc 858 [some (.retAddr 0), some (.ref v1), some (.ref v2), some (.int (v3 + (8 : Int32)))] dL_law_855 rfl rfl (x_inc (8 : Int32) (by decide)) rfl (by decide) ?_
            refine g_goto 18 dL_law_858 (by decide) ?_
            exact ih _ _ _ _ h
        · rw [if_neg c3] at h
          by_cases c9 : ((xs v3.toNatClampNeg) &&& (31 : Int32)) = (1 : Int32)
          · rw [if_pos c9] at h
            refine g_tabIn 147 (v := (1 : Int32)) dL_law_33 c9 (by decide) (by decide) rfl (by decide) ?_
            refine g_aload_n 148 (i := 1) dL_law_147 rfl rfl rfl ?_
            refine g_aloadS_n 149 (i := 0) dL_law_148 rfl rfl rfl ?_
            refine g_iload_n 150 (i := 3) dL_law_149 rfl rfl rfl ?_
            refine g_iconst 151 (1 : Int32) dL_law_150 rfl (by decide) ?_
            refine g_iadd 152 dL_law_151 rfl ?_
            by_cases c10 : (v3 + (1 : Int32)) < 0 ∨ xl ≤ (v3 + (1 : Int32)).toNatClampNeg
            · rw [if_pos c10] at h; cases h
            · rw [if_neg c10] at h
              refine g_sld 153 dL_law_152 rfl c10 ?_
              refine g_aloadS_n 154 (i := 0) dL_law_153 rfl rfl rfl ?_
              refine g_iload_n 155 (i := 3) dL_law_154 rfl rfl rfl ?_
              refine g_iconst 156 (2 : Int32) dL_law_155 rfl (by decide) ?_
              refine g_iadd 157 dL_law_156 rfl ?_
              by_cases c11 : (v3 + (2 : Int32)) < 0 ∨ xl ≤ (v3 + (2 : Int32)).toNatClampNeg
              · rw [if_pos c11] at h; cases h
              · rw [if_neg c11] at h
                refine g_sld 158 dL_law_157 rfl c11 ?_
                obtain ⟨_, e12, h⟩ := x_bind h
                obtain ⟨q13, e13, h⟩ := x_bind h
                refine g_cV 161 (some (.int q13.1)) q13.2 [.int (xs (v3 + (1 : Int32)).toNatClampNeg), .int (xs (v3 + (2 : Int32)).toNatClampNeg)] [] dL_law_158 rfl (fun _ hK2 => mA_parents (30) (by decide) e13 hK2) (x_ob_some e12) kL_18 ⟨Nat.le_of_ble_eq_true rfl, Nat.le_of_ble_eq_true rfl⟩ ⟨Nat.le_of_ble_eq_true rfl, Nat.le_of_ble_eq_true rfl⟩ (Nat.le_of_ble_eq_true rfl) rfl ?_
                refine g_pop 162 dL_law_161 rfl rfl ?_
                refine g_aload_n 163 (i := 2) dL_law_162 rfl rfl rfl ?_
                refine g_aloadS_n 164 (i := 0) dL_law_163 rfl rfl rfl ?_
                refine g_iload_n 165 (i := 3) dL_law_164 rfl rfl rfl ?_
                refine g_iconst 166 (1 : Int32) dL_law_165 rfl (by decide) ?_
                refine g_iadd 167 dL_law_166 rfl ?_
                refine g_sld 168 dL_law_167 rfl c10 ?_
                refine g_aloadS_n 169 (i := 0) dL_law_168 rfl rfl rfl ?_
                refine g_iload_n 170 (i := 3) dL_law_169 rfl rfl rfl ?_
                refine g_iconst 171 (2 : Int32) dL_law_170 rfl (by decide) ?_
                refine g_iadd 172 dL_law_171 rfl ?_
                refine g_sld 173 dL_law_172 rfl c11 ?_
                obtain ⟨_, e14, h⟩ := x_bind h
                obtain ⟨q15, e15, h⟩ := x_bind h
                refine g_cV 176 (some (.int q15.1)) q15.2 [.int (xs (v3 + (1 : Int32)).toNatClampNeg), .int (xs (v3 + (2 : Int32)).toNatClampNeg)] [] dL_law_173 rfl (fun _ hK2 => mM_parents (30) (by decide) e15 hK2) (x_ob_some e14) kL_22 ⟨Nat.le_of_ble_eq_true rfl, Nat.le_of_ble_eq_true rfl⟩ ⟨Nat.le_of_ble_eq_true rfl, Nat.le_of_ble_eq_true rfl⟩ (Nat.le_of_ble_eq_true rfl) rfl ?_
                refine g_pop 177 dL_law_176 rfl rfl ?_
                refine g_goto 855 dL_law_177 (by decide) ?_
                refine g_iinc 858 [some (.retAddr 0), some (.ref v1), some (.ref v2), some (.int (v3 + (8 : Int32)))] dL_law_855 rfl rfl (x_inc (8 : Int32) (by decide)) rfl (by decide) ?_
                refine g_goto 18 dL_law_858 (by decide) ?_
                exact ih _ _ _ _ h
          · rw [if_neg c9] at h
            by_cases c16 : ((xs v3.toNatClampNeg) &&& (31 : Int32)) = (2 : Int32)
            · rw [if_pos c16] at h
              refine g_tabIn 180 (v := (2 : Int32)) dL_law_33 c16 (by decide) (by decide) rfl (by decide) ?_
              refine g_aload_n 181 (i := 1) dL_law_180 rfl rfl rfl ?_
              refine g_aloadS_n 182 (i := 0) dL_law_181 rfl rfl rfl ?_
              refine g_iload_n 183 (i := 3) dL_law_182 rfl rfl rfl ?_
              refine g_iconst 184 (1 : Int32) dL_law_183 rfl (by decide) ?_
              refine g_iadd 185 dL_law_184 rfl ?_
              by_cases c17 : (v3 + (1 : Int32)) < 0 ∨ xl ≤ (v3 + (1 : Int32)).toNatClampNeg
              · rw [if_pos c17] at h; cases h
              · rw [if_neg c17] at h
                refine g_sld 186 dL_law_185 rfl c17 ?_
                refine g_aloadS_n 187 (i := 0) dL_law_186 rfl rfl rfl ?_
                refine g_iload_n 188 (i := 3) dL_law_187 rfl rfl rfl ?_
                refine g_iconst 189 (2 : Int32) dL_law_188 rfl (by decide) ?_
                refine g_iadd 190 dL_law_189 rfl ?_
                by_cases c18 : (v3 + (2 : Int32)) < 0 ∨ xl ≤ (v3 + (2 : Int32)).toNatClampNeg
                · rw [if_pos c18] at h; cases h
                · rw [if_neg c18] at h
                  refine g_sld 191 dL_law_190 rfl c18 ?_
                  refine g_aloadS_n 192 (i := 0) dL_law_191 rfl rfl rfl ?_
                  refine g_iload_n 193 (i := 3) dL_law_192 rfl rfl rfl ?_
                  refine g_iconst 194 (3 : Int32) dL_law_193 rfl (by decide) ?_
                  refine g_iadd 195 dL_law_194 rfl ?_
                  by_cases c19 : (v3 + (3 : Int32)) < 0 ∨ xl ≤ (v3 + (3 : Int32)).toNatClampNeg
                  · rw [if_pos c19] at h; cases h
                  · rw [if_neg c19] at h
                    refine g_sld 196 dL_law_195 rfl c19 ?_
                    obtain ⟨_, e20, h⟩ := x_bind h
                    obtain ⟨q21, e21, h⟩ := x_bind h
                    refine g_cV 199 (some (.int q21.1)) q21.2 [.int (xs (v3 + (1 : Int32)).toNatClampNeg), .int (xs (v3 + (2 : Int32)).toNatClampNeg), .int (xs (v3 + (3 : Int32)).toNatClampNeg)] [] dL_law_196 rfl (fun _ hK2 => mA_weight (30) (by decide) e21 hK2) (x_ob_some e20) kL_23 ⟨Nat.le_of_ble_eq_true rfl, Nat.le_of_ble_eq_true rfl⟩ ⟨Nat.le_of_ble_eq_true rfl, Nat.le_of_ble_eq_true rfl⟩ (Nat.le_of_ble_eq_true rfl) rfl ?_
                    refine g_pop 200 dL_law_199 rfl rfl ?_
                    refine g_aload_n 201 (i := 2) dL_law_200 rfl rfl rfl ?_
                    refine g_aloadS_n 202 (i := 0) dL_law_201 rfl rfl rfl ?_
                    refine g_iload_n 203 (i := 3) dL_law_202 rfl rfl rfl ?_
                    refine g_iconst 204 (1 : Int32) dL_law_203 rfl (by decide) ?_
                    refine g_iadd 205 dL_law_204 rfl ?_
                    refine g_sld 206 dL_law_205 rfl c17 ?_
                    refine g_aloadS_n 207 (i := 0) dL_law_206 rfl rfl rfl ?_
                    refine g_iload_n 208 (i := 3) dL_law_207 rfl rfl rfl ?_
                    refine g_iconst 209 (2 : Int32) dL_law_208 rfl (by decide) ?_
                    refine g_iadd 210 dL_law_209 rfl ?_
                    refine g_sld 211 dL_law_210 rfl c18 ?_
                    refine g_aloadS_n 212 (i := 0) dL_law_211 rfl rfl rfl ?_
                    refine g_iload_n 213 (i := 3) dL_law_212 rfl rfl rfl ?_
                    refine g_iconst 214 (3 : Int32) dL_law_213 rfl (by decide) ?_
                    refine g_iadd 215 dL_law_214 rfl ?_
                    refine g_sld 216 dL_law_215 rfl c19 ?_
                    obtain ⟨_, e22, h⟩ := x_bind h
                    obtain ⟨q23, e23, h⟩ := x_bind h
                    refine g_cV 219 (some (.int q23.1)) q23.2 [.int (xs (v3 + (1 : Int32)).toNatClampNeg), .int (xs (v3 + (2 : Int32)).toNatClampNeg), .int (xs (v3 + (3 : Int32)).toNatClampNeg)] [] dL_law_216 rfl (fun _ hK2 => mM_weight (30) (by decide) e23 hK2) (x_ob_some e22) kL_27 ⟨Nat.le_of_ble_eq_true rfl, Nat.le_of_ble_eq_true rfl⟩ ⟨Nat.le_of_ble_eq_true rfl, Nat.le_of_ble_eq_true rfl⟩ (Nat.le_of_ble_eq_true rfl) rfl ?_
                    refine g_pop 220 dL_law_219 rfl rfl ?_
                    refine g_goto 855 dL_law_220 (by decide) ?_
                    refine g_iinc 858 [some (.retAddr 0), some (.ref v1), some (.ref v2), some (.int (v3 + (8 : Int32)))] dL_law_855 rfl rfl (x_inc (8 : Int32) (by decide)) rfl (by decide) ?_
                    refine g_goto 18 dL_law_858 (by decide) ?_
                    exact ih _ _ _ _ h
            · rw [if_neg c16] at h
              by_cases c24 : ((xs v3.toNatClampNeg) &&& (31 : Int32)) = (3 : Int32)
              · rw [if_pos c24] at h
                refine g_tabIn 223 (v := (3 : Int32)) dL_law_33 c24 (by decide) (by decide) rfl (by decide) ?_
                refine g_aload_n 224 (i := 1) dL_law_223 rfl rfl rfl ?_
                refine g_aloadS_n 225 (i := 0) dL_law_224 rfl rfl rfl ?_
                refine g_iload_n 226 (i := 3) dL_law_225 rfl rfl rfl ?_
                refine g_iconst 227 (1 : Int32) dL_law_226 rfl (by decide) ?_
                refine g_iadd 228 dL_law_227 rfl ?_
                by_cases c25 : (v3 + (1 : Int32)) < 0 ∨ xl ≤ (v3 + (1 : Int32)).toNatClampNeg
                · rw [if_pos c25] at h; cases h
                · rw [if_neg c25] at h
                  refine g_sld 229 dL_law_228 rfl c25 ?_
                  refine g_aloadS_n 230 (i := 0) dL_law_229 rfl rfl rfl ?_
                  refine g_iload_n 231 (i := 3) dL_law_230 rfl rfl rfl ?_
                  refine g_iconst 232 (2 : Int32) dL_law_231 rfl (by decide) ?_
                  refine g_iadd 233 dL_law_232 rfl ?_
                  by_cases c26 : (v3 + (2 : Int32)) < 0 ∨ xl ≤ (v3 + (2 : Int32)).toNatClampNeg
                  · rw [if_pos c26] at h; cases h
                  · rw [if_neg c26] at h
                    refine g_sld 234 dL_law_233 rfl c26 ?_
                    by_cases c27 : (xs (v3 + (2 : Int32)).toNatClampNeg) = (0 : Int32)
                    · rw [if_pos c27] at h
                      refine g_if_eq_t 241 dL_law_234 (by decide) c27 ?_
                      refine g_iconst 242 (0 : Int32) dL_law_241 rfl (by decide) ?_
                      obtain ⟨_, e28, h⟩ := x_bind h
                      obtain ⟨q29, e29, h⟩ := x_bind h
                      refine g_cV 245 (some (.int q29.1)) q29.2 [.int (xs (v3 + (1 : Int32)).toNatClampNeg), .int (0 : Int32)] [] dL_law_242 rfl (fun _ hK2 => mA_hide (30) (by decide) e29 hK2) (x_ob_some e28) kL_28 ⟨Nat.le_of_ble_eq_true rfl, Nat.le_of_ble_eq_true rfl⟩ ⟨Nat.le_of_ble_eq_true rfl, Nat.le_of_ble_eq_true rfl⟩ (Nat.le_of_ble_eq_true rfl) rfl ?_
                      refine g_pop 246 dL_law_245 rfl rfl ?_
                      refine g_aload_n 247 (i := 2) dL_law_246 rfl rfl rfl ?_
                      refine g_aloadS_n 248 (i := 0) dL_law_247 rfl rfl rfl ?_
                      refine g_iload_n 249 (i := 3) dL_law_248 rfl rfl rfl ?_
                      refine g_iconst 250 (1 : Int32) dL_law_249 rfl (by decide) ?_
                      refine g_iadd 251 dL_law_250 rfl ?_
                      refine g_sld 252 dL_law_251 rfl c25 ?_
                      refine g_aloadS_n 253 (i := 0) dL_law_252 rfl rfl rfl ?_
                      refine g_iload_n 254 (i := 3) dL_law_253 rfl rfl rfl ?_
                      refine g_iconst 255 (2 : Int32) dL_law_254 rfl (by decide) ?_
                      refine g_iadd 256 dL_law_255 rfl ?_
                      refine g_sld 257 dL_law_256 rfl c26 ?_
                      by_cases c30 : (xs (v3 + (2 : Int32)).toNatClampNeg) = (0 : Int32)
                      · rw [if_pos c30] at h
                        refine g_if_eq_t 264 dL_law_257 (by decide) c30 ?_
                        refine g_iconst 265 (0 : Int32) dL_law_264 rfl (by decide) ?_
                        obtain ⟨_, e31, h⟩ := x_bind h
                        obtain ⟨q32, e32, h⟩ := x_bind h
                        refine g_cV 268 (some (.int q32.1)) q32.2 [.int (xs (v3 + (1 : Int32)).toNatClampNeg), .int (0 : Int32)] [] dL_law_265 rfl (fun _ hK2 => mM_hide (30) (by decide) e32 hK2) (x_ob_some e31) kL_32 ⟨Nat.le_of_ble_eq_true rfl, Nat.le_of_ble_eq_true rfl⟩ ⟨Nat.le_of_ble_eq_true rfl, Nat.le_of_ble_eq_true rfl⟩ (Nat.le_of_ble_eq_true rfl) rfl ?_
                        refine g_pop 269 dL_law_268 rfl rfl ?_
                        refine g_goto 855 dL_law_269 (by decide) ?_
                        refine g_iinc 858 [some (.retAddr 0), some (.ref v1), some (.ref v2), some (.int (v3 + (8 : Int32)))] dL_law_855 rfl rfl (x_inc (8 : Int32) (by decide)) rfl (by decide) ?_
                        refine g_goto 18 dL_law_858 (by decide) ?_
                        exact ih _ _ _ _ h
                      · rw [if_neg c30] at h
                        refine g_if_eq_f 260 264 dL_law_257 (by decide) rfl c30 ?_
                        refine g_iconst 261 (1 : Int32) dL_law_260 rfl (by decide) ?_
                        refine g_goto 265 dL_law_261 (by decide) ?_
                        obtain ⟨_, e33, h⟩ := x_bind h
                        obtain ⟨q34, e34, h⟩ := x_bind h
                        refine g_cV 268 (some (.int q34.1)) q34.2 [.int (xs (v3 + (1 : Int32)).toNatClampNeg), .int (1 : Int32)] [] dL_law_265 rfl (fun _ hK2 => mM_hide (30) (by decide) e34 hK2) (x_ob_some e33) kL_32 ⟨Nat.le_of_ble_eq_true rfl, Nat.le_of_ble_eq_true rfl⟩ ⟨Nat.le_of_ble_eq_true rfl, Nat.le_of_ble_eq_true rfl⟩ (Nat.le_of_ble_eq_true rfl) rfl ?_
                        refine g_pop 269 dL_law_268 rfl rfl ?_
                        refine g_goto 855 dL_law_269 (by decide) ?_
                        refine g_iinc 858 [some (.retAddr 0), some (.ref v1), some (.ref v2), some (.int (v3 + (8 : Int32)))] dL_law_855 rfl rfl (x_inc (8 : Int32) (by decide)) rfl (by decide) ?_
                        refine g_goto 18 dL_law_858 (by decide) ?_
                        exact ih _ _ _ _ h
                    · rw [if_neg c27] at h
                      refine g_if_eq_f 237 241 dL_law_234 (by decide) rfl c27 ?_
                      refine g_iconst 238 (1 : Int32) dL_law_237 rfl (by decide) ?_
                      refine g_goto 242 dL_law_238 (by decide) ?_
                      obtain ⟨_, e35, h⟩ := x_bind h
                      obtain ⟨q36, e36, h⟩ := x_bind h
                      refine g_cV 245 (some (.int q36.1)) q36.2 [.int (xs (v3 + (1 : Int32)).toNatClampNeg), .int (1 : Int32)] [] dL_law_242 rfl (fun _ hK2 => mA_hide (30) (by decide) e36 hK2) (x_ob_some e35) kL_28 ⟨Nat.le_of_ble_eq_true rfl, Nat.le_of_ble_eq_true rfl⟩ ⟨Nat.le_of_ble_eq_true rfl, Nat.le_of_ble_eq_true rfl⟩ (Nat.le_of_ble_eq_true rfl) rfl ?_
                      refine g_pop 246 dL_law_245 rfl rfl ?_
                      refine g_aload_n 247 (i := 2) dL_law_246 rfl rfl rfl ?_
                      refine g_aloadS_n 248 (i := 0) dL_law_247 rfl rfl rfl ?_
                      refine g_iload_n 249 (i := 3) dL_law_248 rfl rfl rfl ?_
                      refine g_iconst 250 (1 : Int32) dL_law_249 rfl (by decide) ?_
                      refine g_iadd 251 dL_law_250 rfl ?_
                      refine g_sld 252 dL_law_251 rfl c25 ?_
                      refine g_aloadS_n 253 (i := 0) dL_law_252 rfl rfl rfl ?_
                      refine g_iload_n 254 (i := 3) dL_law_253 rfl rfl rfl ?_
                      refine g_iconst 255 (2 : Int32) dL_law_254 rfl (by decide) ?_
                      refine g_iadd 256 dL_law_255 rfl ?_
                      refine g_sld 257 dL_law_256 rfl c26 ?_
                      by_cases c37 : (xs (v3 + (2 : Int32)).toNatClampNeg) = (0 : Int32)
                      · rw [if_pos c37] at h
                        refine g_if_eq_t 264 dL_law_257 (by decide) c37 ?_
                        refine g_iconst 265 (0 : Int32) dL_law_264 rfl (by decide) ?_
                        obtain ⟨_, e38, h⟩ := x_bind h
                        obtain ⟨q39, e39, h⟩ := x_bind h
                        refine g_cV 268 (some (.int q39.1)) q39.2 [.int (xs (v3 + (1 : Int32)).toNatClampNeg), .int (0 : Int32)] [] dL_law_265 rfl (fun _ hK2 => mM_hide (30) (by decide) e39 hK2) (x_ob_some e38) kL_32 ⟨Nat.le_of_ble_eq_true rfl, Nat.le_of_ble_eq_true rfl⟩ ⟨Nat.le_of_ble_eq_true rfl, Nat.le_of_ble_eq_true rfl⟩ (Nat.le_of_ble_eq_true rfl) rfl ?_
                        refine g_pop 269 dL_law_268 rfl rfl ?_
                        refine g_goto 855 dL_law_269 (by decide) ?_
                        refine g_iinc 858 [some (.retAddr 0), some (.ref v1), some (.ref v2), some (.int (v3 + (8 : Int32)))] dL_law_855 rfl rfl (x_inc (8 : Int32) (by decide)) rfl (by decide) ?_
                        refine g_goto 18 dL_law_858 (by decide) ?_
                        exact ih _ _ _ _ h
                      · rw [if_neg c37] at h
                        refine g_if_eq_f 260 264 dL_law_257 (by decide) rfl c37 ?_
                        refine g_iconst 261 (1 : Int32) dL_law_260 rfl (by decide) ?_
                        refine g_goto 265 dL_law_261 (by decide) ?_
                        obtain ⟨_, e40, h⟩ := x_bind h
                        obtain ⟨q41, e41, h⟩ := x_bind h
                        refine g_cV 268 (some (.int q41.1)) q41.2 [.int (xs (v3 + (1 : Int32)).toNatClampNeg), .int (1 : Int32)] [] dL_law_265 rfl (fun _ hK2 => mM_hide (30) (by decide) e41 hK2) (x_ob_some e40) kL_32 ⟨Nat.le_of_ble_eq_true rfl, Nat.le_of_ble_eq_true rfl⟩ ⟨Nat.le_of_ble_eq_true rfl, Nat.le_of_ble_eq_true rfl⟩ (Nat.le_of_ble_eq_true rfl) rfl ?_
                        refine g_pop 269 dL_law_268 rfl rfl ?_
                        refine g_goto 855 dL_law_269 (by decide) ?_
                        refine g_iinc 858 [some (.retAddr 0), some (.ref v1), some (.ref v2), some (.int (v3 + (8 : Int32)))] dL_law_855 rfl rfl (x_inc (8 : Int32) (by decide)) rfl (by decide) ?_
                        refine g_goto 18 dL_law_858 (by decide) ?_
                        exact ih _ _ _ _ h
              · rw [if_neg c24] at h
                by_cases c42 : ((xs v3.toNatClampNeg) &&& (31 : Int32)) = (4 : Int32)
                · rw [if_pos c42] at h
                  refine g_tabIn 272 (v := (4 : Int32)) dL_law_33 c42 (by decide) (by decide) rfl (by decide) ?_
                  refine g_aload_n 273 (i := 1) dL_law_272 rfl rfl rfl ?_
                  refine g_aloadS_n 274 (i := 0) dL_law_273 rfl rfl rfl ?_
                  refine g_iload_n 275 (i := 3) dL_law_274 rfl rfl rfl ?_
                  refine g_iconst 276 (1 : Int32) dL_law_275 rfl (by decide) ?_
                  refine g_iadd 277 dL_law_276 rfl ?_
                  by_cases c43 : (v3 + (1 : Int32)) < 0 ∨ xl ≤ (v3 + (1 : Int32)).toNatClampNeg
                  · rw [if_pos c43] at h; cases h
                  · rw [if_neg c43] at h
                    refine g_sld 278 dL_law_277 rfl c43 ?_
                    obtain ⟨_, e44, h⟩ := x_bind h
                    obtain ⟨q45, e45, h⟩ := x_bind h
                    refine g_cV 281 (some (.int q45.1)) q45.2 [.int (xs (v3 + (1 : Int32)).toNatClampNeg)] [] dL_law_278 rfl (fun _ hK2 => mA_count (30) (by decide) e45 hK2) (x_ob_some e44) kL_33 ⟨Nat.le_of_ble_eq_true rfl, Nat.le_of_ble_eq_true rfl⟩ ⟨Nat.le_of_ble_eq_true rfl, Nat.le_of_ble_eq_true rfl⟩ (Nat.le_of_ble_eq_true rfl) rfl ?_
                    refine g_pop 282 dL_law_281 rfl rfl ?_
                    refine g_aload_n 283 (i := 2) dL_law_282 rfl rfl rfl ?_
                    refine g_aloadS_n 284 (i := 0) dL_law_283 rfl rfl rfl ?_
                    refine g_iload_n 285 (i := 3) dL_law_284 rfl rfl rfl ?_
                    refine g_iconst 286 (1 : Int32) dL_law_285 rfl (by decide) ?_
                    refine g_iadd 287 dL_law_286 rfl ?_
                    refine g_sld 288 dL_law_287 rfl c43 ?_
                    obtain ⟨_, e46, h⟩ := x_bind h
                    obtain ⟨q47, e47, h⟩ := x_bind h
                    refine g_cV 291 (some (.int q47.1)) q47.2 [.int (xs (v3 + (1 : Int32)).toNatClampNeg)] [] dL_law_288 rfl (fun _ hK2 => mM_count (30) (by decide) e47 hK2) (x_ob_some e46) kL_36 ⟨Nat.le_of_ble_eq_true rfl, Nat.le_of_ble_eq_true rfl⟩ ⟨Nat.le_of_ble_eq_true rfl, Nat.le_of_ble_eq_true rfl⟩ (Nat.le_of_ble_eq_true rfl) rfl ?_
                    refine g_pop 292 dL_law_291 rfl rfl ?_
                    refine g_goto 855 dL_law_292 (by decide) ?_
                    refine g_iinc 858 [some (.retAddr 0), some (.ref v1), some (.ref v2), some (.int (v3 + (8 : Int32)))] dL_law_855 rfl rfl (x_inc (8 : Int32) (by decide)) rfl (by decide) ?_
                    refine g_goto 18 dL_law_858 (by decide) ?_
                    exact ih _ _ _ _ h
                · rw [if_neg c42] at h
                  by_cases c48 : ((xs v3.toNatClampNeg) &&& (31 : Int32)) = (5 : Int32)
                  · rw [if_pos c48] at h
                    refine g_tabIn 295 (v := (5 : Int32)) dL_law_33 c48 (by decide) (by decide) rfl (by decide) ?_
                    refine g_aload_n 296 (i := 1) dL_law_295 rfl rfl rfl ?_
                    refine g_aloadS_n 297 (i := 0) dL_law_296 rfl rfl rfl ?_
                    refine g_iload_n 298 (i := 3) dL_law_297 rfl rfl rfl ?_
                    refine g_iconst 299 (1 : Int32) dL_law_298 rfl (by decide) ?_
                    refine g_iadd 300 dL_law_299 rfl ?_
                    by_cases c49 : (v3 + (1 : Int32)) < 0 ∨ xl ≤ (v3 + (1 : Int32)).toNatClampNeg
                    · rw [if_pos c49] at h; cases h
                    · rw [if_neg c49] at h
                      refine g_sld 301 dL_law_300 rfl c49 ?_
                      refine g_aloadS_n 302 (i := 0) dL_law_301 rfl rfl rfl ?_
                      refine g_iload_n 303 (i := 3) dL_law_302 rfl rfl rfl ?_
                      refine g_iconst 304 (2 : Int32) dL_law_303 rfl (by decide) ?_
                      refine g_iadd 305 dL_law_304 rfl ?_
                      by_cases c50 : (v3 + (2 : Int32)) < 0 ∨ xl ≤ (v3 + (2 : Int32)).toNatClampNeg
                      · rw [if_pos c50] at h; cases h
                      · rw [if_neg c50] at h
                        refine g_sld 306 dL_law_305 rfl c50 ?_
                        obtain ⟨_, e51, h⟩ := x_bind h
                        obtain ⟨q52, e52, h⟩ := x_bind h
                        refine g_cV 309 (some (.int q52.1)) q52.2 [.int (xs (v3 + (1 : Int32)).toNatClampNeg), .int (xs (v3 + (2 : Int32)).toNatClampNeg)] [] dL_law_306 rfl (fun _ hK2 => mA_of (30) (by decide) e52 hK2) (x_ob_some e51) kL_37 ⟨Nat.le_of_ble_eq_true rfl, Nat.le_of_ble_eq_true rfl⟩ ⟨Nat.le_of_ble_eq_true rfl, Nat.le_of_ble_eq_true rfl⟩ (Nat.le_of_ble_eq_true rfl) rfl ?_
                        refine g_pop 310 dL_law_309 rfl rfl ?_
                        refine g_aload_n 311 (i := 2) dL_law_310 rfl rfl rfl ?_
                        refine g_aloadS_n 312 (i := 0) dL_law_311 rfl rfl rfl ?_
                        refine g_iload_n 313 (i := 3) dL_law_312 rfl rfl rfl ?_
                        refine g_iconst 314 (1 : Int32) dL_law_313 rfl (by decide) ?_
                        refine g_iadd 315 dL_law_314 rfl ?_
                        refine g_sld 316 dL_law_315 rfl c49 ?_
                        refine g_aloadS_n 317 (i := 0) dL_law_316 rfl rfl rfl ?_
                        refine g_iload_n 318 (i := 3) dL_law_317 rfl rfl rfl ?_
                        refine g_iconst 319 (2 : Int32) dL_law_318 rfl (by decide) ?_
                        refine g_iadd 320 dL_law_319 rfl ?_
                        refine g_sld 321 dL_law_320 rfl c50 ?_
                        obtain ⟨_, e53, h⟩ := x_bind h
                        obtain ⟨q54, e54, h⟩ := x_bind h
                        refine g_cV 324 (some (.int q54.1)) q54.2 [.int (xs (v3 + (1 : Int32)).toNatClampNeg), .int (xs (v3 + (2 : Int32)).toNatClampNeg)] [] dL_law_321 rfl (fun _ hK2 => mM_of (30) (by decide) e54 hK2) (x_ob_some e53) kL_40 ⟨Nat.le_of_ble_eq_true rfl, Nat.le_of_ble_eq_true rfl⟩ ⟨Nat.le_of_ble_eq_true rfl, Nat.le_of_ble_eq_true rfl⟩ (Nat.le_of_ble_eq_true rfl) rfl ?_
                        refine g_pop 325 dL_law_324 rfl rfl ?_
                        refine g_goto 855 dL_law_325 (by decide) ?_
                        refine g_iinc 858 [some (.retAddr 0), some (.ref v1), some (.ref v2), some (.int (v3 + (8 : Int32)))] dL_law_855 rfl rfl (x_inc (8 : Int32) (by decide)) rfl (by decide) ?_
                        refine g_goto 18 dL_law_858 (by decide) ?_
                        exact ih _ _ _ _ h
                  · rw [if_neg c48] at h
                    by_cases c55 : ((xs v3.toNatClampNeg) &&& (31 : Int32)) = (6 : Int32)
                    · rw [if_pos c55] at h
                      refine g_tabIn 328 (v := (6 : Int32)) dL_law_33 c55 (by decide) (by decide) rfl (by decide) ?_
                      refine g_aload_n 329 (i := 1) dL_law_328 rfl rfl rfl ?_
                      refine g_aloadS_n 330 (i := 0) dL_law_329 rfl rfl rfl ?_
                      refine g_iload_n 331 (i := 3) dL_law_330 rfl rfl rfl ?_
                      refine g_iconst 332 (1 : Int32) dL_law_331 rfl (by decide) ?_
                      refine g_iadd 333 dL_law_332 rfl ?_
                      by_cases c56 : (v3 + (1 : Int32)) < 0 ∨ xl ≤ (v3 + (1 : Int32)).toNatClampNeg
                      · rw [if_pos c56] at h; cases h
                      · rw [if_neg c56] at h
                        refine g_sld 334 dL_law_333 rfl c56 ?_
                        refine g_aloadS_n 335 (i := 0) dL_law_334 rfl rfl rfl ?_
                        refine g_iload_n 336 (i := 3) dL_law_335 rfl rfl rfl ?_
                        refine g_iconst 337 (2 : Int32) dL_law_336 rfl (by decide) ?_
                        refine g_iadd 338 dL_law_337 rfl ?_
                        by_cases c57 : (v3 + (2 : Int32)) < 0 ∨ xl ≤ (v3 + (2 : Int32)).toNatClampNeg
                        · rw [if_pos c57] at h; cases h
                        · rw [if_neg c57] at h
                          refine g_sld 339 dL_law_338 rfl c57 ?_
                          refine g_aloadS_n 340 (i := 0) dL_law_339 rfl rfl rfl ?_
                          refine g_iload_n 341 (i := 3) dL_law_340 rfl rfl rfl ?_
                          refine g_iconst 342 (3 : Int32) dL_law_341 rfl (by decide) ?_
                          refine g_iadd 343 dL_law_342 rfl ?_
                          by_cases c58 : (v3 + (3 : Int32)) < 0 ∨ xl ≤ (v3 + (3 : Int32)).toNatClampNeg
                          · rw [if_pos c58] at h; cases h
                          · rw [if_neg c58] at h
                            refine g_sld 344 dL_law_343 rfl c58 ?_
                            obtain ⟨_, e59, h⟩ := x_bind h
                            obtain ⟨t60, e60, h⟩ := x_bind h
                            refine g_cV 347 (some (.int t60)) w [.int (xs (v3 + (1 : Int32)).toNatClampNeg), .int (xs (v3 + (2 : Int32)).toNatClampNeg), .int (xs (v3 + (3 : Int32)).toNatClampNeg)] [] dL_law_344 rfl (fun _ hK2 => mA_parted (30) (by decide) e60 hK2) (x_ob_some e59) kL_41 ⟨Nat.le_of_ble_eq_true rfl, Nat.le_of_ble_eq_true rfl⟩ ⟨Nat.le_of_ble_eq_true rfl, Nat.le_of_ble_eq_true rfl⟩ (Nat.le_of_ble_eq_true rfl) rfl ?_
                            refine g_pop 348 dL_law_347 rfl rfl ?_
                            refine g_aload_n 349 (i := 2) dL_law_348 rfl rfl rfl ?_
                            refine g_aloadS_n 350 (i := 0) dL_law_349 rfl rfl rfl ?_
                            refine g_iload_n 351 (i := 3) dL_law_350 rfl rfl rfl ?_
                            refine g_iconst 352 (1 : Int32) dL_law_351 rfl (by decide) ?_
                            refine g_iadd 353 dL_law_352 rfl ?_
                            refine g_sld 354 dL_law_353 rfl c56 ?_
                            refine g_aloadS_n 355 (i := 0) dL_law_354 rfl rfl rfl ?_
                            refine g_iload_n 356 (i := 3) dL_law_355 rfl rfl rfl ?_
                            refine g_iconst 357 (2 : Int32) dL_law_356 rfl (by decide) ?_
                            refine g_iadd 358 dL_law_357 rfl ?_
                            refine g_sld 359 dL_law_358 rfl c57 ?_
                            refine g_aloadS_n 360 (i := 0) dL_law_359 rfl rfl rfl ?_
                            refine g_iload_n 361 (i := 3) dL_law_360 rfl rfl rfl ?_
                            refine g_iconst 362 (3 : Int32) dL_law_361 rfl (by decide) ?_
                            refine g_iadd 363 dL_law_362 rfl ?_
                            refine g_sld 364 dL_law_363 rfl c58 ?_
                            obtain ⟨_, e61, h⟩ := x_bind h
                            obtain ⟨q62, e62, h⟩ := x_bind h
                            refine g_cV 367 (some (.int q62.1)) q62.2 [.int (xs (v3 + (1 : Int32)).toNatClampNeg), .int (xs (v3 + (2 : Int32)).toNatClampNeg), .int (xs (v3 + (3 : Int32)).toNatClampNeg)] [] dL_law_364 rfl (fun _ hK2 => mM_parted (30) (by decide) e62 hK2) (x_ob_some e61) kL_44 ⟨Nat.le_of_ble_eq_true rfl, Nat.le_of_ble_eq_true rfl⟩ ⟨Nat.le_of_ble_eq_true rfl, Nat.le_of_ble_eq_true rfl⟩ (Nat.le_of_ble_eq_true rfl) rfl ?_
                            refine g_pop 368 dL_law_367 rfl rfl ?_
                            refine g_goto 855 dL_law_368 (by decide) ?_
                            refine g_iinc 858 [some (.retAddr 0), some (.ref v1), some (.ref v2), some (.int (v3 + (8 : Int32)))] dL_law_855 rfl rfl (x_inc (8 : Int32) (by decide)) rfl (by decide) ?_
                            refine g_goto 18 dL_law_858 (by decide) ?_
                            exact ih _ _ _ _ h
                    · rw [if_neg c55] at h
                      by_cases c63 : ((xs v3.toNatClampNeg) &&& (31 : Int32)) = (7 : Int32)
                      · rw [if_pos c63] at h
                        refine g_tabIn 371 (v := (7 : Int32)) dL_law_33 c63 (by decide) (by decide) rfl (by decide) ?_
                        refine g_aload_n 372 (i := 1) dL_law_371 rfl rfl rfl ?_
                        refine g_aloadS_n 373 (i := 0) dL_law_372 rfl rfl rfl ?_
                        refine g_iload_n 374 (i := 3) dL_law_373 rfl rfl rfl ?_
                        refine g_iconst 375 (1 : Int32) dL_law_374 rfl (by decide) ?_
                        refine g_iadd 376 dL_law_375 rfl ?_
                        by_cases c64 : (v3 + (1 : Int32)) < 0 ∨ xl ≤ (v3 + (1 : Int32)).toNatClampNeg
                        · rw [if_pos c64] at h; cases h
                        · rw [if_neg c64] at h
                          refine g_sld 377 dL_law_376 rfl c64 ?_
                          refine g_aloadS_n 378 (i := 0) dL_law_377 rfl rfl rfl ?_
                          refine g_iload_n 379 (i := 3) dL_law_378 rfl rfl rfl ?_
                          refine g_iconst 380 (2 : Int32) dL_law_379 rfl (by decide) ?_
                          refine g_iadd 381 dL_law_380 rfl ?_
                          by_cases c65 : (v3 + (2 : Int32)) < 0 ∨ xl ≤ (v3 + (2 : Int32)).toNatClampNeg
                          · rw [if_pos c65] at h; cases h
                          · rw [if_neg c65] at h
                            refine g_sld 382 dL_law_381 rfl c65 ?_
                            obtain ⟨_, e66, h⟩ := x_bind h
                            obtain ⟨t67, e67, h⟩ := x_bind h
                            refine g_cV 385 (some (.int t67)) w [.int (xs (v3 + (1 : Int32)).toNatClampNeg), .int (xs (v3 + (2 : Int32)).toNatClampNeg)] [] dL_law_382 rfl (fun _ hK2 => mA_parting (30) (by decide) e67 hK2) (x_ob_some e66) kL_45 ⟨Nat.le_of_ble_eq_true rfl, Nat.le_of_ble_eq_true rfl⟩ ⟨Nat.le_of_ble_eq_true rfl, Nat.le_of_ble_eq_true rfl⟩ (Nat.le_of_ble_eq_true rfl) rfl ?_
                            refine g_pop 386 dL_law_385 rfl rfl ?_
                            refine g_aload_n 387 (i := 2) dL_law_386 rfl rfl rfl ?_
                            refine g_aloadS_n 388 (i := 0) dL_law_387 rfl rfl rfl ?_
                            refine g_iload_n 389 (i := 3) dL_law_388 rfl rfl rfl ?_
                            refine g_iconst 390 (1 : Int32) dL_law_389 rfl (by decide) ?_
                            refine g_iadd 391 dL_law_390 rfl ?_
                            refine g_sld 392 dL_law_391 rfl c64 ?_
                            refine g_aloadS_n 393 (i := 0) dL_law_392 rfl rfl rfl ?_
                            refine g_iload_n 394 (i := 3) dL_law_393 rfl rfl rfl ?_
                            refine g_iconst 395 (2 : Int32) dL_law_394 rfl (by decide) ?_
                            refine g_iadd 396 dL_law_395 rfl ?_
                            refine g_sld 397 dL_law_396 rfl c65 ?_
                            obtain ⟨_, e68, h⟩ := x_bind h
                            obtain ⟨q69, e69, h⟩ := x_bind h
                            refine g_cV 400 (some (.int q69.1)) q69.2 [.int (xs (v3 + (1 : Int32)).toNatClampNeg), .int (xs (v3 + (2 : Int32)).toNatClampNeg)] [] dL_law_397 rfl (fun _ hK2 => mM_parting (30) (by decide) e69 hK2) (x_ob_some e68) kL_48 ⟨Nat.le_of_ble_eq_true rfl, Nat.le_of_ble_eq_true rfl⟩ ⟨Nat.le_of_ble_eq_true rfl, Nat.le_of_ble_eq_true rfl⟩ (Nat.le_of_ble_eq_true rfl) rfl ?_
                            refine g_pop 401 dL_law_400 rfl rfl ?_
                            refine g_goto 855 dL_law_401 (by decide) ?_
                            refine g_iinc 858 [some (.retAddr 0), some (.ref v1), some (.ref v2), some (.int (v3 + (8 : Int32)))] dL_law_855 rfl rfl (x_inc (8 : Int32) (by decide)) rfl (by decide) ?_
                            refine g_goto 18 dL_law_858 (by decide) ?_
                            exact ih _ _ _ _ h
                      · rw [if_neg c63] at h
                        by_cases c70 : ((xs v3.toNatClampNeg) &&& (31 : Int32)) = (8 : Int32)
                        · rw [if_pos c70] at h
                          refine g_tabIn 404 (v := (8 : Int32)) dL_law_33 c70 (by decide) (by decide) rfl (by decide) ?_
                          refine g_aload_n 405 (i := 1) dL_law_404 rfl rfl rfl ?_
                          refine g_aloadS_n 406 (i := 0) dL_law_405 rfl rfl rfl ?_
                          refine g_iload_n 407 (i := 3) dL_law_406 rfl rfl rfl ?_
                          refine g_iconst 408 (1 : Int32) dL_law_407 rfl (by decide) ?_
                          refine g_iadd 409 dL_law_408 rfl ?_
                          by_cases c71 : (v3 + (1 : Int32)) < 0 ∨ xl ≤ (v3 + (1 : Int32)).toNatClampNeg
                          · rw [if_pos c71] at h; cases h
                          · rw [if_neg c71] at h
                            refine g_sld 410 dL_law_409 rfl c71 ?_
                            refine g_aloadS_n 411 (i := 0) dL_law_410 rfl rfl rfl ?_
                            refine g_iload_n 412 (i := 3) dL_law_411 rfl rfl rfl ?_
                            refine g_iconst 413 (2 : Int32) dL_law_412 rfl (by decide) ?_
                            refine g_iadd 414 dL_law_413 rfl ?_
                            by_cases c72 : (v3 + (2 : Int32)) < 0 ∨ xl ≤ (v3 + (2 : Int32)).toNatClampNeg
                            · rw [if_pos c72] at h; cases h
                            · rw [if_neg c72] at h
                              refine g_sld 415 dL_law_414 rfl c72 ?_
                              refine g_aloadS_n 416 (i := 0) dL_law_415 rfl rfl rfl ?_
                              refine g_iload_n 417 (i := 3) dL_law_416 rfl rfl rfl ?_
                              refine g_iconst 418 (3 : Int32) dL_law_417 rfl (by decide) ?_
                              refine g_iadd 419 dL_law_418 rfl ?_
                              by_cases c73 : (v3 + (3 : Int32)) < 0 ∨ xl ≤ (v3 + (3 : Int32)).toNatClampNeg
                              · rw [if_pos c73] at h; cases h
                              · rw [if_neg c73] at h
                                refine g_sld 420 dL_law_419 rfl c73 ?_
                                obtain ⟨_, e74, h⟩ := x_bind h
                                obtain ⟨t75, e75, h⟩ := x_bind h
                                refine g_cV 423 (some (.int t75)) w [.int (xs (v3 + (1 : Int32)).toNatClampNeg), .int (xs (v3 + (2 : Int32)).toNatClampNeg), .int (xs (v3 + (3 : Int32)).toNatClampNeg)] [] dL_law_420 rfl (fun _ hK2 => mA_ways (30) (by decide) e75 hK2) (x_ob_some e74) kL_49 ⟨Nat.le_of_ble_eq_true rfl, Nat.le_of_ble_eq_true rfl⟩ ⟨Nat.le_of_ble_eq_true rfl, Nat.le_of_ble_eq_true rfl⟩ (Nat.le_of_ble_eq_true rfl) rfl ?_
                                refine g_pop 424 dL_law_423 rfl rfl ?_
                                refine g_aload_n 425 (i := 2) dL_law_424 rfl rfl rfl ?_
                                refine g_aloadS_n 426 (i := 0) dL_law_425 rfl rfl rfl ?_
                                refine g_iload_n 427 (i := 3) dL_law_426 rfl rfl rfl ?_
                                refine g_iconst 428 (1 : Int32) dL_law_427 rfl (by decide) ?_
                                refine g_iadd 429 dL_law_428 rfl ?_
                                refine g_sld 430 dL_law_429 rfl c71 ?_
                                refine g_aloadS_n 431 (i := 0) dL_law_430 rfl rfl rfl ?_
                                refine g_iload_n 432 (i := 3) dL_law_431 rfl rfl rfl ?_
                                refine g_iconst 433 (2 : Int32) dL_law_432 rfl (by decide) ?_
                                refine g_iadd 434 dL_law_433 rfl ?_
                                refine g_sld 435 dL_law_434 rfl c72 ?_
                                refine g_aloadS_n 436 (i := 0) dL_law_435 rfl rfl rfl ?_
                                refine g_iload_n 437 (i := 3) dL_law_436 rfl rfl rfl ?_
                                refine g_iconst 438 (3 : Int32) dL_law_437 rfl (by decide) ?_
                                refine g_iadd 439 dL_law_438 rfl ?_
                                refine g_sld 440 dL_law_439 rfl c73 ?_
                                obtain ⟨_, e76, h⟩ := x_bind h
                                obtain ⟨q77, e77, h⟩ := x_bind h
                                refine g_cV 443 (some (.int q77.1)) q77.2 [.int (xs (v3 + (1 : Int32)).toNatClampNeg), .int (xs (v3 + (2 : Int32)).toNatClampNeg), .int (xs (v3 + (3 : Int32)).toNatClampNeg)] [] dL_law_440 rfl (fun _ hK2 => mM_ways (30) (by decide) e77 hK2) (x_ob_some e76) kL_52 ⟨Nat.le_of_ble_eq_true rfl, Nat.le_of_ble_eq_true rfl⟩ ⟨Nat.le_of_ble_eq_true rfl, Nat.le_of_ble_eq_true rfl⟩ (Nat.le_of_ble_eq_true rfl) rfl ?_
                                refine g_pop 444 dL_law_443 rfl rfl ?_
                                refine g_goto 855 dL_law_444 (by decide) ?_
                                refine g_iinc 858 [some (.retAddr 0), some (.ref v1), some (.ref v2), some (.int (v3 + (8 : Int32)))] dL_law_855 rfl rfl (x_inc (8 : Int32) (by decide)) rfl (by decide) ?_
                                refine g_goto 18 dL_law_858 (by decide) ?_
                                exact ih _ _ _ _ h
                        · rw [if_neg c70] at h
                          by_cases c78 : ((xs v3.toNatClampNeg) &&& (31 : Int32)) = (9 : Int32)
                          · rw [if_pos c78] at h
                            refine g_tabIn 447 (v := (9 : Int32)) dL_law_33 c78 (by decide) (by decide) rfl (by decide) ?_
                            refine g_aload_n 448 (i := 1) dL_law_447 rfl rfl rfl ?_
                            refine g_aloadS_n 449 (i := 0) dL_law_448 rfl rfl rfl ?_
                            refine g_iload_n 450 (i := 3) dL_law_449 rfl rfl rfl ?_
                            refine g_iconst 451 (1 : Int32) dL_law_450 rfl (by decide) ?_
                            refine g_iadd 452 dL_law_451 rfl ?_
                            by_cases c79 : (v3 + (1 : Int32)) < 0 ∨ xl ≤ (v3 + (1 : Int32)).toNatClampNeg
                            · rw [if_pos c79] at h; cases h
                            · rw [if_neg c79] at h
                              refine g_sld 453 dL_law_452 rfl c79 ?_
                              refine g_aloadS_n 454 (i := 0) dL_law_453 rfl rfl rfl ?_
                              refine g_iload_n 455 (i := 3) dL_law_454 rfl rfl rfl ?_
                              refine g_iconst 456 (2 : Int32) dL_law_455 rfl (by decide) ?_
                              refine g_iadd 457 dL_law_456 rfl ?_
                              by_cases c80 : (v3 + (2 : Int32)) < 0 ∨ xl ≤ (v3 + (2 : Int32)).toNatClampNeg
                              · rw [if_pos c80] at h; cases h
                              · rw [if_neg c80] at h
                                refine g_sld 458 dL_law_457 rfl c80 ?_
                                refine g_aloadS_n 459 (i := 0) dL_law_458 rfl rfl rfl ?_
                                refine g_iload_n 460 (i := 3) dL_law_459 rfl rfl rfl ?_
                                refine g_iconst 461 (3 : Int32) dL_law_460 rfl (by decide) ?_
                                refine g_iadd 462 dL_law_461 rfl ?_
                                by_cases c81 : (v3 + (3 : Int32)) < 0 ∨ xl ≤ (v3 + (3 : Int32)).toNatClampNeg
                                · rw [if_pos c81] at h; cases h
                                · rw [if_neg c81] at h
                                  refine g_sld 463 dL_law_462 rfl c81 ?_
                                  refine g_aloadS_n 464 (i := 0) dL_law_463 rfl rfl rfl ?_
                                  refine g_iload_n 465 (i := 3) dL_law_464 rfl rfl rfl ?_
                                  refine g_iconst 466 (4 : Int32) dL_law_465 rfl (by decide) ?_
                                  refine g_iadd 467 dL_law_466 rfl ?_
                                  by_cases c82 : (v3 + (4 : Int32)) < 0 ∨ xl ≤ (v3 + (4 : Int32)).toNatClampNeg
                                  · rw [if_pos c82] at h; cases h
                                  · rw [if_neg c82] at h
                                    refine g_sld 468 dL_law_467 rfl c82 ?_
                                    obtain ⟨_, e83, h⟩ := x_bind h
                                    obtain ⟨q84, e84, h⟩ := x_bind h
                                    refine g_cV 471 (some (.int q84.1)) q84.2 [.int (xs (v3 + (1 : Int32)).toNatClampNeg), .int (xs (v3 + (2 : Int32)).toNatClampNeg), .int (xs (v3 + (3 : Int32)).toNatClampNeg), .int (xs (v3 + (4 : Int32)).toNatClampNeg)] [] dL_law_468 rfl (fun _ hK2 => mA_tells (30) (by decide) e84 hK2) (x_ob_some e83) kL_53 ⟨Nat.le_of_ble_eq_true rfl, Nat.le_of_ble_eq_true rfl⟩ ⟨Nat.le_of_ble_eq_true rfl, Nat.le_of_ble_eq_true rfl⟩ (Nat.le_of_ble_eq_true rfl) rfl ?_
                                    refine g_pop 472 dL_law_471 rfl rfl ?_
                                    refine g_aload_n 473 (i := 2) dL_law_472 rfl rfl rfl ?_
                                    refine g_aloadS_n 474 (i := 0) dL_law_473 rfl rfl rfl ?_
                                    refine g_iload_n 475 (i := 3) dL_law_474 rfl rfl rfl ?_
                                    refine g_iconst 476 (1 : Int32) dL_law_475 rfl (by decide) ?_
                                    refine g_iadd 477 dL_law_476 rfl ?_
                                    refine g_sld 478 dL_law_477 rfl c79 ?_
                                    refine g_aloadS_n 479 (i := 0) dL_law_478 rfl rfl rfl ?_
                                    refine g_iload_n 480 (i := 3) dL_law_479 rfl rfl rfl ?_
                                    refine g_iconst 481 (2 : Int32) dL_law_480 rfl (by decide) ?_
                                    refine g_iadd 482 dL_law_481 rfl ?_
                                    refine g_sld 483 dL_law_482 rfl c80 ?_
                                    refine g_aloadS_n 484 (i := 0) dL_law_483 rfl rfl rfl ?_
                                    refine g_iload_n 485 (i := 3) dL_law_484 rfl rfl rfl ?_
                                    refine g_iconst 486 (3 : Int32) dL_law_485 rfl (by decide) ?_
                                    refine g_iadd 487 dL_law_486 rfl ?_
                                    refine g_sld 488 dL_law_487 rfl c81 ?_
                                    refine g_aloadS_n 489 (i := 0) dL_law_488 rfl rfl rfl ?_
                                    refine g_iload_n 490 (i := 3) dL_law_489 rfl rfl rfl ?_
                                    refine g_iconst 491 (4 : Int32) dL_law_490 rfl (by decide) ?_
                                    refine g_iadd 492 dL_law_491 rfl ?_
                                    refine g_sld 493 dL_law_492 rfl c82 ?_
                                    obtain ⟨_, e85, h⟩ := x_bind h
                                    obtain ⟨q86, e86, h⟩ := x_bind h
                                    refine g_cV 496 (some (.int q86.1)) q86.2 [.int (xs (v3 + (1 : Int32)).toNatClampNeg), .int (xs (v3 + (2 : Int32)).toNatClampNeg), .int (xs (v3 + (3 : Int32)).toNatClampNeg), .int (xs (v3 + (4 : Int32)).toNatClampNeg)] [] dL_law_493 rfl (fun _ hK2 => mM_tells (30) (by decide) e86 hK2) (x_ob_some e85) kL_57 ⟨Nat.le_of_ble_eq_true rfl, Nat.le_of_ble_eq_true rfl⟩ ⟨Nat.le_of_ble_eq_true rfl, Nat.le_of_ble_eq_true rfl⟩ (Nat.le_of_ble_eq_true rfl) rfl ?_
                                    refine g_pop 497 dL_law_496 rfl rfl ?_
                                    refine g_goto 855 dL_law_497 (by decide) ?_
                                    refine g_iinc 858 [some (.retAddr 0), some (.ref v1), some (.ref v2), some (.int (v3 + (8 : Int32)))] dL_law_855 rfl rfl (x_inc (8 : Int32) (by decide)) rfl (by decide) ?_
                                    refine g_goto 18 dL_law_858 (by decide) ?_
                                    exact ih _ _ _ _ h
                          · rw [if_neg c78] at h
                            by_cases c87 : ((xs v3.toNatClampNeg) &&& (31 : Int32)) = (10 : Int32)
                            · rw [if_pos c87] at h
                              refine g_tabIn 500 (v := (10 : Int32)) dL_law_33 c87 (by decide) (by decide) rfl (by decide) ?_
                              refine g_aload_n 501 (i := 1) dL_law_500 rfl rfl rfl ?_
                              refine g_aloadS_n 502 (i := 0) dL_law_501 rfl rfl rfl ?_
                              refine g_iload_n 503 (i := 3) dL_law_502 rfl rfl rfl ?_
                              refine g_iconst 504 (1 : Int32) dL_law_503 rfl (by decide) ?_
                              refine g_iadd 505 dL_law_504 rfl ?_
                              by_cases c88 : (v3 + (1 : Int32)) < 0 ∨ xl ≤ (v3 + (1 : Int32)).toNatClampNeg
                              · rw [if_pos c88] at h; cases h
                              · rw [if_neg c88] at h
                                refine g_sld 506 dL_law_505 rfl c88 ?_
                                refine g_aloadS_n 507 (i := 0) dL_law_506 rfl rfl rfl ?_
                                refine g_iload_n 508 (i := 3) dL_law_507 rfl rfl rfl ?_
                                refine g_iconst 509 (2 : Int32) dL_law_508 rfl (by decide) ?_
                                refine g_iadd 510 dL_law_509 rfl ?_
                                by_cases c89 : (v3 + (2 : Int32)) < 0 ∨ xl ≤ (v3 + (2 : Int32)).toNatClampNeg
                                · rw [if_pos c89] at h; cases h
                                · rw [if_neg c89] at h
                                  refine g_sld 511 dL_law_510 rfl c89 ?_
                                  refine g_aloadS_n 512 (i := 0) dL_law_511 rfl rfl rfl ?_
                                  refine g_iload_n 513 (i := 3) dL_law_512 rfl rfl rfl ?_
                                  refine g_iconst 514 (3 : Int32) dL_law_513 rfl (by decide) ?_
                                  refine g_iadd 515 dL_law_514 rfl ?_
                                  by_cases c90 : (v3 + (3 : Int32)) < 0 ∨ xl ≤ (v3 + (3 : Int32)).toNatClampNeg
                                  · rw [if_pos c90] at h; cases h
                                  · rw [if_neg c90] at h
                                    refine g_sld 516 dL_law_515 rfl c90 ?_
                                    obtain ⟨_, e91, h⟩ := x_bind h
                                    obtain ⟨q92, e92, h⟩ := x_bind h
                                    refine g_cV 519 (some (.int q92.1)) q92.2 [.int (xs (v3 + (1 : Int32)).toNatClampNeg), .int (xs (v3 + (2 : Int32)).toNatClampNeg), .int (xs (v3 + (3 : Int32)).toNatClampNeg)] [] dL_law_516 rfl (fun _ hK2 => mA_telling (30) (by decide) e92 hK2) (x_ob_some e91) kL_58 ⟨Nat.le_of_ble_eq_true rfl, Nat.le_of_ble_eq_true rfl⟩ ⟨Nat.le_of_ble_eq_true rfl, Nat.le_of_ble_eq_true rfl⟩ (Nat.le_of_ble_eq_true rfl) rfl ?_
                                    refine g_pop 520 dL_law_519 rfl rfl ?_
                                    refine g_aload_n 521 (i := 2) dL_law_520 rfl rfl rfl ?_
                                    refine g_aloadS_n 522 (i := 0) dL_law_521 rfl rfl rfl ?_
                                    refine g_iload_n 523 (i := 3) dL_law_522 rfl rfl rfl ?_
                                    refine g_iconst 524 (1 : Int32) dL_law_523 rfl (by decide) ?_
                                    refine g_iadd 525 dL_law_524 rfl ?_
                                    refine g_sld 526 dL_law_525 rfl c88 ?_
                                    refine g_aloadS_n 527 (i := 0) dL_law_526 rfl rfl rfl ?_
                                    refine g_iload_n 528 (i := 3) dL_law_527 rfl rfl rfl ?_
                                    refine g_iconst 529 (2 : Int32) dL_law_528 rfl (by decide) ?_
                                    refine g_iadd 530 dL_law_529 rfl ?_
                                    refine g_sld 531 dL_law_530 rfl c89 ?_
                                    refine g_aloadS_n 532 (i := 0) dL_law_531 rfl rfl rfl ?_
                                    refine g_iload_n 533 (i := 3) dL_law_532 rfl rfl rfl ?_
                                    refine g_iconst 534 (3 : Int32) dL_law_533 rfl (by decide) ?_
                                    refine g_iadd 535 dL_law_534 rfl ?_
                                    refine g_sld 536 dL_law_535 rfl c90 ?_
                                    obtain ⟨_, e93, h⟩ := x_bind h
                                    obtain ⟨q94, e94, h⟩ := x_bind h
                                    refine g_cV 539 (some (.int q94.1)) q94.2 [.int (xs (v3 + (1 : Int32)).toNatClampNeg), .int (xs (v3 + (2 : Int32)).toNatClampNeg), .int (xs (v3 + (3 : Int32)).toNatClampNeg)] [] dL_law_536 rfl (fun _ hK2 => mM_telling (30) (by decide) e94 hK2) (x_ob_some e93) kL_61 ⟨Nat.le_of_ble_eq_true rfl, Nat.le_of_ble_eq_true rfl⟩ ⟨Nat.le_of_ble_eq_true rfl, Nat.le_of_ble_eq_true rfl⟩ (Nat.le_of_ble_eq_true rfl) rfl ?_
                                    refine g_pop 540 dL_law_539 rfl rfl ?_
                                    refine g_goto 855 dL_law_540 (by decide) ?_
                                    refine g_iinc 858 [some (.retAddr 0), some (.ref v1), some (.ref v2), some (.int (v3 + (8 : Int32)))] dL_law_855 rfl rfl (x_inc (8 : Int32) (by decide)) rfl (by decide) ?_
                                    refine g_goto 18 dL_law_858 (by decide) ?_
                                    exact ih _ _ _ _ h
                            · rw [if_neg c87] at h
                              by_cases c95 : ((xs v3.toNatClampNeg) &&& (31 : Int32)) = (11 : Int32)
                              · rw [if_pos c95] at h
                                refine g_tabIn 543 (v := (11 : Int32)) dL_law_33 c95 (by decide) (by decide) rfl (by decide) ?_
                                refine g_aload_n 544 (i := 1) dL_law_543 rfl rfl rfl ?_
                                refine g_aloadS_n 545 (i := 0) dL_law_544 rfl rfl rfl ?_
                                refine g_iload_n 546 (i := 3) dL_law_545 rfl rfl rfl ?_
                                refine g_iconst 547 (1 : Int32) dL_law_546 rfl (by decide) ?_
                                refine g_iadd 548 dL_law_547 rfl ?_
                                by_cases c96 : (v3 + (1 : Int32)) < 0 ∨ xl ≤ (v3 + (1 : Int32)).toNatClampNeg
                                · rw [if_pos c96] at h; cases h
                                · rw [if_neg c96] at h
                                  refine g_sld 549 dL_law_548 rfl c96 ?_
                                  obtain ⟨_, e97, h⟩ := x_bind h
                                  obtain ⟨t98, e98, h⟩ := x_bind h
                                  refine g_cV 552 (some (.int t98)) w [.int (xs (v3 + (1 : Int32)).toNatClampNeg)] [] dL_law_549 rfl (fun _ hK2 => mA_told (30) (by decide) e98 hK2) (x_ob_some e97) kL_62 ⟨Nat.le_of_ble_eq_true rfl, Nat.le_of_ble_eq_true rfl⟩ ⟨Nat.le_of_ble_eq_true rfl, Nat.le_of_ble_eq_true rfl⟩ (Nat.le_of_ble_eq_true rfl) rfl ?_
                                  refine g_pop 553 dL_law_552 rfl rfl ?_
                                  refine g_aload_n 554 (i := 2) dL_law_553 rfl rfl rfl ?_
                                  refine g_aloadS_n 555 (i := 0) dL_law_554 rfl rfl rfl ?_
                                  refine g_iload_n 556 (i := 3) dL_law_555 rfl rfl rfl ?_
                                  refine g_iconst 557 (1 : Int32) dL_law_556 rfl (by decide) ?_
                                  refine g_iadd 558 dL_law_557 rfl ?_
                                  refine g_sld 559 dL_law_558 rfl c96 ?_
                                  obtain ⟨_, e99, h⟩ := x_bind h
                                  obtain ⟨q100, e100, h⟩ := x_bind h
                                  refine g_cV 562 (some (.int q100.1)) q100.2 [.int (xs (v3 + (1 : Int32)).toNatClampNeg)] [] dL_law_559 rfl (fun _ hK2 => mM_told (30) (by decide) e100 hK2) (x_ob_some e99) kL_65 ⟨Nat.le_of_ble_eq_true rfl, Nat.le_of_ble_eq_true rfl⟩ ⟨Nat.le_of_ble_eq_true rfl, Nat.le_of_ble_eq_true rfl⟩ (Nat.le_of_ble_eq_true rfl) rfl ?_
                                  refine g_pop 563 dL_law_562 rfl rfl ?_
                                  refine g_goto 855 dL_law_563 (by decide) ?_
                                  refine g_iinc 858 [some (.retAddr 0), some (.ref v1), some (.ref v2), some (.int (v3 + (8 : Int32)))] dL_law_855 rfl rfl (x_inc (8 : Int32) (by decide)) rfl (by decide) ?_
                                  refine g_goto 18 dL_law_858 (by decide) ?_
                                  exact ih _ _ _ _ h
                              · rw [if_neg c95] at h
                                by_cases c101 : ((xs v3.toNatClampNeg) &&& (31 : Int32)) = (12 : Int32)
                                · rw [if_pos c101] at h
                                  refine g_tabIn 566 (v := (12 : Int32)) dL_law_33 c101 (by decide) (by decide) rfl (by decide) ?_
                                  refine g_aload_n 567 (i := 1) dL_law_566 rfl rfl rfl ?_
                                  refine g_aloadS_n 568 (i := 0) dL_law_567 rfl rfl rfl ?_
                                  refine g_iload_n 569 (i := 3) dL_law_568 rfl rfl rfl ?_
                                  refine g_iconst 570 (1 : Int32) dL_law_569 rfl (by decide) ?_
                                  refine g_iadd 571 dL_law_570 rfl ?_
                                  by_cases c102 : (v3 + (1 : Int32)) < 0 ∨ xl ≤ (v3 + (1 : Int32)).toNatClampNeg
                                  · rw [if_pos c102] at h; cases h
                                  · rw [if_neg c102] at h
                                    refine g_sld 572 dL_law_571 rfl c102 ?_
                                    refine g_aloadS_n 573 (i := 0) dL_law_572 rfl rfl rfl ?_
                                    refine g_iload_n 574 (i := 3) dL_law_573 rfl rfl rfl ?_
                                    refine g_iconst 575 (2 : Int32) dL_law_574 rfl (by decide) ?_
                                    refine g_iadd 576 dL_law_575 rfl ?_
                                    by_cases c103 : (v3 + (2 : Int32)) < 0 ∨ xl ≤ (v3 + (2 : Int32)).toNatClampNeg
                                    · rw [if_pos c103] at h; cases h
                                    · rw [if_neg c103] at h
                                      refine g_sld 577 dL_law_576 rfl c103 ?_
                                      refine g_aloadS_n 578 (i := 0) dL_law_577 rfl rfl rfl ?_
                                      refine g_iload_n 579 (i := 3) dL_law_578 rfl rfl rfl ?_
                                      refine g_iconst 580 (3 : Int32) dL_law_579 rfl (by decide) ?_
                                      refine g_iadd 581 dL_law_580 rfl ?_
                                      by_cases c104 : (v3 + (3 : Int32)) < 0 ∨ xl ≤ (v3 + (3 : Int32)).toNatClampNeg
                                      · rw [if_pos c104] at h; cases h
                                      · rw [if_neg c104] at h
                                        refine g_sld 582 dL_law_581 rfl c104 ?_
                                        refine g_aloadS_n 583 (i := 0) dL_law_582 rfl rfl rfl ?_
                                        refine g_iload_n 584 (i := 3) dL_law_583 rfl rfl rfl ?_
                                        refine g_iconst 585 (4 : Int32) dL_law_584 rfl (by decide) ?_
                                        refine g_iadd 586 dL_law_585 rfl ?_
                                        by_cases c105 : (v3 + (4 : Int32)) < 0 ∨ xl ≤ (v3 + (4 : Int32)).toNatClampNeg
                                        · rw [if_pos c105] at h; cases h
                                        · rw [if_neg c105] at h
                                          refine g_sld 587 dL_law_586 rfl c105 ?_
                                          refine g_aloadS_n 588 (i := 0) dL_law_587 rfl rfl rfl ?_
                                          refine g_iload_n 589 (i := 3) dL_law_588 rfl rfl rfl ?_
                                          refine g_iconst 590 (5 : Int32) dL_law_589 rfl (by decide) ?_
                                          refine g_iadd 591 dL_law_590 rfl ?_
                                          by_cases c106 : (v3 + (5 : Int32)) < 0 ∨ xl ≤ (v3 + (5 : Int32)).toNatClampNeg
                                          · rw [if_pos c106] at h; cases h
                                          · rw [if_neg c106] at h
                                            refine g_sld 592 dL_law_591 rfl c106 ?_
                                            refine g_aloadS_n 593 (i := 0) dL_law_592 rfl rfl rfl ?_
                                            refine g_iload_n 594 (i := 3) dL_law_593 rfl rfl rfl ?_
                                            refine g_bipush 596 (6 : Int32) dL_law_594 rfl (by decide) ?_
                                            refine g_iadd 597 dL_law_596 rfl ?_
                                            by_cases c107 : (v3 + (6 : Int32)) < 0 ∨ xl ≤ (v3 + (6 : Int32)).toNatClampNeg
                                            · rw [if_pos c107] at h; cases h
                                            · rw [if_neg c107] at h
                                              refine g_sld 598 dL_law_597 rfl c107 ?_
                                              refine g_aloadS_n 599 (i := 0) dL_law_598 rfl rfl rfl ?_
                                              refine g_iload_n 600 (i := 3) dL_law_599 rfl rfl rfl ?_
                                              refine g_bipush 602 (7 : Int32) dL_law_600 rfl (by decide) ?_
                                              refine g_iadd 603 dL_law_602 rfl ?_
                                              by_cases c108 : (v3 + (7 : Int32)) < 0 ∨ xl ≤ (v3 + (7 : Int32)).toNatClampNeg
                                              · rw [if_pos c108] at h; cases h
                                              · rw [if_neg c108] at h
                                                refine g_sld 604 dL_law_603 rfl c108 ?_
                                                obtain ⟨_, e109, h⟩ := x_bind h
                                                obtain ⟨q110, e110, h⟩ := x_bind h
                                                refine g_cV 607 (some (.int q110.1)) q110.2 [.int (xs (v3 + (1 : Int32)).toNatClampNeg), .int (xs (v3 + (2 : Int32)).toNatClampNeg), .int (xs (v3 + (3 : Int32)).toNatClampNeg), .int (xs (v3 + (4 : Int32)).toNatClampNeg), .int (xs (v3 + (5 : Int32)).toNatClampNeg), .int (xs (v3 + (6 : Int32)).toNatClampNeg), .int (xs (v3 + (7 : Int32)).toNatClampNeg)] [] dL_law_604 rfl (fun _ hK2 => mA_odds (30) (by decide) e110 hK2) (x_ob_some e109) kL_66 ⟨Nat.le_of_ble_eq_true rfl, Nat.le_of_ble_eq_true rfl⟩ ⟨Nat.le_of_ble_eq_true rfl, Nat.le_of_ble_eq_true rfl⟩ (Nat.le_of_ble_eq_true rfl) rfl ?_
                                                refine g_pop 608 dL_law_607 rfl rfl ?_
                                                refine g_aload_n 609 (i := 2) dL_law_608 rfl rfl rfl ?_
                                                refine g_aloadS_n 610 (i := 0) dL_law_609 rfl rfl rfl ?_
                                                refine g_iload_n 611 (i := 3) dL_law_610 rfl rfl rfl ?_
                                                refine g_iconst 612 (1 : Int32) dL_law_611 rfl (by decide) ?_
                                                refine g_iadd 613 dL_law_612 rfl ?_
                                                refine g_sld 614 dL_law_613 rfl c102 ?_
                                                refine g_aloadS_n 615 (i := 0) dL_law_614 rfl rfl rfl ?_
                                                refine g_iload_n 616 (i := 3) dL_law_615 rfl rfl rfl ?_
                                                refine g_iconst 617 (2 : Int32) dL_law_616 rfl (by decide) ?_
                                                refine g_iadd 618 dL_law_617 rfl ?_
                                                refine g_sld 619 dL_law_618 rfl c103 ?_
                                                refine g_aloadS_n 620 (i := 0) dL_law_619 rfl rfl rfl ?_
                                                refine g_iload_n 621 (i := 3) dL_law_620 rfl rfl rfl ?_
                                                refine g_iconst 622 (3 : Int32) dL_law_621 rfl (by decide) ?_
                                                refine g_iadd 623 dL_law_622 rfl ?_
                                                refine g_sld 624 dL_law_623 rfl c104 ?_
                                                refine g_aloadS_n 625 (i := 0) dL_law_624 rfl rfl rfl ?_
                                                refine g_iload_n 626 (i := 3) dL_law_625 rfl rfl rfl ?_
                                                refine g_iconst 627 (4 : Int32) dL_law_626 rfl (by decide) ?_
                                                refine g_iadd 628 dL_law_627 rfl ?_
                                                refine g_sld 629 dL_law_628 rfl c105 ?_
                                                refine g_aloadS_n 630 (i := 0) dL_law_629 rfl rfl rfl ?_
                                                refine g_iload_n 631 (i := 3) dL_law_630 rfl rfl rfl ?_
                                                refine g_iconst 632 (5 : Int32) dL_law_631 rfl (by decide) ?_
                                                refine g_iadd 633 dL_law_632 rfl ?_
                                                refine g_sld 634 dL_law_633 rfl c106 ?_
                                                refine g_aloadS_n 635 (i := 0) dL_law_634 rfl rfl rfl ?_
                                                refine g_iload_n 636 (i := 3) dL_law_635 rfl rfl rfl ?_
                                                refine g_bipush 638 (6 : Int32) dL_law_636 rfl (by decide) ?_
                                                refine g_iadd 639 dL_law_638 rfl ?_
                                                refine g_sld 640 dL_law_639 rfl c107 ?_
                                                refine g_aloadS_n 641 (i := 0) dL_law_640 rfl rfl rfl ?_
                                                refine g_iload_n 642 (i := 3) dL_law_641 rfl rfl rfl ?_
                                                refine g_bipush 644 (7 : Int32) dL_law_642 rfl (by decide) ?_
                                                refine g_iadd 645 dL_law_644 rfl ?_
                                                refine g_sld 646 dL_law_645 rfl c108 ?_
                                                obtain ⟨_, e111, h⟩ := x_bind h
                                                obtain ⟨t112, e112, h⟩ := x_bind h
                                                refine g_cV 649 (some (.int t112)) q110.2 [.int (xs (v3 + (1 : Int32)).toNatClampNeg), .int (xs (v3 + (2 : Int32)).toNatClampNeg), .int (xs (v3 + (3 : Int32)).toNatClampNeg), .int (xs (v3 + (4 : Int32)).toNatClampNeg), .int (xs (v3 + (5 : Int32)).toNatClampNeg), .int (xs (v3 + (6 : Int32)).toNatClampNeg), .int (xs (v3 + (7 : Int32)).toNatClampNeg)] [] dL_law_646 rfl (fun _ hK2 => mM_odds (30) (by decide) e112 hK2) (x_ob_some e111) kL_70 ⟨Nat.le_of_ble_eq_true rfl, Nat.le_of_ble_eq_true rfl⟩ ⟨Nat.le_of_ble_eq_true rfl, Nat.le_of_ble_eq_true rfl⟩ (Nat.le_of_ble_eq_true rfl) rfl ?_
                                                refine g_pop 650 dL_law_649 rfl rfl ?_
                                                refine g_goto 855 dL_law_650 (by decide) ?_
                                                refine g_iinc 858 [some (.retAddr 0), some (.ref v1), some (.ref v2), some (.int (v3 + (8 : Int32)))] dL_law_855 rfl rfl (x_inc (8 : Int32) (by decide)) rfl (by decide) ?_
                                                refine g_goto 18 dL_law_858 (by decide) ?_
                                                exact ih _ _ _ _ h
                                · rw [if_neg c101] at h
                                  by_cases c113 : ((xs v3.toNatClampNeg) &&& (31 : Int32)) = (13 : Int32)
                                  · rw [if_pos c113] at h
                                    refine g_tabIn 653 (v := (13 : Int32)) dL_law_33 c113 (by decide) (by decide) rfl (by decide) ?_
                                    refine g_aload_n 654 (i := 1) dL_law_653 rfl rfl rfl ?_
                                    refine g_aloadS_n 655 (i := 0) dL_law_654 rfl rfl rfl ?_
                                    refine g_iload_n 656 (i := 3) dL_law_655 rfl rfl rfl ?_
                                    refine g_iconst 657 (1 : Int32) dL_law_656 rfl (by decide) ?_
                                    refine g_iadd 658 dL_law_657 rfl ?_
                                    by_cases c114 : (v3 + (1 : Int32)) < 0 ∨ xl ≤ (v3 + (1 : Int32)).toNatClampNeg
                                    · rw [if_pos c114] at h; cases h
                                    · rw [if_neg c114] at h
                                      refine g_sld 659 dL_law_658 rfl c114 ?_
                                      refine g_aloadS_n 660 (i := 0) dL_law_659 rfl rfl rfl ?_
                                      refine g_iload_n 661 (i := 3) dL_law_660 rfl rfl rfl ?_
                                      refine g_iconst 662 (2 : Int32) dL_law_661 rfl (by decide) ?_
                                      refine g_iadd 663 dL_law_662 rfl ?_
                                      by_cases c115 : (v3 + (2 : Int32)) < 0 ∨ xl ≤ (v3 + (2 : Int32)).toNatClampNeg
                                      · rw [if_pos c115] at h; cases h
                                      · rw [if_neg c115] at h
                                        refine g_sld 664 dL_law_663 rfl c115 ?_
                                        refine g_aloadS_n 665 (i := 0) dL_law_664 rfl rfl rfl ?_
                                        refine g_iload_n 666 (i := 3) dL_law_665 rfl rfl rfl ?_
                                        refine g_iconst 667 (3 : Int32) dL_law_666 rfl (by decide) ?_
                                        refine g_iadd 668 dL_law_667 rfl ?_
                                        by_cases c116 : (v3 + (3 : Int32)) < 0 ∨ xl ≤ (v3 + (3 : Int32)).toNatClampNeg
                                        · rw [if_pos c116] at h; cases h
                                        · rw [if_neg c116] at h
                                          refine g_sld 669 dL_law_668 rfl c116 ?_
                                          refine g_aloadS_n 670 (i := 0) dL_law_669 rfl rfl rfl ?_
                                          refine g_iload_n 671 (i := 3) dL_law_670 rfl rfl rfl ?_
                                          refine g_iconst 672 (4 : Int32) dL_law_671 rfl (by decide) ?_
                                          refine g_iadd 673 dL_law_672 rfl ?_
                                          by_cases c117 : (v3 + (4 : Int32)) < 0 ∨ xl ≤ (v3 + (4 : Int32)).toNatClampNeg
                                          · rw [if_pos c117] at h; cases h
                                          · rw [if_neg c117] at h
                                            refine g_sld 674 dL_law_673 rfl c117 ?_
                                            refine g_aloadS_n 675 (i := 0) dL_law_674 rfl rfl rfl ?_
                                            refine g_iload_n 676 (i := 3) dL_law_675 rfl rfl rfl ?_
                                            refine g_iconst 677 (5 : Int32) dL_law_676 rfl (by decide) ?_
                                            refine g_iadd 678 dL_law_677 rfl ?_
                                            by_cases c118 : (v3 + (5 : Int32)) < 0 ∨ xl ≤ (v3 + (5 : Int32)).toNatClampNeg
                                            · rw [if_pos c118] at h; cases h
                                            · rw [if_neg c118] at h
                                              refine g_sld 679 dL_law_678 rfl c118 ?_
                                              refine g_aloadS_n 680 (i := 0) dL_law_679 rfl rfl rfl ?_
                                              refine g_iload_n 681 (i := 3) dL_law_680 rfl rfl rfl ?_
                                              refine g_bipush 683 (6 : Int32) dL_law_681 rfl (by decide) ?_
                                              refine g_iadd 684 dL_law_683 rfl ?_
                                              by_cases c119 : (v3 + (6 : Int32)) < 0 ∨ xl ≤ (v3 + (6 : Int32)).toNatClampNeg
                                              · rw [if_pos c119] at h; cases h
                                              · rw [if_neg c119] at h
                                                refine g_sld 685 dL_law_684 rfl c119 ?_
                                                refine g_aloadS_n 686 (i := 0) dL_law_685 rfl rfl rfl ?_
                                                refine g_iload_n 687 (i := 3) dL_law_686 rfl rfl rfl ?_
                                                refine g_bipush 689 (7 : Int32) dL_law_687 rfl (by decide) ?_
                                                refine g_iadd 690 dL_law_689 rfl ?_
                                                by_cases c120 : (v3 + (7 : Int32)) < 0 ∨ xl ≤ (v3 + (7 : Int32)).toNatClampNeg
                                                · rw [if_pos c120] at h; cases h
                                                · rw [if_neg c120] at h
                                                  refine g_sld 691 dL_law_690 rfl c120 ?_
                                                  obtain ⟨_, e121, h⟩ := x_bind h
                                                  obtain ⟨q122, e122, h⟩ := x_bind h
                                                  refine g_cV 694 (some (.int q122.1)) q122.2 [.int (xs (v3 + (1 : Int32)).toNatClampNeg), .int (xs (v3 + (2 : Int32)).toNatClampNeg), .int (xs (v3 + (3 : Int32)).toNatClampNeg), .int (xs (v3 + (4 : Int32)).toNatClampNeg), .int (xs (v3 + (5 : Int32)).toNatClampNeg), .int (xs (v3 + (6 : Int32)).toNatClampNeg), .int (xs (v3 + (7 : Int32)).toNatClampNeg)] [] dL_law_691 rfl (fun _ hK2 => mA_would (30) (by decide) e122 hK2) (x_ob_some e121) kL_71 ⟨Nat.le_of_ble_eq_true rfl, Nat.le_of_ble_eq_true rfl⟩ ⟨Nat.le_of_ble_eq_true rfl, Nat.le_of_ble_eq_true rfl⟩ (Nat.le_of_ble_eq_true rfl) rfl ?_
                                                  refine g_pop 695 dL_law_694 rfl rfl ?_
                                                  refine g_aload_n 696 (i := 2) dL_law_695 rfl rfl rfl ?_
                                                  refine g_aloadS_n 697 (i := 0) dL_law_696 rfl rfl rfl ?_
                                                  refine g_iload_n 698 (i := 3) dL_law_697 rfl rfl rfl ?_
                                                  refine g_iconst 699 (1 : Int32) dL_law_698 rfl (by decide) ?_
                                                  refine g_iadd 700 dL_law_699 rfl ?_
                                                  refine g_sld 701 dL_law_700 rfl c114 ?_
                                                  refine g_aloadS_n 702 (i := 0) dL_law_701 rfl rfl rfl ?_
                                                  refine g_iload_n 703 (i := 3) dL_law_702 rfl rfl rfl ?_
                                                  refine g_iconst 704 (2 : Int32) dL_law_703 rfl (by decide) ?_
                                                  refine g_iadd 705 dL_law_704 rfl ?_
                                                  refine g_sld 706 dL_law_705 rfl c115 ?_
                                                  refine g_aloadS_n 707 (i := 0) dL_law_706 rfl rfl rfl ?_
                                                  refine g_iload_n 708 (i := 3) dL_law_707 rfl rfl rfl ?_
                                                  refine g_iconst 709 (3 : Int32) dL_law_708 rfl (by decide) ?_
                                                  refine g_iadd 710 dL_law_709 rfl ?_
                                                  refine g_sld 711 dL_law_710 rfl c116 ?_
                                                  refine g_aloadS_n 712 (i := 0) dL_law_711 rfl rfl rfl ?_
                                                  refine g_iload_n 713 (i := 3) dL_law_712 rfl rfl rfl ?_
                                                  refine g_iconst 714 (4 : Int32) dL_law_713 rfl (by decide) ?_
                                                  refine g_iadd 715 dL_law_714 rfl ?_
                                                  refine g_sld 716 dL_law_715 rfl c117 ?_
                                                  refine g_aloadS_n 717 (i := 0) dL_law_716 rfl rfl rfl ?_
                                                  refine g_iload_n 718 (i := 3) dL_law_717 rfl rfl rfl ?_
                                                  refine g_iconst 719 (5 : Int32) dL_law_718 rfl (by decide) ?_
                                                  refine g_iadd 720 dL_law_719 rfl ?_
                                                  refine g_sld 721 dL_law_720 rfl c118 ?_
                                                  refine g_aloadS_n 722 (i := 0) dL_law_721 rfl rfl rfl ?_
                                                  refine g_iload_n 723 (i := 3) dL_law_722 rfl rfl rfl ?_
                                                  refine g_bipush 725 (6 : Int32) dL_law_723 rfl (by decide) ?_
                                                  refine g_iadd 726 dL_law_725 rfl ?_
                                                  refine g_sld 727 dL_law_726 rfl c119 ?_
                                                  refine g_aloadS_n 728 (i := 0) dL_law_727 rfl rfl rfl ?_
                                                  refine g_iload_n 729 (i := 3) dL_law_728 rfl rfl rfl ?_
                                                  refine g_bipush 731 (7 : Int32) dL_law_729 rfl (by decide) ?_
                                                  refine g_iadd 732 dL_law_731 rfl ?_
                                                  refine g_sld 733 dL_law_732 rfl c120 ?_
                                                  obtain ⟨_, e123, h⟩ := x_bind h
                                                  obtain ⟨t124, e124, h⟩ := x_bind h
                                                  refine g_cV 736 (some (.int t124)) q122.2 [.int (xs (v3 + (1 : Int32)).toNatClampNeg), .int (xs (v3 + (2 : Int32)).toNatClampNeg), .int (xs (v3 + (3 : Int32)).toNatClampNeg), .int (xs (v3 + (4 : Int32)).toNatClampNeg), .int (xs (v3 + (5 : Int32)).toNatClampNeg), .int (xs (v3 + (6 : Int32)).toNatClampNeg), .int (xs (v3 + (7 : Int32)).toNatClampNeg)] [] dL_law_733 rfl (fun _ hK2 => mM_would (30) (by decide) e124 hK2) (x_ob_some e123) kL_74 ⟨Nat.le_of_ble_eq_true rfl, Nat.le_of_ble_eq_true rfl⟩ ⟨Nat.le_of_ble_eq_true rfl, Nat.le_of_ble_eq_true rfl⟩ (Nat.le_of_ble_eq_true rfl) rfl ?_
                                                  refine g_pop 737 dL_law_736 rfl rfl ?_
                                                  refine g_goto 855 dL_law_737 (by decide) ?_
                                                  refine g_iinc 858 [some (.retAddr 0), some (.ref v1), some (.ref v2), some (.int (v3 + (8 : Int32)))] dL_law_855 rfl rfl (x_inc (8 : Int32) (by decide)) rfl (by decide) ?_
                                                  refine g_goto 18 dL_law_858 (by decide) ?_
                                                  exact ih _ _ _ _ h
                                  · rw [if_neg c113] at h
                                    by_cases c125 : ((xs v3.toNatClampNeg) &&& (31 : Int32)) = (14 : Int32)
                                    · rw [if_pos c125] at h
                                      refine g_tabIn 740 (v := (14 : Int32)) dL_law_33 c125 (by decide) (by decide) rfl (by decide) ?_
                                      refine g_aload_n 741 (i := 1) dL_law_740 rfl rfl rfl ?_
                                      refine g_aloadS_n 742 (i := 0) dL_law_741 rfl rfl rfl ?_
                                      refine g_iload_n 743 (i := 3) dL_law_742 rfl rfl rfl ?_
                                      refine g_iconst 744 (1 : Int32) dL_law_743 rfl (by decide) ?_
                                      refine g_iadd 745 dL_law_744 rfl ?_
                                      by_cases c126 : (v3 + (1 : Int32)) < 0 ∨ xl ≤ (v3 + (1 : Int32)).toNatClampNeg
                                      · rw [if_pos c126] at h; cases h
                                      · rw [if_neg c126] at h
                                        refine g_sld 746 dL_law_745 rfl c126 ?_
                                        refine g_aloadS_n 747 (i := 0) dL_law_746 rfl rfl rfl ?_
                                        refine g_iload_n 748 (i := 3) dL_law_747 rfl rfl rfl ?_
                                        refine g_iconst 749 (2 : Int32) dL_law_748 rfl (by decide) ?_
                                        refine g_iadd 750 dL_law_749 rfl ?_
                                        by_cases c127 : (v3 + (2 : Int32)) < 0 ∨ xl ≤ (v3 + (2 : Int32)).toNatClampNeg
                                        · rw [if_pos c127] at h; cases h
                                        · rw [if_neg c127] at h
                                          refine g_sld 751 dL_law_750 rfl c127 ?_
                                          obtain ⟨_, e128, h⟩ := x_bind h
                                          obtain ⟨q129, e129, h⟩ := x_bind h
                                          refine g_cV 754 (some (.int q129.1)) q129.2 [.int (xs (v3 + (1 : Int32)).toNatClampNeg), .int (xs (v3 + (2 : Int32)).toNatClampNeg)] [] dL_law_751 rfl (fun _ hK2 => mA_effect (30) (by decide) e129 hK2) (x_ob_some e128) kL_75 ⟨Nat.le_of_ble_eq_true rfl, Nat.le_of_ble_eq_true rfl⟩ ⟨Nat.le_of_ble_eq_true rfl, Nat.le_of_ble_eq_true rfl⟩ (Nat.le_of_ble_eq_true rfl) rfl ?_
                                          refine g_pop 755 dL_law_754 rfl rfl ?_
                                          refine g_aload_n 756 (i := 2) dL_law_755 rfl rfl rfl ?_
                                          refine g_aloadS_n 757 (i := 0) dL_law_756 rfl rfl rfl ?_
                                          refine g_iload_n 758 (i := 3) dL_law_757 rfl rfl rfl ?_
                                          refine g_iconst 759 (1 : Int32) dL_law_758 rfl (by decide) ?_
                                          refine g_iadd 760 dL_law_759 rfl ?_
                                          refine g_sld 761 dL_law_760 rfl c126 ?_
                                          refine g_aloadS_n 762 (i := 0) dL_law_761 rfl rfl rfl ?_
                                          refine g_iload_n 763 (i := 3) dL_law_762 rfl rfl rfl ?_
                                          refine g_iconst 764 (2 : Int32) dL_law_763 rfl (by decide) ?_
                                          refine g_iadd 765 dL_law_764 rfl ?_
                                          refine g_sld 766 dL_law_765 rfl c127 ?_
                                          obtain ⟨_, e130, h⟩ := x_bind h
                                          obtain ⟨t131, e131, h⟩ := x_bind h
                                          refine g_cV 769 (some (.int t131)) q129.2 [.int (xs (v3 + (1 : Int32)).toNatClampNeg), .int (xs (v3 + (2 : Int32)).toNatClampNeg)] [] dL_law_766 rfl (fun _ hK2 => mM_effect (30) (by decide) e131 hK2) (x_ob_some e130) kL_78 ⟨Nat.le_of_ble_eq_true rfl, Nat.le_of_ble_eq_true rfl⟩ ⟨Nat.le_of_ble_eq_true rfl, Nat.le_of_ble_eq_true rfl⟩ (Nat.le_of_ble_eq_true rfl) rfl ?_
                                          refine g_pop 770 dL_law_769 rfl rfl ?_
                                          refine g_goto 855 dL_law_770 (by decide) ?_
                                          refine g_iinc 858 [some (.retAddr 0), some (.ref v1), some (.ref v2), some (.int (v3 + (8 : Int32)))] dL_law_855 rfl rfl (x_inc (8 : Int32) (by decide)) rfl (by decide) ?_
                                          refine g_goto 18 dL_law_858 (by decide) ?_
                                          exact ih _ _ _ _ h
                                    · rw [if_neg c125] at h
                                      by_cases c132 : ((xs v3.toNatClampNeg) &&& (31 : Int32)) = (15 : Int32)
                                      · rw [if_pos c132] at h
                                        refine g_tabIn 773 (v := (15 : Int32)) dL_law_33 c132 (by decide) (by decide) rfl (by decide) ?_
                                        refine g_aload_n 774 (i := 1) dL_law_773 rfl rfl rfl ?_
                                        refine g_aloadS_n 775 (i := 0) dL_law_774 rfl rfl rfl ?_
                                        refine g_iload_n 776 (i := 3) dL_law_775 rfl rfl rfl ?_
                                        refine g_iconst 777 (1 : Int32) dL_law_776 rfl (by decide) ?_
                                        refine g_iadd 778 dL_law_777 rfl ?_
                                        by_cases c133 : (v3 + (1 : Int32)) < 0 ∨ xl ≤ (v3 + (1 : Int32)).toNatClampNeg
                                        · rw [if_pos c133] at h; cases h
                                        · rw [if_neg c133] at h
                                          refine g_sld 779 dL_law_778 rfl c133 ?_
                                          refine g_aloadS_n 780 (i := 0) dL_law_779 rfl rfl rfl ?_
                                          refine g_iload_n 781 (i := 3) dL_law_780 rfl rfl rfl ?_
                                          refine g_iconst 782 (2 : Int32) dL_law_781 rfl (by decide) ?_
                                          refine g_iadd 783 dL_law_782 rfl ?_
                                          by_cases c134 : (v3 + (2 : Int32)) < 0 ∨ xl ≤ (v3 + (2 : Int32)).toNatClampNeg
                                          · rw [if_pos c134] at h; cases h
                                          · rw [if_neg c134] at h
                                            refine g_sld 784 dL_law_783 rfl c134 ?_
                                            obtain ⟨_, e135, h⟩ := x_bind h
                                            obtain ⟨q136, e136, h⟩ := x_bind h
                                            refine g_cV 787 (some (.int q136.1)) q136.2 [.int (xs (v3 + (1 : Int32)).toNatClampNeg), .int (xs (v3 + (2 : Int32)).toNatClampNeg)] [] dL_law_784 rfl (fun _ hK2 => mA_swayed (30) (by decide) e136 hK2) (x_ob_some e135) kL_79 ⟨Nat.le_of_ble_eq_true rfl, Nat.le_of_ble_eq_true rfl⟩ ⟨Nat.le_of_ble_eq_true rfl, Nat.le_of_ble_eq_true rfl⟩ (Nat.le_of_ble_eq_true rfl) rfl ?_
                                            refine g_pop 788 dL_law_787 rfl rfl ?_
                                            refine g_aload_n 789 (i := 2) dL_law_788 rfl rfl rfl ?_
                                            refine g_aloadS_n 790 (i := 0) dL_law_789 rfl rfl rfl ?_
                                            refine g_iload_n 791 (i := 3) dL_law_790 rfl rfl rfl ?_
                                            refine g_iconst 792 (1 : Int32) dL_law_791 rfl (by decide) ?_
                                            refine g_iadd 793 dL_law_792 rfl ?_
                                            refine g_sld 794 dL_law_793 rfl c133 ?_
                                            refine g_aloadS_n 795 (i := 0) dL_law_794 rfl rfl rfl ?_
                                            refine g_iload_n 796 (i := 3) dL_law_795 rfl rfl rfl ?_
                                            refine g_iconst 797 (2 : Int32) dL_law_796 rfl (by decide) ?_
                                            refine g_iadd 798 dL_law_797 rfl ?_
                                            refine g_sld 799 dL_law_798 rfl c134 ?_
                                            obtain ⟨_, e137, h⟩ := x_bind h
                                            obtain ⟨t138, e138, h⟩ := x_bind h
                                            refine g_cV 802 (some (.int t138)) q136.2 [.int (xs (v3 + (1 : Int32)).toNatClampNeg), .int (xs (v3 + (2 : Int32)).toNatClampNeg)] [] dL_law_799 rfl (fun _ hK2 => mM_swayed (30) (by decide) e138 hK2) (x_ob_some e137) kL_82 ⟨Nat.le_of_ble_eq_true rfl, Nat.le_of_ble_eq_true rfl⟩ ⟨Nat.le_of_ble_eq_true rfl, Nat.le_of_ble_eq_true rfl⟩ (Nat.le_of_ble_eq_true rfl) rfl ?_
                                            refine g_pop 803 dL_law_802 rfl rfl ?_
                                            refine g_goto 855 dL_law_803 (by decide) ?_
                                            refine g_iinc 858 [some (.retAddr 0), some (.ref v1), some (.ref v2), some (.int (v3 + (8 : Int32)))] dL_law_855 rfl rfl (x_inc (8 : Int32) (by decide)) rfl (by decide) ?_
                                            refine g_goto 18 dL_law_858 (by decide) ?_
                                            exact ih _ _ _ _ h
                                      · rw [if_neg c132] at h
                                        by_cases c139 : ((xs v3.toNatClampNeg) &&& (31 : Int32)) = (16 : Int32)
                                        · rw [if_pos c139] at h
                                          refine g_tabIn 806 (v := (16 : Int32)) dL_law_33 c139 (by decide) (by decide) rfl (by decide) ?_
                                          refine g_aload_n 807 (i := 1) dL_law_806 rfl rfl rfl ?_
                                          obtain ⟨_, e140, h⟩ := x_bind h
                                          obtain ⟨q141, e141, h⟩ := x_bind h
                                          refine g_cV 810 (some (.int q141.1)) q141.2 [] [] dL_law_807 rfl (fun _ hK2 => mA_swap (30) (by decide) e141 hK2) (x_ob_some e140) kL_83 ⟨Nat.le_of_ble_eq_true rfl, Nat.le_of_ble_eq_true rfl⟩ ⟨Nat.le_of_ble_eq_true rfl, Nat.le_of_ble_eq_true rfl⟩ (Nat.le_of_ble_eq_true rfl) rfl ?_
                                          refine g_pop 811 dL_law_810 rfl rfl ?_
                                          refine g_aload_n 812 (i := 2) dL_law_811 rfl rfl rfl ?_
                                          obtain ⟨_, e142, h⟩ := x_bind h
                                          obtain ⟨q143, e143, h⟩ := x_bind h
                                          refine g_cV 815 (some (.int q143.1)) q143.2 [] [] dL_law_812 rfl (fun _ hK2 => mM_swap (30) (by decide) e143 hK2) (x_ob_some e142) kL_87 ⟨Nat.le_of_ble_eq_true rfl, Nat.le_of_ble_eq_true rfl⟩ ⟨Nat.le_of_ble_eq_true rfl, Nat.le_of_ble_eq_true rfl⟩ (Nat.le_of_ble_eq_true rfl) rfl ?_
                                          refine g_pop 816 dL_law_815 rfl rfl ?_
                                          refine g_goto 855 dL_law_816 (by decide) ?_
                                          refine g_iinc 858 [some (.retAddr 0), some (.ref v1), some (.ref v2), some (.int (v3 + (8 : Int32)))] dL_law_855 rfl rfl (x_inc (8 : Int32) (by decide)) rfl (by decide) ?_
                                          refine g_goto 18 dL_law_858 (by decide) ?_
                                          exact ih _ _ _ _ h
                                        · rw [if_neg c139] at h
                                          by_cases c144 : ((xs v3.toNatClampNeg) &&& (31 : Int32)) = (17 : Int32)
                                          · rw [if_pos c144] at h
                                            refine g_tabIn 819 (v := (17 : Int32)) dL_law_33 c144 (by decide) (by decide) rfl (by decide) ?_
                                            refine g_aload_n 820 (i := 1) dL_law_819 rfl rfl rfl ?_
                                            obtain ⟨_, e145, h⟩ := x_bind h
                                            obtain ⟨q146, e146, h⟩ := x_bind h
                                            refine g_cV 823 (some (.int q146.1)) q146.2 [] [] dL_law_820 rfl (fun _ hK2 => mA_keep (30) (by decide) e146 hK2) (x_ob_some e145) kL_88 ⟨Nat.le_of_ble_eq_true rfl, Nat.le_of_ble_eq_true rfl⟩ ⟨Nat.le_of_ble_eq_true rfl, Nat.le_of_ble_eq_true rfl⟩ (Nat.le_of_ble_eq_true rfl) rfl ?_
                                            refine g_pop 824 dL_law_823 rfl rfl ?_
                                            refine g_aload_n 825 (i := 2) dL_law_824 rfl rfl rfl ?_
                                            obtain ⟨_, e147, h⟩ := x_bind h
                                            obtain ⟨q148, e148, h⟩ := x_bind h
                                            refine g_cV 828 (some (.int q148.1)) q148.2 [] [] dL_law_825 rfl (fun _ hK2 => mM_keep (30) (by decide) e148 hK2) (x_ob_some e147) kL_91 ⟨Nat.le_of_ble_eq_true rfl, Nat.le_of_ble_eq_true rfl⟩ ⟨Nat.le_of_ble_eq_true rfl, Nat.le_of_ble_eq_true rfl⟩ (Nat.le_of_ble_eq_true rfl) rfl ?_
                                            refine g_pop 829 dL_law_828 rfl rfl ?_
                                            refine g_goto 855 dL_law_829 (by decide) ?_
                                            refine g_iinc 858 [some (.retAddr 0), some (.ref v1), some (.ref v2), some (.int (v3 + (8 : Int32)))] dL_law_855 rfl rfl (x_inc (8 : Int32) (by decide)) rfl (by decide) ?_
                                            refine g_goto 18 dL_law_858 (by decide) ?_
                                            exact ih _ _ _ _ h
                                          · rw [if_neg c144] at h
                                            by_cases c149 : ((xs v3.toNatClampNeg) &&& (31 : Int32)) = (18 : Int32)
                                            · rw [if_pos c149] at h
                                              refine g_tabIn 832 (v := (18 : Int32)) dL_law_33 c149 (by decide) (by decide) rfl (by decide) ?_
                                              refine g_aload_n 833 (i := 1) dL_law_832 rfl rfl rfl ?_
                                              refine g_aloadS_n 834 (i := 0) dL_law_833 rfl rfl rfl ?_
                                              refine g_iload_n 835 (i := 3) dL_law_834 rfl rfl rfl ?_
                                              refine g_iconst 836 (1 : Int32) dL_law_835 rfl (by decide) ?_
                                              refine g_iadd 837 dL_law_836 rfl ?_
                                              by_cases c150 : (v3 + (1 : Int32)) < 0 ∨ xl ≤ (v3 + (1 : Int32)).toNatClampNeg
                                              · rw [if_pos c150] at h; cases h
                                              · rw [if_neg c150] at h
                                                refine g_sld 838 dL_law_837 rfl c150 ?_
                                                obtain ⟨_, e151, h⟩ := x_bind h
                                                obtain ⟨q152, e152, h⟩ := x_bind h
                                                refine g_cV 841 (some (.int q152.1)) q152.2 [.int (xs (v3 + (1 : Int32)).toNatClampNeg)] [] dL_law_838 rfl (fun _ hK2 => mA_alike (30) (by decide) e152 hK2) (x_ob_some e151) kL_92 ⟨Nat.le_of_ble_eq_true rfl, Nat.le_of_ble_eq_true rfl⟩ ⟨Nat.le_of_ble_eq_true rfl, Nat.le_of_ble_eq_true rfl⟩ (Nat.le_of_ble_eq_true rfl) rfl ?_
                                                refine g_aload_n 842 (i := 2) dL_law_841 rfl rfl rfl ?_
                                                refine g_aloadS_n 843 (i := 0) dL_law_842 rfl rfl rfl ?_
                                                refine g_iload_n 844 (i := 3) dL_law_843 rfl rfl rfl ?_
                                                refine g_iconst 845 (1 : Int32) dL_law_844 rfl (by decide) ?_
                                                refine g_iadd 846 dL_law_845 rfl ?_
                                                refine g_sld 847 dL_law_846 rfl c150 ?_
                                                obtain ⟨_, e153, h⟩ := x_bind h
                                                obtain ⟨q154, e154, h⟩ := x_bind h
                                                refine g_cV 850 (some (.int q154.1)) q154.2 [.int (xs (v3 + (1 : Int32)).toNatClampNeg)] [.int q152.1] dL_law_847 rfl (fun _ hK2 => mM_alike (30) (by decide) e154 hK2) (x_ob_some e153) kL_95 ⟨Nat.le_of_ble_eq_true rfl, Nat.le_of_ble_eq_true rfl⟩ ⟨Nat.le_of_ble_eq_true rfl, Nat.le_of_ble_eq_true rfl⟩ (Nat.le_of_ble_eq_true rfl) rfl ?_
                                                by_cases c155 : q152.1 = q154.1
                                                · rw [if_pos c155] at h
                                                  refine g_icmp_eq_t 855 dL_law_850 (by decide) c155 ?_
                                                  refine g_iinc 858 [some (.retAddr 0), some (.ref v1), some (.ref v2), some (.int (v3 + (8 : Int32)))] dL_law_855 rfl rfl (x_inc (8 : Int32) (by decide)) rfl (by decide) ?_
                                                  refine g_goto 18 dL_law_858 (by decide) ?_
                                                  exact ih _ _ _ _ h
                                                · rw [if_neg c155] at h
                                                  refine g_icmp_eq_f 853 855 dL_law_850 (by decide) rfl c155 ?_
                                                  refine g_iconst 854 (0 : Int32) dL_law_853 rfl (by decide) ?_
                                                  cases h
                                                  exact x_lawret dL_law_854 hr
                                            · rw [if_neg c149] at h
                                              have q3 := lv_neT (a := 0) c3 (by decide)
                                              have q9 := lv_neT (a := 1) c9 (by decide)
                                              have q16 := lv_neT (a := 2) c16 (by decide)
                                              have q24 := lv_neT (a := 3) c24 (by decide)
                                              have q42 := lv_neT (a := 4) c42 (by decide)
                                              have q48 := lv_neT (a := 5) c48 (by decide)
                                              have q55 := lv_neT (a := 6) c55 (by decide)
                                              have q63 := lv_neT (a := 7) c63 (by decide)
                                              have q70 := lv_neT (a := 8) c70 (by decide)
                                              have q78 := lv_neT (a := 9) c78 (by decide)
                                              have q87 := lv_neT (a := 10) c87 (by decide)
                                              have q95 := lv_neT (a := 11) c95 (by decide)
                                              have q101 := lv_neT (a := 12) c101 (by decide)
                                              have q113 := lv_neT (a := 13) c113 (by decide)
                                              have q125 := lv_neT (a := 14) c125 (by decide)
                                              have q132 := lv_neT (a := 15) c132 (by decide)
                                              have q139 := lv_neT (a := 16) c139 (by decide)
                                              have q144 := lv_neT (a := 17) c144 (by decide)
                                              have q149 := lv_neT (a := 18) c149 (by decide)
                                              refine g_tabOut 855 dL_law_33 (by omega) (by decide) ?_
                                              refine g_iinc 858 [some (.retAddr 0), some (.ref v1), some (.ref v2), some (.int (v3 + (8 : Int32)))] dL_law_855 rfl rfl (x_inc (8 : Int32) (by decide)) rfl (by decide) ?_
                                              refine g_goto 18 dL_law_858 (by decide) ?_
                                              exact ih _ _ _ _ h
set_option maxHeartbeats 4000000 in
set_option maxRecDepth 100000 in
theorem mL_law {xl : Nat} {xs : Nat → Int32} {w : x_W} {r : Int32} (hr : r = 1) (h : fL_law xl xs w = some r) : x_G (some (xl, xs)) yL_law code 4 ret room_1 x_QL 0 [some (.retAddr 0), none, none, none] [] w 0 0 := by
  unfold fL_law at h
  refine g_new 3 0 xy0 xy0_ok [.null, .null, .null, .null, .null, .null] dL_law_0 rfl x_in0 tw_1_10 tw_1_11 tw_1_1 rfl x_df0 (fun _ _ => rfl) (Nat.le_of_ble_eq_true rfl) (Nat.le_of_ble_eq_true rfl) ?_
  refine g_dup 4 dL_law_3 rfl rfl ?_
  obtain ⟨w1, e1, h⟩ := x_bind h
  refine g_cI 7 none w1 [] [.ref w.length] dL_law_4 rfl (fun _ hK2 => mA_init (30) (by decide) e1 hK2) kL_9 ⟨Nat.le_of_ble_eq_true rfl, Nat.le_of_ble_eq_true rfl⟩ ⟨Nat.le_of_ble_eq_true rfl, Nat.le_of_ble_eq_true rfl⟩ (Nat.le_of_ble_eq_true rfl) rfl ?_
  refine g_astore_n 8 (i := 1) [some (.retAddr 0), some (.ref w.length), none, none] dL_law_7 rfl rfl rfl (by decide) ?_
  refine g_new 11 5 xy5 xy5_ok [.null, .null, .null, .null, .int 0, .null, .null, .null, .int 0, .null, .null, .int 0] dL_law_8 rfl x_in5 tw_2_221 tw_2_222 tw_1_6 rfl x_df5 (fun _ _ => rfl) (Nat.le_of_ble_eq_true rfl) (Nat.le_of_ble_eq_true rfl) ?_
  refine g_dup 12 dL_law_11 rfl rfl ?_
  obtain ⟨w2, e2, h⟩ := x_bind h
  refine g_cI 15 none w2 [] [.ref w1.length] dL_law_12 rfl (fun _ hK2 => mM_init (30) (by decide) e2 hK2) kL_12 ⟨Nat.le_of_ble_eq_true rfl, Nat.le_of_ble_eq_true rfl⟩ ⟨Nat.le_of_ble_eq_true rfl, Nat.le_of_ble_eq_true rfl⟩ (Nat.le_of_ble_eq_true rfl) rfl ?_
  refine g_astore_n 16 (i := 2) [some (.retAddr 0), some (.ref w.length), some (.ref w1.length), none] dL_law_15 rfl rfl rfl (by decide) ?_
  refine g_iconst 17 (0 : Int32) dL_law_16 rfl (by decide) ?_
  refine g_istore_n 18 (i := 3) [some (.retAddr 0), some (.ref w.length), some (.ref w1.length), some (.int (0 : Int32))] dL_law_17 rfl rfl rfl (by decide) ?_
  exact lL_law_18 hr x_F _ _ _ _ h
set_option maxHeartbeats 4000000 in
set_option maxRecDepth 100000 in
/-- the law's body, once its function says 1 -/
theorem x_start {p : Program} {e : Env} {s : State} {m : MethodId} {below : List Frame} {meth : Method} {c : Code} (l : Launch) {b L : Nat} {xs : Nat → Int32} (C0 : lw_At p s m meth c b L xs) (hf : fL_law L xs [] = some 1) : W p l e room_1 s m #[Value.ref b] below meth c s.heap [] 0 0 (lw_Z below #[Value.ref b] s) (entryFrame m ([Value.ref b] : List Value).toArray 4) := by
  obtain ⟨hx, hb, hr, hml, hown, hts, hX, hbl, hlocks, hgv⟩ := C0
  obtain ⟨c0, iS0, hKn0⟩ := u_known (C := xR0) (T := xT0) (N := 6) (n := 6) hts (fun w hw => x_GTl w (x_in0 w hw)) (hts (.instantiable "ActSurgery" 6) (x_GTl _ tw_1_11))
  obtain ⟨c1, iS1, hKn1⟩ := u_known (C := xR1) (T := xT1) (N := 2) (n := 2) hts (fun w hw => x_GTl w (x_in1 w hw)) (hts (.instantiable "ActSurgery$Arrows" 2) (x_GTl _ tw_1_25))
  obtain ⟨c2, iS2, hKn2⟩ := u_known (C := xR2) (T := xT2) (N := 3) (n := 3) hts (fun w hw => x_GTl w (x_in2 w hw)) (hts (.instantiable "ActSurgery$Graph" 3) (x_GTl _ tw_1_19))
  obtain ⟨c3, iS3, hKn3⟩ := u_known (C := xR3) (T := xT3) (N := 4) (n := 4) hts (fun w hw => x_GTl w (x_in3 w hw)) (hts (.instantiable "ActSurgery$World" 4) (x_GTl _ tw_1_97))
  obtain ⟨c4, iS4, hKn4⟩ := u_known (C := xR4) (T := xT4) (N := 6) (n := 6) hts (fun w hw => x_GTl w (x_in4 w hw)) (hts (.instantiable "ActSurgery$LikeGraphs" 6) (x_GTl _ tw_1_71))
  obtain ⟨c5, iS5, hKn5⟩ := u_known (C := xR5) (T := xT5) (N := 12) (n := 12) hts (fun w hw => x_GTl w (x_in5 w hw)) (hts (.instantiable "ActSurgeryModel" 12) (x_GTl _ tw_2_222))
  obtain ⟨dC, dI, hKc⟩ : ∃ (dC : Nat → ClassId) (dI : Nat → Nat → Nat), ∀ (k : Nat) (q : vw_C), x_cl[k]? = some q → u_Kn s q.1 q.2.1 q.2.2 (dC k) (dI k) := by
    refine ⟨fun k => if k = 0 then c0 else if k = 1 then c1 else if k = 2 then c2 else if k = 3 then c3 else if k = 4 then c4 else c5, fun k => if k = 0 then iS0 else if k = 1 then iS1 else if k = 2 then iS2 else if k = 3 then iS3 else if k = 4 then iS4 else iS5, ?_⟩
    intro k q hq
    match k, hq with
    | 0, hq => cases hq; exact hKn0
    | 1, hq => cases hq; exact hKn1
    | 2, hq => cases hq; exact hKn2
    | 3, hq => cases hq; exact hKn3
    | 4, hq => cases hq; exact hKn4
    | 5, hq => cases hq; exact hKn5
    | k + 6, hq => simp [x_cl] at hq
  obtain ⟨cI, kI, comp, hnI, hkI, hkindI⟩ := Cond.arrayClass_spec (hts (.arrayClass .int) (x_GTl _ x_arr))
  have hK : va_K (dC, dI) x_cl [(cI, .int)] s := by
    refine ⟨hKc, fun k q h => ?_⟩
    have hz : k < 1 := (List.getElem?_eq_some_iff.mp h).1
    rw [show k = 0 by omega] at h
    cases h
    exact ⟨fun n z => ⟨fun k h => (by cases h), kI, hkI, comp, hkindI⟩, hnI⟩
  have hP : va_P (dC, dI) x_cl (x_cw s.heap.size b cI 0 []) s.heap := fun k q h => by simp [x_cw] at h
  have hl := lv_entry (([Value.retAddr 0] : List Value).map (x_tr s.heap.size b)) (n := 4) (Nat.le_of_ble_eq_true rfl)
  rw [lg_entry_eq]
  have hl : lv_has ((lg_sl ([.ref b]) ++ List.replicate (4 - (lg_sl ([.ref b])).length) Slot.unset).toArray) 4 (lv_args 0 (([Value.retAddr 0] : List Value).map (x_tr s.heap.size b))) := hl
  generalize (lg_sl ([.ref b]) ++ List.replicate (4 - (lg_sl ([.ref b])).length) Slot.unset).toArray = ls at hl ⊢
  have hR := x_R.entry hl
  exact mL_law (r := 1) rfl hf p l e s m #[Value.ref b] below meth c (dC, dI) cI s.heap.size b s.heap [] ls ⟨hx, hb, hml, hown, fun w hw => hts w (x_GTl w hw), hK, fun w hw => va_Nw.of (x_NWt w hw) (hts w (x_NWl w hw)), Nat.le_refl _, ⟨hX, hbl, rfl, rfl⟩, hr, hlocks, fun h => absurd h (by decide)⟩ ⟨by simp, hP, va_S.rf, hR⟩
