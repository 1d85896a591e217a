/-! THE CLAIM OUT OF ONE WALK OF THE LAW'S BODY. Your part is whole_start (and what it stands on); all else here is the same for every law, but numbers. -/
def R_law : String := "MorphIndexLaw"
def lw_P (b : Addr) (xs : List Int32) (args : Array Value) (s : State) : Prop := args = #[.ref b] ∧ s.IntsAt b xs ∧ xs.length ≤ 2560 ∧ (Jvm.Cond.and given_1 narrow_1).before args s = true
def lw_Q (_ : Array Value) (s : State) (o : Outcome) (t : State) : Prop := o = .returned (some (.int 1)) ∧ Framed s o t [] 600000 7302250
def lw_Z (below : List Frame) (a : Array Value) (s : State) : State → Prop := fun t => ∃ o, t.status = .running ∧ Ended t below o ∧ lw_Q a s o t
/-- the law's own end, with 1 on the stack, nothing written that was there before, its room as the claim has it -/
theorem lw_ret {p : Program} {l : Launch} {e : Env} {s : State} {m : MethodId} {below : List Frame} {meth : Method} {c : Code} {b : Nat} (hx : p.tables.exec = Jvm.exec) (hb : c.code = code) (hr : meth.sig.returnType = ret) (hlocks : meth.locks = false) {pc : Nat} {H : Heap} {ls : Array Slot} (hdg : decode code pc = .ok (.ireturn, 1)) : W p l e room_1 s m #[Value.ref b] below meth c H [] 600000 7302250 (lw_Z below #[Value.ref b] s) (F0 m pc ls [.int 1]) := by
  intro T hT X
  obtain ⟨fs, hret, hrun, hended, hW, hframe⟩ := X.leave (v := some (.int 1)) (hlocks := hlocks) (fun h => by rw [hr] at h; cases h)
  have hmeth' : T.vm.method? m = some meth := X.method'
  refine ⟨T.setFrames fs, ?_, .returned (some (.int 1)), hrun, hended, rfl, ⟨_, rfl⟩, hW, hframe⟩
  jvm_step X.here [X.here.top, hx, hb, hdg, hmeth', hr, ret, narrow_b1]
  (try refine ⟨rfl, ?_⟩); (try refine ⟨rfl, ?_⟩)
  first | (intro acts; rw [hret _ acts rfl rfl rfl]) | rw [hret _ _ rfl rfl rfl]
  exact Steps.refl _
/-- what holds at the law's entry: the machine, the code, the tables' words (any of lw_tbl by 'hts w (by decide +kernel)'), the script of L ints xs at the cell b, what the Statement gives of the start (any of its parts by flat_of_before) -/
def lw_At (p : Program) (s : State) (m : MethodId) (meth : Method) (c : Code) (b L : Nat) (xs : Nat → Int32) : Prop :=
  p.tables.exec = Jvm.exec ∧ c.code = code ∧ meth.sig.returnType = ret ∧ c.maxLocals = 4 ∧ s.vm.findClass R_law = some m.cls ∧ (∀ w ∈ lw_tbl, w.before #[Value.ref b] s = true) ∧ va_X b L xs s s.heap ∧ b < s.heap.size ∧ meth.locks = false ∧ (Jvm.Cond.and given_1 narrow_1).before #[Value.ref b] s = true
theorem ad_same {w w' : va_W} (h : w.map Prod.fst = w'.map Prod.fst) {j q : Nat} {e : va_E} (hj : w[j]? = some (q, e)) : ∃ e', w'[j]? = some (q, e') := by
  have h1 : (w.map Prod.fst)[j]? = some q := by rw [List.getElem?_map, hj]; rfl
  rw [h, List.getElem?_map] at h1
  cases hw : w'[j]? with
  | none => rw [hw] at h1; cases h1
  | some x => rw [hw] at h1; cases h1; exact ⟨x.2, rfl⟩
theorem D_same {A : Nat → Prop} {w w' : va_W} (h : w.map Prod.fst = w'.map Prod.fst) (hD : va_D A w) : va_D A w' := by
  refine ⟨fun i j x y hi hj hxy => ?_, fun k q hk => ?_⟩
  · obtain ⟨e1, h1⟩ := ad_same (e := x.2) h.symm hi
    obtain ⟨e2, h2⟩ := ad_same (e := y.2) h.symm hj
    exact hD.1 i j _ _ h1 h2 hxy
  · obtain ⟨e1, h1⟩ := ad_same (e := q.2) h.symm hk
    exact hD.2 k (q.1, e1) h1
theorem wm_ad {g : Nat → ClassId} {ad : Nat → Nat} {ν ν' : Mem} {j q : Nat} {e : va_E} (h : (WM g ad ν)[j]? = some (q, e)) : ∃ e', (WM g ad ν')[j]? = some (q, e') := ad_same (w := WM g ad ν) (w' := WM g ad ν') rfl h
theorem lw_more {L k : Nat} (hL : L ≤ 2560) (hk : 5 * k ≤ L) (hc : ¬ Int32.ofNat L - 5 < nI (5 * k)) : 5 * k + 5 ≤ L := by
  have h1 : (Int32.ofNat L - 5).toInt = (L : Int) - 5 := pk_sub_toInt (a := L) (b := 5) (by omega) (by omega)
  rw [Int32.lt_iff_toInt_lt, h1, nI_toInt (by omega)] at hc
  omega
theorem lw_i5 (k : Nat) : nI (5 * k) + Int32.ofInt 5 = nI (5 * (k + 1)) := by
  rw [show Int32.ofInt 5 = nI 5 from by decide, nI_add]
  rfl
theorem lw_z (x : Int32) : x = x + nI 0 := by rw [nI_0]; simp
theorem d_law_0 : decode code 0 = .ok (.new 7, 3) := by decide +kernel
theorem d_law_3 : decode code 3 = .ok (.dup, 1) := by decide +kernel
theorem d_law_4 : decode code 4 = .ok (.invokespecial 9, 3) := by decide +kernel
theorem d_law_7 : decode code 7 = .ok (.astore_n 1, 1) := by decide +kernel
theorem d_law_8 : decode code 8 = .ok (.new 10, 3) := by decide +kernel
theorem d_law_11 : decode code 11 = .ok (.dup, 1) := by decide +kernel
theorem d_law_12 : decode code 12 = .ok (.invokespecial 12, 3) := by decide +kernel
theorem d_law_15 : decode code 15 = .ok (.astore_n 2, 1) := by decide +kernel
theorem d_law_16 : decode code 16 = .ok (.iconst 0, 1) := by decide +kernel
theorem d_law_17 : decode code 17 = .ok (.istore_n 3, 1) := by decide +kernel
theorem d_law_18 : decode code 18 = .ok (.iload_n 3, 1) := by decide +kernel
theorem d_law_19 : decode code 19 = .ok (.aload_n 0, 1) := by decide +kernel
theorem d_law_20 : decode code 20 = .ok (.arraylength, 1) := by decide +kernel
theorem d_law_21 : decode code 21 = .ok (.iconst 5, 1) := by decide +kernel
theorem d_law_22 : decode code 22 = .ok (.isub, 1) := by decide +kernel
theorem d_law_23 : decode code 23 = .ok (.if_icmp .gt 616, 3) := by decide +kernel
theorem d_law_26 : decode code 26 = .ok (.aload_n 0, 1) := by decide +kernel
theorem d_law_27 : decode code 27 = .ok (.iload_n 3, 1) := by decide +kernel
theorem d_law_28 : decode code 28 = .ok (.iaload, 1) := by decide +kernel
theorem d_law_29 : decode code 29 = .ok (.bipush 31, 2) := by decide +kernel
theorem d_law_31 : decode code 31 = .ok (.iand, 1) := by decide +kernel
theorem d_law_32 : decode code 32 = .ok (.tableswitch 601 0 18 #[92, 145, 198, 251, 294, 327, 360, 373, 387, 400, 413, 446, 470, 483, 506, 519, 542, 555, 578], 92) := by decide +kernel
theorem d_law_124 : decode code 124 = .ok (.aload_n 1, 1) := by decide +kernel
theorem d_law_125 : decode code 125 = .ok (.aload_n 0, 1) := by decide +kernel
theorem d_law_126 : decode code 126 = .ok (.iload_n 3, 1) := by decide +kernel
theorem d_law_127 : decode code 127 = .ok (.iconst 1, 1) := by decide +kernel
theorem d_law_128 : decode code 128 = .ok (.iadd, 1) := by decide +kernel
theorem d_law_129 : decode code 129 = .ok (.iaload, 1) := by decide +kernel
theorem d_law_130 : decode code 130 = .ok (.i2l, 1) := by decide +kernel
theorem d_law_131 : decode code 131 = .ok (.bipush 32, 2) := by decide +kernel
theorem d_law_133 : decode code 133 = .ok (.lshl, 1) := by decide +kernel
theorem d_law_134 : decode code 134 = .ok (.aload_n 0, 1) := by decide +kernel
theorem d_law_135 : decode code 135 = .ok (.iload_n 3, 1) := by decide +kernel
theorem d_law_136 : decode code 136 = .ok (.iconst 2, 1) := by decide +kernel
theorem d_law_137 : decode code 137 = .ok (.iadd, 1) := by decide +kernel
theorem d_law_138 : decode code 138 = .ok (.iaload, 1) := by decide +kernel
theorem d_law_139 : decode code 139 = .ok (.i2l, 1) := by decide +kernel
theorem d_law_140 : decode code 140 = .ok (.ldc2_w 13, 3) := by decide +kernel
theorem d_law_143 : decode code 143 = .ok (.land, 1) := by decide +kernel
theorem d_law_144 : decode code 144 = .ok (.lor, 1) := by decide +kernel
theorem d_law_145 : decode code 145 = .ok (.invokevirtual 15, 3) := by decide +kernel
theorem d_law_148 : decode code 148 = .ok (.aload_n 2, 1) := by decide +kernel
theorem d_law_149 : decode code 149 = .ok (.aload_n 0, 1) := by decide +kernel
theorem d_law_150 : decode code 150 = .ok (.iload_n 3, 1) := by decide +kernel
theorem d_law_151 : decode code 151 = .ok (.iconst 1, 1) := by decide +kernel
theorem d_law_152 : decode code 152 = .ok (.iadd, 1) := by decide +kernel
theorem d_law_153 : decode code 153 = .ok (.iaload, 1) := by decide +kernel
theorem d_law_154 : decode code 154 = .ok (.i2l, 1) := by decide +kernel
theorem d_law_155 : decode code 155 = .ok (.bipush 32, 2) := by decide +kernel
theorem d_law_157 : decode code 157 = .ok (.lshl, 1) := by decide +kernel
theorem d_law_158 : decode code 158 = .ok (.aload_n 0, 1) := by decide +kernel
theorem d_law_159 : decode code 159 = .ok (.iload_n 3, 1) := by decide +kernel
theorem d_law_160 : decode code 160 = .ok (.iconst 2, 1) := by decide +kernel
theorem d_law_161 : decode code 161 = .ok (.iadd, 1) := by decide +kernel
theorem d_law_162 : decode code 162 = .ok (.iaload, 1) := by decide +kernel
theorem d_law_163 : decode code 163 = .ok (.i2l, 1) := by decide +kernel
theorem d_law_164 : decode code 164 = .ok (.ldc2_w 13, 3) := by decide +kernel
theorem d_law_167 : decode code 167 = .ok (.land, 1) := by decide +kernel
theorem d_law_168 : decode code 168 = .ok (.lor, 1) := by decide +kernel
theorem d_law_169 : decode code 169 = .ok (.invokevirtual 19, 3) := by decide +kernel
theorem d_law_172 : decode code 172 = .ok (.if_icmp .eq 461, 3) := by decide +kernel
theorem d_law_175 : decode code 175 = .ok (.iconst 0, 1) := by decide +kernel
theorem d_law_176 : decode code 176 = .ok (.ireturn, 1) := by decide +kernel
theorem d_law_177 : decode code 177 = .ok (.aload_n 1, 1) := by decide +kernel
theorem d_law_178 : decode code 178 = .ok (.aload_n 0, 1) := by decide +kernel
theorem d_law_179 : decode code 179 = .ok (.iload_n 3, 1) := by decide +kernel
theorem d_law_180 : decode code 180 = .ok (.iconst 1, 1) := by decide +kernel
theorem d_law_181 : decode code 181 = .ok (.iadd, 1) := by decide +kernel
theorem d_law_182 : decode code 182 = .ok (.iaload, 1) := by decide +kernel
theorem d_law_183 : decode code 183 = .ok (.aload_n 0, 1) := by decide +kernel
theorem d_law_184 : decode code 184 = .ok (.iload_n 3, 1) := by decide +kernel
theorem d_law_185 : decode code 185 = .ok (.iconst 2, 1) := by decide +kernel
theorem d_law_186 : decode code 186 = .ok (.iadd, 1) := by decide +kernel
theorem d_law_187 : decode code 187 = .ok (.iaload, 1) := by decide +kernel
theorem d_law_188 : decode code 188 = .ok (.aload_n 0, 1) := by decide +kernel
theorem d_law_189 : decode code 189 = .ok (.iload_n 3, 1) := by decide +kernel
theorem d_law_190 : decode code 190 = .ok (.iconst 3, 1) := by decide +kernel
theorem d_law_191 : decode code 191 = .ok (.iadd, 1) := by decide +kernel
theorem d_law_192 : decode code 192 = .ok (.iaload, 1) := by decide +kernel
theorem d_law_193 : decode code 193 = .ok (.aload_n 0, 1) := by decide +kernel
theorem d_law_194 : decode code 194 = .ok (.iload_n 3, 1) := by decide +kernel
theorem d_law_195 : decode code 195 = .ok (.iconst 4, 1) := by decide +kernel
theorem d_law_196 : decode code 196 = .ok (.iadd, 1) := by decide +kernel
theorem d_law_197 : decode code 197 = .ok (.iaload, 1) := by decide +kernel
theorem d_law_198 : decode code 198 = .ok (.invokevirtual 20, 3) := by decide +kernel
theorem d_law_201 : decode code 201 = .ok (.aload_n 2, 1) := by decide +kernel
theorem d_law_202 : decode code 202 = .ok (.aload_n 0, 1) := by decide +kernel
theorem d_law_203 : decode code 203 = .ok (.iload_n 3, 1) := by decide +kernel
theorem d_law_204 : decode code 204 = .ok (.iconst 1, 1) := by decide +kernel
theorem d_law_205 : decode code 205 = .ok (.iadd, 1) := by decide +kernel
theorem d_law_206 : decode code 206 = .ok (.iaload, 1) := by decide +kernel
theorem d_law_207 : decode code 207 = .ok (.aload_n 0, 1) := by decide +kernel
theorem d_law_208 : decode code 208 = .ok (.iload_n 3, 1) := by decide +kernel
theorem d_law_209 : decode code 209 = .ok (.iconst 2, 1) := by decide +kernel
theorem d_law_210 : decode code 210 = .ok (.iadd, 1) := by decide +kernel
theorem d_law_211 : decode code 211 = .ok (.iaload, 1) := by decide +kernel
theorem d_law_212 : decode code 212 = .ok (.aload_n 0, 1) := by decide +kernel
theorem d_law_213 : decode code 213 = .ok (.iload_n 3, 1) := by decide +kernel
theorem d_law_214 : decode code 214 = .ok (.iconst 3, 1) := by decide +kernel
theorem d_law_215 : decode code 215 = .ok (.iadd, 1) := by decide +kernel
theorem d_law_216 : decode code 216 = .ok (.iaload, 1) := by decide +kernel
theorem d_law_217 : decode code 217 = .ok (.aload_n 0, 1) := by decide +kernel
theorem d_law_218 : decode code 218 = .ok (.iload_n 3, 1) := by decide +kernel
theorem d_law_219 : decode code 219 = .ok (.iconst 4, 1) := by decide +kernel
theorem d_law_220 : decode code 220 = .ok (.iadd, 1) := by decide +kernel
theorem d_law_221 : decode code 221 = .ok (.iaload, 1) := by decide +kernel
theorem d_law_222 : decode code 222 = .ok (.invokevirtual 24, 3) := by decide +kernel
theorem d_law_225 : decode code 225 = .ok (.if_icmp .eq 408, 3) := by decide +kernel
theorem d_law_228 : decode code 228 = .ok (.iconst 0, 1) := by decide +kernel
theorem d_law_229 : decode code 229 = .ok (.ireturn, 1) := by decide +kernel
theorem d_law_230 : decode code 230 = .ok (.aload_n 1, 1) := by decide +kernel
theorem d_law_231 : decode code 231 = .ok (.aload_n 0, 1) := by decide +kernel
theorem d_law_232 : decode code 232 = .ok (.iload_n 3, 1) := by decide +kernel
theorem d_law_233 : decode code 233 = .ok (.iconst 1, 1) := by decide +kernel
theorem d_law_234 : decode code 234 = .ok (.iadd, 1) := by decide +kernel
theorem d_law_235 : decode code 235 = .ok (.iaload, 1) := by decide +kernel
theorem d_law_236 : decode code 236 = .ok (.aload_n 0, 1) := by decide +kernel
theorem d_law_237 : decode code 237 = .ok (.iload_n 3, 1) := by decide +kernel
theorem d_law_238 : decode code 238 = .ok (.iconst 2, 1) := by decide +kernel
theorem d_law_239 : decode code 239 = .ok (.iadd, 1) := by decide +kernel
theorem d_law_240 : decode code 240 = .ok (.iaload, 1) := by decide +kernel
theorem d_law_241 : decode code 241 = .ok (.aload_n 0, 1) := by decide +kernel
theorem d_law_242 : decode code 242 = .ok (.iload_n 3, 1) := by decide +kernel
theorem d_law_243 : decode code 243 = .ok (.iconst 3, 1) := by decide +kernel
theorem d_law_244 : decode code 244 = .ok (.iadd, 1) := by decide +kernel
theorem d_law_245 : decode code 245 = .ok (.iaload, 1) := by decide +kernel
theorem d_law_246 : decode code 246 = .ok (.aload_n 0, 1) := by decide +kernel
theorem d_law_247 : decode code 247 = .ok (.iload_n 3, 1) := by decide +kernel
theorem d_law_248 : decode code 248 = .ok (.iconst 4, 1) := by decide +kernel
theorem d_law_249 : decode code 249 = .ok (.iadd, 1) := by decide +kernel
theorem d_law_250 : decode code 250 = .ok (.iaload, 1) := by decide +kernel
theorem d_law_251 : decode code 251 = .ok (.invokevirtual 25, 3) := by decide +kernel
theorem d_law_254 : decode code 254 = .ok (.aload_n 2, 1) := by decide +kernel
theorem d_law_255 : decode code 255 = .ok (.aload_n 0, 1) := by decide +kernel
theorem d_law_256 : decode code 256 = .ok (.iload_n 3, 1) := by decide +kernel
theorem d_law_257 : decode code 257 = .ok (.iconst 1, 1) := by decide +kernel
theorem d_law_258 : decode code 258 = .ok (.iadd, 1) := by decide +kernel
theorem d_law_259 : decode code 259 = .ok (.iaload, 1) := by decide +kernel
theorem d_law_260 : decode code 260 = .ok (.aload_n 0, 1) := by decide +kernel
theorem d_law_261 : decode code 261 = .ok (.iload_n 3, 1) := by decide +kernel
theorem d_law_262 : decode code 262 = .ok (.iconst 2, 1) := by decide +kernel
theorem d_law_263 : decode code 263 = .ok (.iadd, 1) := by decide +kernel
theorem d_law_264 : decode code 264 = .ok (.iaload, 1) := by decide +kernel
theorem d_law_265 : decode code 265 = .ok (.aload_n 0, 1) := by decide +kernel
theorem d_law_266 : decode code 266 = .ok (.iload_n 3, 1) := by decide +kernel
theorem d_law_267 : decode code 267 = .ok (.iconst 3, 1) := by decide +kernel
theorem d_law_268 : decode code 268 = .ok (.iadd, 1) := by decide +kernel
theorem d_law_269 : decode code 269 = .ok (.iaload, 1) := by decide +kernel
theorem d_law_270 : decode code 270 = .ok (.aload_n 0, 1) := by decide +kernel
theorem d_law_271 : decode code 271 = .ok (.iload_n 3, 1) := by decide +kernel
theorem d_law_272 : decode code 272 = .ok (.iconst 4, 1) := by decide +kernel
theorem d_law_273 : decode code 273 = .ok (.iadd, 1) := by decide +kernel
theorem d_law_274 : decode code 274 = .ok (.iaload, 1) := by decide +kernel
theorem d_law_275 : decode code 275 = .ok (.invokevirtual 29, 3) := by decide +kernel
theorem d_law_278 : decode code 278 = .ok (.if_icmp .eq 355, 3) := by decide +kernel
theorem d_law_281 : decode code 281 = .ok (.iconst 0, 1) := by decide +kernel
theorem d_law_282 : decode code 282 = .ok (.ireturn, 1) := by decide +kernel
theorem d_law_283 : decode code 283 = .ok (.aload_n 1, 1) := by decide +kernel
theorem d_law_284 : decode code 284 = .ok (.aload_n 0, 1) := by decide +kernel
theorem d_law_285 : decode code 285 = .ok (.iload_n 3, 1) := by decide +kernel
theorem d_law_286 : decode code 286 = .ok (.iconst 1, 1) := by decide +kernel
theorem d_law_287 : decode code 287 = .ok (.iadd, 1) := by decide +kernel
theorem d_law_288 : decode code 288 = .ok (.iaload, 1) := by decide +kernel
theorem d_law_289 : decode code 289 = .ok (.aload_n 0, 1) := by decide +kernel
theorem d_law_290 : decode code 290 = .ok (.iload_n 3, 1) := by decide +kernel
theorem d_law_291 : decode code 291 = .ok (.iconst 2, 1) := by decide +kernel
theorem d_law_292 : decode code 292 = .ok (.iadd, 1) := by decide +kernel
theorem d_law_293 : decode code 293 = .ok (.iaload, 1) := by decide +kernel
theorem d_law_294 : decode code 294 = .ok (.aload_n 0, 1) := by decide +kernel
theorem d_law_295 : decode code 295 = .ok (.iload_n 3, 1) := by decide +kernel
theorem d_law_296 : decode code 296 = .ok (.iconst 3, 1) := by decide +kernel
theorem d_law_297 : decode code 297 = .ok (.iadd, 1) := by decide +kernel
theorem d_law_298 : decode code 298 = .ok (.iaload, 1) := by decide +kernel
theorem d_law_299 : decode code 299 = .ok (.invokevirtual 30, 3) := by decide +kernel
theorem d_law_302 : decode code 302 = .ok (.aload_n 2, 1) := by decide +kernel
theorem d_law_303 : decode code 303 = .ok (.aload_n 0, 1) := by decide +kernel
theorem d_law_304 : decode code 304 = .ok (.iload_n 3, 1) := by decide +kernel
theorem d_law_305 : decode code 305 = .ok (.iconst 1, 1) := by decide +kernel
theorem d_law_306 : decode code 306 = .ok (.iadd, 1) := by decide +kernel
theorem d_law_307 : decode code 307 = .ok (.iaload, 1) := by decide +kernel
theorem d_law_308 : decode code 308 = .ok (.aload_n 0, 1) := by decide +kernel
theorem d_law_309 : decode code 309 = .ok (.iload_n 3, 1) := by decide +kernel
theorem d_law_310 : decode code 310 = .ok (.iconst 2, 1) := by decide +kernel
theorem d_law_311 : decode code 311 = .ok (.iadd, 1) := by decide +kernel
theorem d_law_312 : decode code 312 = .ok (.iaload, 1) := by decide +kernel
theorem d_law_313 : decode code 313 = .ok (.aload_n 0, 1) := by decide +kernel
theorem d_law_314 : decode code 314 = .ok (.iload_n 3, 1) := by decide +kernel
theorem d_law_315 : decode code 315 = .ok (.iconst 3, 1) := by decide +kernel
theorem d_law_316 : decode code 316 = .ok (.iadd, 1) := by decide +kernel
theorem d_law_317 : decode code 317 = .ok (.iaload, 1) := by decide +kernel
theorem d_law_318 : decode code 318 = .ok (.invokevirtual 34, 3) := by decide +kernel
theorem d_law_321 : decode code 321 = .ok (.if_icmp .eq 312, 3) := by decide +kernel
theorem d_law_324 : decode code 324 = .ok (.iconst 0, 1) := by decide +kernel
theorem d_law_325 : decode code 325 = .ok (.ireturn, 1) := by decide +kernel
theorem d_law_326 : decode code 326 = .ok (.aload_n 1, 1) := by decide +kernel
theorem d_law_327 : decode code 327 = .ok (.aload_n 0, 1) := by decide +kernel
theorem d_law_328 : decode code 328 = .ok (.iload_n 3, 1) := by decide +kernel
theorem d_law_329 : decode code 329 = .ok (.iconst 1, 1) := by decide +kernel
theorem d_law_330 : decode code 330 = .ok (.iadd, 1) := by decide +kernel
theorem d_law_331 : decode code 331 = .ok (.iaload, 1) := by decide +kernel
theorem d_law_332 : decode code 332 = .ok (.aload_n 0, 1) := by decide +kernel
theorem d_law_333 : decode code 333 = .ok (.iload_n 3, 1) := by decide +kernel
theorem d_law_334 : decode code 334 = .ok (.iconst 2, 1) := by decide +kernel
theorem d_law_335 : decode code 335 = .ok (.iadd, 1) := by decide +kernel
theorem d_law_336 : decode code 336 = .ok (.iaload, 1) := by decide +kernel
theorem d_law_337 : decode code 337 = .ok (.invokevirtual 35, 3) := by decide +kernel
theorem d_law_340 : decode code 340 = .ok (.aload_n 2, 1) := by decide +kernel
theorem d_law_341 : decode code 341 = .ok (.aload_n 0, 1) := by decide +kernel
theorem d_law_342 : decode code 342 = .ok (.iload_n 3, 1) := by decide +kernel
theorem d_law_343 : decode code 343 = .ok (.iconst 1, 1) := by decide +kernel
theorem d_law_344 : decode code 344 = .ok (.iadd, 1) := by decide +kernel
theorem d_law_345 : decode code 345 = .ok (.iaload, 1) := by decide +kernel
theorem d_law_346 : decode code 346 = .ok (.aload_n 0, 1) := by decide +kernel
theorem d_law_347 : decode code 347 = .ok (.iload_n 3, 1) := by decide +kernel
theorem d_law_348 : decode code 348 = .ok (.iconst 2, 1) := by decide +kernel
theorem d_law_349 : decode code 349 = .ok (.iadd, 1) := by decide +kernel
theorem d_law_350 : decode code 350 = .ok (.iaload, 1) := by decide +kernel
theorem d_law_351 : decode code 351 = .ok (.invokevirtual 39, 3) := by decide +kernel
theorem d_law_354 : decode code 354 = .ok (.if_icmp .eq 279, 3) := by decide +kernel
theorem d_law_357 : decode code 357 = .ok (.iconst 0, 1) := by decide +kernel
theorem d_law_358 : decode code 358 = .ok (.ireturn, 1) := by decide +kernel
theorem d_law_359 : decode code 359 = .ok (.aload_n 1, 1) := by decide +kernel
theorem d_law_360 : decode code 360 = .ok (.aload_n 0, 1) := by decide +kernel
theorem d_law_361 : decode code 361 = .ok (.iload_n 3, 1) := by decide +kernel
theorem d_law_362 : decode code 362 = .ok (.iconst 1, 1) := by decide +kernel
theorem d_law_363 : decode code 363 = .ok (.iadd, 1) := by decide +kernel
theorem d_law_364 : decode code 364 = .ok (.iaload, 1) := by decide +kernel
theorem d_law_365 : decode code 365 = .ok (.aload_n 0, 1) := by decide +kernel
theorem d_law_366 : decode code 366 = .ok (.iload_n 3, 1) := by decide +kernel
theorem d_law_367 : decode code 367 = .ok (.iconst 2, 1) := by decide +kernel
theorem d_law_368 : decode code 368 = .ok (.iadd, 1) := by decide +kernel
theorem d_law_369 : decode code 369 = .ok (.iaload, 1) := by decide +kernel
theorem d_law_370 : decode code 370 = .ok (.invokevirtual 40, 3) := by decide +kernel
theorem d_law_373 : decode code 373 = .ok (.aload_n 2, 1) := by decide +kernel
theorem d_law_374 : decode code 374 = .ok (.aload_n 0, 1) := by decide +kernel
theorem d_law_375 : decode code 375 = .ok (.iload_n 3, 1) := by decide +kernel
theorem d_law_376 : decode code 376 = .ok (.iconst 1, 1) := by decide +kernel
theorem d_law_377 : decode code 377 = .ok (.iadd, 1) := by decide +kernel
theorem d_law_378 : decode code 378 = .ok (.iaload, 1) := by decide +kernel
theorem d_law_379 : decode code 379 = .ok (.aload_n 0, 1) := by decide +kernel
theorem d_law_380 : decode code 380 = .ok (.iload_n 3, 1) := by decide +kernel
theorem d_law_381 : decode code 381 = .ok (.iconst 2, 1) := by decide +kernel
theorem d_law_382 : decode code 382 = .ok (.iadd, 1) := by decide +kernel
theorem d_law_383 : decode code 383 = .ok (.iaload, 1) := by decide +kernel
theorem d_law_384 : decode code 384 = .ok (.invokevirtual 43, 3) := by decide +kernel
theorem d_law_387 : decode code 387 = .ok (.if_icmp .eq 246, 3) := by decide +kernel
theorem d_law_390 : decode code 390 = .ok (.iconst 0, 1) := by decide +kernel
theorem d_law_391 : decode code 391 = .ok (.ireturn, 1) := by decide +kernel
theorem d_law_392 : decode code 392 = .ok (.aload_n 1, 1) := by decide +kernel
theorem d_law_393 : decode code 393 = .ok (.invokevirtual 44, 3) := by decide +kernel
theorem d_law_396 : decode code 396 = .ok (.aload_n 2, 1) := by decide +kernel
theorem d_law_397 : decode code 397 = .ok (.invokevirtual 48, 3) := by decide +kernel
theorem d_law_400 : decode code 400 = .ok (.if_icmp .eq 233, 3) := by decide +kernel
theorem d_law_403 : decode code 403 = .ok (.iconst 0, 1) := by decide +kernel
theorem d_law_404 : decode code 404 = .ok (.ireturn, 1) := by decide +kernel
theorem d_law_405 : decode code 405 = .ok (.aload_n 1, 1) := by decide +kernel
theorem d_law_406 : decode code 406 = .ok (.invokevirtual 49, 3) := by decide +kernel
theorem d_law_409 : decode code 409 = .ok (.aload_n 2, 1) := by decide +kernel
theorem d_law_410 : decode code 410 = .ok (.invokevirtual 53, 3) := by decide +kernel
theorem d_law_413 : decode code 413 = .ok (.lcmp, 1) := by decide +kernel
theorem d_law_414 : decode code 414 = .ok (.ifCond .eq 219, 3) := by decide +kernel
theorem d_law_417 : decode code 417 = .ok (.iconst 0, 1) := by decide +kernel
theorem d_law_418 : decode code 418 = .ok (.ireturn, 1) := by decide +kernel
theorem d_law_419 : decode code 419 = .ok (.aload_n 1, 1) := by decide +kernel
theorem d_law_420 : decode code 420 = .ok (.invokevirtual 54, 3) := by decide +kernel
theorem d_law_423 : decode code 423 = .ok (.aload_n 2, 1) := by decide +kernel
theorem d_law_424 : decode code 424 = .ok (.invokevirtual 57, 3) := by decide +kernel
theorem d_law_427 : decode code 427 = .ok (.if_icmp .eq 206, 3) := by decide +kernel
theorem d_law_430 : decode code 430 = .ok (.iconst 0, 1) := by decide +kernel
theorem d_law_431 : decode code 431 = .ok (.ireturn, 1) := by decide +kernel
theorem d_law_432 : decode code 432 = .ok (.aload_n 1, 1) := by decide +kernel
theorem d_law_433 : decode code 433 = .ok (.invokevirtual 58, 3) := by decide +kernel
theorem d_law_436 : decode code 436 = .ok (.aload_n 2, 1) := by decide +kernel
theorem d_law_437 : decode code 437 = .ok (.invokevirtual 61, 3) := by decide +kernel
theorem d_law_440 : decode code 440 = .ok (.if_icmp .eq 193, 3) := by decide +kernel
theorem d_law_443 : decode code 443 = .ok (.iconst 0, 1) := by decide +kernel
theorem d_law_444 : decode code 444 = .ok (.ireturn, 1) := by decide +kernel
theorem d_law_445 : decode code 445 = .ok (.aload_n 1, 1) := by decide +kernel
theorem d_law_446 : decode code 446 = .ok (.aload_n 0, 1) := by decide +kernel
theorem d_law_447 : decode code 447 = .ok (.iload_n 3, 1) := by decide +kernel
theorem d_law_448 : decode code 448 = .ok (.iconst 1, 1) := by decide +kernel
theorem d_law_449 : decode code 449 = .ok (.iadd, 1) := by decide +kernel
theorem d_law_450 : decode code 450 = .ok (.iaload, 1) := by decide +kernel
theorem d_law_451 : decode code 451 = .ok (.aload_n 0, 1) := by decide +kernel
theorem d_law_452 : decode code 452 = .ok (.iload_n 3, 1) := by decide +kernel
theorem d_law_453 : decode code 453 = .ok (.iconst 2, 1) := by decide +kernel
theorem d_law_454 : decode code 454 = .ok (.iadd, 1) := by decide +kernel
theorem d_law_455 : decode code 455 = .ok (.iaload, 1) := by decide +kernel
theorem d_law_456 : decode code 456 = .ok (.invokevirtual 62, 3) := by decide +kernel
theorem d_law_459 : decode code 459 = .ok (.aload_n 2, 1) := by decide +kernel
theorem d_law_460 : decode code 460 = .ok (.aload_n 0, 1) := by decide +kernel
theorem d_law_461 : decode code 461 = .ok (.iload_n 3, 1) := by decide +kernel
theorem d_law_462 : decode code 462 = .ok (.iconst 1, 1) := by decide +kernel
theorem d_law_463 : decode code 463 = .ok (.iadd, 1) := by decide +kernel
theorem d_law_464 : decode code 464 = .ok (.iaload, 1) := by decide +kernel
theorem d_law_465 : decode code 465 = .ok (.aload_n 0, 1) := by decide +kernel
theorem d_law_466 : decode code 466 = .ok (.iload_n 3, 1) := by decide +kernel
theorem d_law_467 : decode code 467 = .ok (.iconst 2, 1) := by decide +kernel
theorem d_law_468 : decode code 468 = .ok (.iadd, 1) := by decide +kernel
theorem d_law_469 : decode code 469 = .ok (.iaload, 1) := by decide +kernel
theorem d_law_470 : decode code 470 = .ok (.invokevirtual 66, 3) := by decide +kernel
theorem d_law_473 : decode code 473 = .ok (.if_icmp .eq 160, 3) := by decide +kernel
theorem d_law_476 : decode code 476 = .ok (.iconst 0, 1) := by decide +kernel
theorem d_law_477 : decode code 477 = .ok (.ireturn, 1) := by decide +kernel
theorem d_law_478 : decode code 478 = .ok (.aload_n 1, 1) := by decide +kernel
theorem d_law_479 : decode code 479 = .ok (.aload_n 0, 1) := by decide +kernel
theorem d_law_480 : decode code 480 = .ok (.iload_n 3, 1) := by decide +kernel
theorem d_law_481 : decode code 481 = .ok (.iconst 1, 1) := by decide +kernel
theorem d_law_482 : decode code 482 = .ok (.iadd, 1) := by decide +kernel
theorem d_law_483 : decode code 483 = .ok (.iaload, 1) := by decide +kernel
theorem d_law_484 : decode code 484 = .ok (.invokevirtual 67, 3) := by decide +kernel
theorem d_law_487 : decode code 487 = .ok (.aload_n 2, 1) := by decide +kernel
theorem d_law_488 : decode code 488 = .ok (.aload_n 0, 1) := by decide +kernel
theorem d_law_489 : decode code 489 = .ok (.iload_n 3, 1) := by decide +kernel
theorem d_law_490 : decode code 490 = .ok (.iconst 1, 1) := by decide +kernel
theorem d_law_491 : decode code 491 = .ok (.iadd, 1) := by decide +kernel
theorem d_law_492 : decode code 492 = .ok (.iaload, 1) := by decide +kernel
theorem d_law_493 : decode code 493 = .ok (.invokevirtual 71, 3) := by decide +kernel
theorem d_law_496 : decode code 496 = .ok (.lcmp, 1) := by decide +kernel
theorem d_law_497 : decode code 497 = .ok (.ifCond .eq 136, 3) := by decide +kernel
theorem d_law_500 : decode code 500 = .ok (.iconst 0, 1) := by decide +kernel
theorem d_law_501 : decode code 501 = .ok (.ireturn, 1) := by decide +kernel
theorem d_law_502 : decode code 502 = .ok (.aload_n 1, 1) := by decide +kernel
theorem d_law_503 : decode code 503 = .ok (.invokevirtual 72, 3) := by decide +kernel
theorem d_law_506 : decode code 506 = .ok (.aload_n 2, 1) := by decide +kernel
theorem d_law_507 : decode code 507 = .ok (.invokevirtual 75, 3) := by decide +kernel
theorem d_law_510 : decode code 510 = .ok (.if_icmp .eq 123, 3) := by decide +kernel
theorem d_law_513 : decode code 513 = .ok (.iconst 0, 1) := by decide +kernel
theorem d_law_514 : decode code 514 = .ok (.ireturn, 1) := by decide +kernel
theorem d_law_515 : decode code 515 = .ok (.aload_n 1, 1) := by decide +kernel
theorem d_law_516 : decode code 516 = .ok (.aload_n 0, 1) := by decide +kernel
theorem d_law_517 : decode code 517 = .ok (.iload_n 3, 1) := by decide +kernel
theorem d_law_518 : decode code 518 = .ok (.iconst 1, 1) := by decide +kernel
theorem d_law_519 : decode code 519 = .ok (.iadd, 1) := by decide +kernel
theorem d_law_520 : decode code 520 = .ok (.iaload, 1) := by decide +kernel
theorem d_law_521 : decode code 521 = .ok (.invokevirtual 76, 3) := by decide +kernel
theorem d_law_524 : decode code 524 = .ok (.aload_n 2, 1) := by decide +kernel
theorem d_law_525 : decode code 525 = .ok (.aload_n 0, 1) := by decide +kernel
theorem d_law_526 : decode code 526 = .ok (.iload_n 3, 1) := by decide +kernel
theorem d_law_527 : decode code 527 = .ok (.iconst 1, 1) := by decide +kernel
theorem d_law_528 : decode code 528 = .ok (.iadd, 1) := by decide +kernel
theorem d_law_529 : decode code 529 = .ok (.iaload, 1) := by decide +kernel
theorem d_law_530 : decode code 530 = .ok (.invokevirtual 80, 3) := by decide +kernel
theorem d_law_533 : decode code 533 = .ok (.if_icmp .eq 100, 3) := by decide +kernel
theorem d_law_536 : decode code 536 = .ok (.iconst 0, 1) := by decide +kernel
theorem d_law_537 : decode code 537 = .ok (.ireturn, 1) := by decide +kernel
theorem d_law_538 : decode code 538 = .ok (.aload_n 1, 1) := by decide +kernel
theorem d_law_539 : decode code 539 = .ok (.invokevirtual 81, 3) := by decide +kernel
theorem d_law_542 : decode code 542 = .ok (.aload_n 2, 1) := by decide +kernel
theorem d_law_543 : decode code 543 = .ok (.invokevirtual 84, 3) := by decide +kernel
theorem d_law_546 : decode code 546 = .ok (.if_icmp .eq 87, 3) := by decide +kernel
theorem d_law_549 : decode code 549 = .ok (.iconst 0, 1) := by decide +kernel
theorem d_law_550 : decode code 550 = .ok (.ireturn, 1) := by decide +kernel
theorem d_law_551 : decode code 551 = .ok (.aload_n 1, 1) := by decide +kernel
theorem d_law_552 : decode code 552 = .ok (.aload_n 0, 1) := by decide +kernel
theorem d_law_553 : decode code 553 = .ok (.iload_n 3, 1) := by decide +kernel
theorem d_law_554 : decode code 554 = .ok (.iconst 1, 1) := by decide +kernel
theorem d_law_555 : decode code 555 = .ok (.iadd, 1) := by decide +kernel
theorem d_law_556 : decode code 556 = .ok (.iaload, 1) := by decide +kernel
theorem d_law_557 : decode code 557 = .ok (.invokevirtual 85, 3) := by decide +kernel
theorem d_law_560 : decode code 560 = .ok (.aload_n 2, 1) := by decide +kernel
theorem d_law_561 : decode code 561 = .ok (.aload_n 0, 1) := by decide +kernel
theorem d_law_562 : decode code 562 = .ok (.iload_n 3, 1) := by decide +kernel
theorem d_law_563 : decode code 563 = .ok (.iconst 1, 1) := by decide +kernel
theorem d_law_564 : decode code 564 = .ok (.iadd, 1) := by decide +kernel
theorem d_law_565 : decode code 565 = .ok (.iaload, 1) := by decide +kernel
theorem d_law_566 : decode code 566 = .ok (.invokevirtual 89, 3) := by decide +kernel
theorem d_law_569 : decode code 569 = .ok (.if_icmp .eq 64, 3) := by decide +kernel
theorem d_law_572 : decode code 572 = .ok (.iconst 0, 1) := by decide +kernel
theorem d_law_573 : decode code 573 = .ok (.ireturn, 1) := by decide +kernel
theorem d_law_574 : decode code 574 = .ok (.aload_n 1, 1) := by decide +kernel
theorem d_law_575 : decode code 575 = .ok (.invokevirtual 90, 3) := by decide +kernel
theorem d_law_578 : decode code 578 = .ok (.aload_n 2, 1) := by decide +kernel
theorem d_law_579 : decode code 579 = .ok (.invokevirtual 93, 3) := by decide +kernel
theorem d_law_582 : decode code 582 = .ok (.if_icmp .eq 51, 3) := by decide +kernel
theorem d_law_585 : decode code 585 = .ok (.iconst 0, 1) := by decide +kernel
theorem d_law_586 : decode code 586 = .ok (.ireturn, 1) := by decide +kernel
theorem d_law_587 : decode code 587 = .ok (.aload_n 1, 1) := by decide +kernel
theorem d_law_588 : decode code 588 = .ok (.aload_n 0, 1) := by decide +kernel
theorem d_law_589 : decode code 589 = .ok (.iload_n 3, 1) := by decide +kernel
theorem d_law_590 : decode code 590 = .ok (.iconst 1, 1) := by decide +kernel
theorem d_law_591 : decode code 591 = .ok (.iadd, 1) := by decide +kernel
theorem d_law_592 : decode code 592 = .ok (.iaload, 1) := by decide +kernel
theorem d_law_593 : decode code 593 = .ok (.invokevirtual 94, 3) := by decide +kernel
theorem d_law_596 : decode code 596 = .ok (.aload_n 2, 1) := by decide +kernel
theorem d_law_597 : decode code 597 = .ok (.aload_n 0, 1) := by decide +kernel
theorem d_law_598 : decode code 598 = .ok (.iload_n 3, 1) := by decide +kernel
theorem d_law_599 : decode code 599 = .ok (.iconst 1, 1) := by decide +kernel
theorem d_law_600 : decode code 600 = .ok (.iadd, 1) := by decide +kernel
theorem d_law_601 : decode code 601 = .ok (.iaload, 1) := by decide +kernel
theorem d_law_602 : decode code 602 = .ok (.invokevirtual 97, 3) := by decide +kernel
theorem d_law_605 : decode code 605 = .ok (.if_icmp .eq 28, 3) := by decide +kernel
theorem d_law_608 : decode code 608 = .ok (.iconst 0, 1) := by decide +kernel
theorem d_law_609 : decode code 609 = .ok (.ireturn, 1) := by decide +kernel
theorem d_law_610 : decode code 610 = .ok (.aload_n 1, 1) := by decide +kernel
theorem d_law_611 : decode code 611 = .ok (.aload_n 0, 1) := by decide +kernel
theorem d_law_612 : decode code 612 = .ok (.iload_n 3, 1) := by decide +kernel
theorem d_law_613 : decode code 613 = .ok (.iconst 1, 1) := by decide +kernel
theorem d_law_614 : decode code 614 = .ok (.iadd, 1) := by decide +kernel
theorem d_law_615 : decode code 615 = .ok (.iaload, 1) := by decide +kernel
theorem d_law_616 : decode code 616 = .ok (.invokevirtual 98, 3) := by decide +kernel
theorem d_law_619 : decode code 619 = .ok (.aload_n 2, 1) := by decide +kernel
theorem d_law_620 : decode code 620 = .ok (.aload_n 0, 1) := by decide +kernel
theorem d_law_621 : decode code 621 = .ok (.iload_n 3, 1) := by decide +kernel
theorem d_law_622 : decode code 622 = .ok (.iconst 1, 1) := by decide +kernel
theorem d_law_623 : decode code 623 = .ok (.iadd, 1) := by decide +kernel
theorem d_law_624 : decode code 624 = .ok (.iaload, 1) := by decide +kernel
theorem d_law_625 : decode code 625 = .ok (.invokevirtual 101, 3) := by decide +kernel
theorem d_law_628 : decode code 628 = .ok (.if_icmp .eq 5, 3) := by decide +kernel
theorem d_law_631 : decode code 631 = .ok (.iconst 0, 1) := by decide +kernel
theorem d_law_632 : decode code 632 = .ok (.ireturn, 1) := by decide +kernel
theorem d_law_633 : decode code 633 = .ok (.iinc 3 5, 3) := by decide +kernel
theorem d_law_636 : decode code 636 = .ok (.goto (-618), 3) := by decide +kernel
theorem d_law_639 : decode code 639 = .ok (.iconst 1, 1) := by decide +kernel
theorem d_law_640 : decode code 640 = .ok (.ireturn, 1) := by decide +kernel
theorem lg_self (x : Int64) : lg_cmp x x = 0 := by
  unfold lg_cmp
  rw [if_neg (fun h => lg_lt_ne h rfl), if_pos rfl]
abbrev A0 (s : State) : Nat → Prop := fun q => s.heap.size ≤ q
/-- the two systems, side by side -/
def LI (D : va_G) (g : Nat → ClassId) (ad ad2 : Nat → Nat) (Ax Am : Nat → Prop) (s : State) (H : Heap) (locs : List Loc) (dr : Nat → Option Nat) (pl : va_W) (μ : Mem) (δ : Dx) (ν : Mem) : Prop :=
  va_P D CL (WX g ad dr pl μ) H ∧ va_P D CL (WM g ad2 ν) H ∧ (∀ μ : Mem, va_D Ax (WX g ad dr pl μ)) ∧ (∀ ν : Mem, va_D Am (WM g ad2 ν)) ∧ DocOK g dr pl δ ∧ (∀ q, Ax q → s.heap.size ≤ q) ∧ (∀ q, Am q → s.heap.size ≤ q ∧ ¬ Ax q ∧ ∃ (k : Nat) (e : va_E), (WM g ad2 ν)[k]? = some (q, e)) ∧ va_S (A0 s) s.heap H locs
/-- what add() is owed: the draft's terms come as one more document, or nothing changes -/
def AP (D : va_G) (g : Nat → ClassId) (w : va_W) (sz : Nat) (av : List Value) : Array Value → State → Prop := va_Pc av (fun U => U.heap.size = sz ∧ va_P D CL w U.heap ∧ va_K D CL (TY g) U ∧ AO U)
theorem AP_blind {D : va_G} {g : Nat → ClassId} {w : va_W} {sz : Nat} {av : List Value} : FrameBlind (AP D g w sz av) := by
  intro a U g mk h
  obtain ⟨h1, h0, h2, h3, h4⟩ := h
  exact ⟨h1, h0, h2, va_K.moved (u := U) (U := U.calling g mk a) (Vm.Alike.refl U.vm) h3, va_AO.moved (u := U) (U := U.calling g mk a) (Vm.Alike.refl U.vm) h4⟩
def AQ (D : va_G) (g : Nat → ClassId) (ad : Nat → Nat) (Ax : Nat → Prop) (sz : Nat) (r : Int32) (μ' : Mem) (δ' : Dx) : Array Value → State → Outcome → State → Prop := fun _ st o t => o = .returned (some (.int r)) ∧ (∃ (dr' : Nat → Option Nat) (pl' : va_W), va_P D CL (WX g ad dr' pl' μ') t.heap ∧ DocOK g dr' pl' δ' ∧ ∀ μ : Mem, va_D (fun q => Ax q ∨ sz ≤ q) (WX g ad dr' pl' μ)) ∧ va_F (fun q => Ax q ∨ sz ≤ q) st t
abbrev rm_X_add : Room := { frames := 6, cells := 3, slots := 51, locals := 137 }
def AddMet (l : Launch) (μ : Mem) (δ : Dx) (r : Int32) (μ' : Mem) (δ' : Dx) : Prop := ∀ (D : va_G) (g : Nat → ClassId) (ad : Nat → Nat) (dr : Nat → Option Nat) (pl : va_W) (Ax : Nat → Prop) (sz : Nat), (∀ μ : Mem, va_D Ax (WX g ad dr pl μ)) → DocOK g dr pl δ → Met l y_X_add (Cond.code y_X_add b_X_add 3 (some .int) :: ww) rm_X_add (AP D g (WX g ad dr pl μ) sz [.ref (ad 0)]) (AQ D g ad Ax sz r μ' δ') 3 51 (fun q => Ax q ∨ sz ≤ q)
section LAW
variable {p : Program} {l : Launch} {e : Env} {R : Room} {s : State} {m : MethodId} {args : Array Value} {below : List Frame} {meth : Method} {c : Code} {H : Heap} {locs : List Loc} {cells slots : Nat} {Q : State → Prop} {cc b : ByteArray} {nL k index n pc : Nat} {own C : String} {y : MethodName} {r : Option FieldType} {rm : Room} {D : va_G} {g : Nat → ClassId} {ad ad2 : Nat → Nat} {Ax Am A A1 : Nat → Prop} {dr : Nat → Option Nat} {pl : va_W} {μ μ' ν ν' : Mem} {δ : Dx} {ls : Array Slot} {a : Nat} {As rest st0 : List Value} {w w1 : va_W}
theorem wrV2 {v : Option Value} (S : CallFix p m c cc nL s args ww own) (hF : FV C y b k r n) (hl : Cond.methodLink own index y ∈ ww) (hM : Met l y (Cond.code y b k r :: ww) rm (RP D CL (TY g) w (.ref a :: As)) (QW D CL w1 A1 v) 0 0 A1)
    (hK : va_K D CL (TY g) s) (hP : va_P D CL w H) (hS : va_S A s.heap H locs) (hA1 : ∀ q, A1 q → A q) (hc : rm.cells = 0 ∧ rm.slots = 0) (hR : rm.frames + 1 ≤ R.frames ∧ 8 + (k + 11) + rm.locals ≤ R.locals) (hrec : ∃ cell : Cell, H[a]? = some cell ∧ cell.vm.isStatics = false ∧ s.vm.findClass C = some cell.cls)
    (hn : As.length = n) (hz : ls.size = nL) (hst : st0 = As.reverse ++ .ref a :: rest) (hW : (rest.map fun v => v.category).sum ≤ 8) (hdg : decode cc pc = .ok (.invokevirtual index, 3)) (hf : cells + 0 ≤ R.cells ∧ slots + 0 ≤ R.slots)
    (kk : ∀ (H1 : Heap) (locs1 : List Loc), va_P D CL w1 H1 → (∀ q : Nat, q < H.size → ¬ A1 q → H1[q]? = H[q]?) → va_S A s.heap H1 locs1 → W p l e R s m args below meth c H1 locs1 cells slots Q (F0 m (pc + 3) ls (v.toList ++ rest))) : W p l e R s m args below meth c H locs cells slots Q (F0 m pc ls st0) := by
  obtain ⟨h1, h2, h3, h4, hd⟩ := hF
  exact wr_k2 (va_runV (C := C) (rest := rest) S hM ⟨bB S.2.2.2.2 h1 h4 hd hl hc hR, S.2.2.2.2 _ h2, S.2.2.2.2 _ h3⟩ ⟨RP_blind, hrec, fun U hU hW => ⟨rfl, by rw [hU]; exact hP, va_K.moved hW.alike hK⟩⟩ rfl hn hz hst (lv_room hW) hdg hf) hS hA1 kk
/-- the class is called, and writes -/
theorem lxW {v : Value} (I : LI D g ad ad2 Ax Am s H locs dr pl μ δ ν) (S : CallFix p m c cc nL s args ww own) (hF : FV R_X y b k r n) (hl : Cond.methodLink own index y ∈ ww) (hM : Met l y (Cond.code y b k r :: ww) rm (RP D CL (TY g) (WX g ad dr pl μ) (.ref (ad 0) :: As)) (QW D CL (WX g ad dr pl μ') Ax (some v)) 0 0 Ax)
    (hK : va_K D CL (TY g) s) (hc : rm.cells = 0 ∧ rm.slots = 0) (hR : rm.frames + 1 ≤ R.frames ∧ 8 + (k + 11) + rm.locals ≤ R.locals) (hn : As.length = n) (hz : ls.size = nL) (hst : st0 = As.reverse ++ .ref (ad 0) :: rest) (hW : (rest.map fun v => v.category).sum ≤ 8) (hdg : decode cc pc = .ok (.invokevirtual index, 3)) (hf : cells + 0 ≤ R.cells ∧ slots + 0 ≤ R.slots)
    (kk : ∀ (H1 : Heap) (locs1 : List Loc), LI D g ad ad2 Ax Am s H1 locs1 dr pl μ' δ ν → W p l e R s m args below meth c H1 locs1 cells slots Q (F0 m (pc + 3) ls (v :: rest))) : W p l e R s m args below meth c H locs cells slots Q (F0 m pc ls st0) := by
  obtain ⟨hPx, hPm, hDx, hDm, hδ, hAx, hAm, hS⟩ := I
  refine wrV2 S hF hl hM hK hPx hS hAx hc hR (xr_0 hK hPx) hn hz hst hW hdg hf (fun H1 locs1 hP1 hk hS1 => ?_)
  exact kk H1 locs1 ⟨hP1, hPm.kept (fun j x hx => hk x.1 (hPm j x hx).lt (hAm x.1 ((hDm ν).2 j x hx)).2.1), hDx, hDm, hδ, hAx, hAm, hS1⟩
/-- the class is called, and reads -/
theorem lxR {v : Value} (I : LI D g ad ad2 Ax Am s H locs dr pl μ δ ν) (S : CallFix p m c cc nL s args ww own) (hF : FV R_X y b k r n) (hl : Cond.methodLink own index y ∈ ww) (hM : Met l y (Cond.code y b k r :: ww) rm (RP D CL (TY g) (WX g ad dr pl μ) (.ref (ad 0) :: As)) (k2_QcV v) 0 0 (fun _ => False))
    (hK : va_K D CL (TY g) s) (hc : rm.cells = 0 ∧ rm.slots = 0) (hR : rm.frames + 1 ≤ R.frames ∧ 8 + (k + 11) + rm.locals ≤ R.locals) (hn : As.length = n) (hz : ls.size = nL) (hst : st0 = As.reverse ++ .ref (ad 0) :: rest) (hW : (rest.map fun v => v.category).sum ≤ 8) (hdg : decode cc pc = .ok (.invokevirtual index, 3)) (hf : cells + 0 ≤ R.cells ∧ slots + 0 ≤ R.slots)
    (kk : W p l e R s m args below meth c H locs cells slots Q (F0 m (pc + 3) ls (v :: rest))) : W p l e R s m args below meth c H locs cells slots Q (F0 m pc ls st0) := rdV S hF hl hM hK I.1 hc hR (xr_0 hK I.1) hn hz hst hW hdg hf kk
/-- the reference is called, and writes -/
theorem lmW {v : Value} (I : LI D g ad ad2 Ax Am s H locs dr pl μ δ ν) (S : CallFix p m c cc nL s args ww own) (hF : FV R_Mo y b k r n) (hl : Cond.methodLink own index y ∈ ww) (hM : Met l y (Cond.code y b k r :: ww) rm (RP D CL (TY g) (WM g ad2 ν) (.ref (ad2 0) :: As)) (QW D CL (WM g ad2 ν') Am (some v)) 0 0 Am)
    (hK : va_K D CL (TY g) s) (hc : rm.cells = 0 ∧ rm.slots = 0) (hR : rm.frames + 1 ≤ R.frames ∧ 8 + (k + 11) + rm.locals ≤ R.locals) (hn : As.length = n) (hz : ls.size = nL) (hst : st0 = As.reverse ++ .ref (ad2 0) :: rest) (hW : (rest.map fun v => v.category).sum ≤ 8) (hdg : decode cc pc = .ok (.invokevirtual index, 3)) (hf : cells + 0 ≤ R.cells ∧ slots + 0 ≤ R.slots)
    (kk : ∀ (H1 : Heap) (locs1 : List Loc), LI D g ad ad2 Ax Am s H1 locs1 dr pl μ δ ν' → W p l e R s m args below meth c H1 locs1 cells slots Q (F0 m (pc + 3) ls (v :: rest))) : W p l e R s m args below meth c H locs cells slots Q (F0 m pc ls st0) := by
  obtain ⟨hPx, hPm, hDx, hDm, hδ, hAx, hAm, hS⟩ := I
  refine wrV2 S hF hl hM hK hPm hS (fun q h => (hAm q h).1) hc hR (mr_0 hK hPm) hn hz hst hW hdg hf (fun H1 locs1 hP1 hk hS1 => ?_)
  refine kk H1 locs1 ⟨hPx.kept (fun j x hx => hk x.1 (hPx j x hx).lt (fun z => (hAm x.1 z).2.1 ((hDx μ).2 j x hx))), hP1, hDx, hDm, hδ, hAx, fun q h => ?_, hS1⟩
  obtain ⟨h1, h2, j, e, h3⟩ := hAm q h
  obtain ⟨e', h4⟩ := wm_ad (ν' := ν') h3
  exact ⟨h1, h2, j, e', h4⟩
theorem lmR {v : Value} (I : LI D g ad ad2 Ax Am s H locs dr pl μ δ ν) (S : CallFix p m c cc nL s args ww own) (hF : FV R_Mo y b k r n) (hl : Cond.methodLink own index y ∈ ww) (hM : Met l y (Cond.code y b k r :: ww) rm (RP D CL (TY g) (WM g ad2 ν) (.ref (ad2 0) :: As)) (k2_QcV v) 0 0 (fun _ => False))
    (hK : va_K D CL (TY g) s) (hc : rm.cells = 0 ∧ rm.slots = 0) (hR : rm.frames + 1 ≤ R.frames ∧ 8 + (k + 11) + rm.locals ≤ R.locals) (hn : As.length = n) (hz : ls.size = nL) (hst : st0 = As.reverse ++ .ref (ad2 0) :: rest) (hW : (rest.map fun v => v.category).sum ≤ 8) (hdg : decode cc pc = .ok (.invokevirtual index, 3)) (hf : cells + 0 ≤ R.cells ∧ slots + 0 ≤ R.slots)
    (kk : W p l e R s m args below meth c H locs cells slots Q (F0 m (pc + 3) ls (v :: rest))) : W p l e R s m args below meth c H locs cells slots Q (F0 m pc ls st0) := rdV S hF hl hM hK I.2.1 hc hR (mr_0 hK I.2.1) hn hz hst hW hdg hf kk
/-- add() of the class is called -/
theorem lxA {ri : Int32} {δ' : Dx} (I : LI D g ad ad2 Ax Am s H locs dr pl μ δ ν) (S : CallFix p m c cc nL s args ww own) (hl : Cond.methodLink own index y_X_add ∈ ww) (hM : AddMet l μ δ ri μ' δ') (hO : AO s)
    (hK : va_K D CL (TY g) s) (hR : rm_X_add.frames + 1 ≤ R.frames ∧ 8 + (3 + 11) + rm_X_add.locals ≤ R.locals) (hz : ls.size = nL) (hW : (rest.map fun v => v.category).sum ≤ 8) (hdg : decode cc pc = .ok (.invokevirtual index, 3)) (hf : cells + 3 ≤ R.cells ∧ slots + 51 ≤ R.slots)
    (kk : ∀ (Ax' : Nat → Prop) (dr' : Nat → Option Nat) (pl' : va_W) (H1 : Heap) (locs1 : List Loc), LI D g ad ad2 Ax' Am s H1 locs1 dr' pl' μ' δ' ν → W p l e R s m args below meth c H1 locs1 (cells + 3) (slots + 51) Q (F0 m (pc + 3) ls (.int ri :: rest))) : W p l e R s m args below meth c H locs cells slots Q (F0 m pc ls (.ref (ad 0) :: rest)) := by
  obtain ⟨hPx, hPm, hDx, hDm, hδ, hAx, hAm, hS⟩ := I
  obtain ⟨h1, h2, h3, h4, hd⟩ := K_X_add
  have hr := va_runV (C := R_X) (As := []) (rest := rest) (g := F0 m pc ls (.ref (ad 0) :: rest)) (l := l) (e := e) (R := R) (below := below) (meth := meth) (H := H) (locs := locs) (cells := cells) (slots := slots) S (hM D g ad dr pl Ax H.size hDx hδ) ⟨callB_of (ws' := ww) 0 S.2.2.2.2 (ww_good h1) rfl rfl rfl (S.2.2.2.2 _ h4) (S.2.2.2.2 _ hl) hd hR, S.2.2.2.2 _ h2, S.2.2.2.2 _ h3⟩ ⟨AP_blind, xr_0 hK hPx, fun U hU hW => ⟨rfl, by rw [hU], by rw [hU]; exact hPx, va_K.moved hW.alike hK, va_AO.moved hW.alike hO⟩⟩ rfl rfl hz rfl (lv_room hW) hdg hf
  intro T hT X
  obtain ⟨v', st₀, t, T', L, h0, X', hL, e1, e2, ⟨hv, ⟨dr', pl', hp, hδ', hd'⟩, hz2, hk⟩, st⟩ := hr T hT X
  cases hv
  rw [h0] at hz2 hk
  have hA1 : ∀ q, (Ax q ∨ H.size ≤ q) → s.heap.size ≤ q := fun q h => h.elim (hAx q) (fun h => Nat.le_trans hS.1 h)
  have hlt : ∀ q, Am q → q < H.size := fun q h => by obtain ⟨-, -, j, e, h3⟩ := hAm q h; exact (hPm j _ h3).lt
  obtain ⟨t2, a1, b1⟩ := kk (fun q => Ax q ∨ H.size ≤ q) dr' pl' t.heap (locs ++ L) ⟨hp, hPm.kept (fun j x hx => hk x.1 (hPm j x hx).lt (fun z => z.elim (hAm x.1 ((hDm ν).2 j x hx)).2.1 (fun z => Nat.not_lt.mpr z (hPm j x hx).lt))), hd', hDm, hδ', hA1, fun q h => ⟨(hAm q h).1, fun z => z.elim (hAm q h).2.1 (fun z => Nat.not_lt.mpr z (hlt q h)), (hAm q h).2.2⟩,
      ⟨Nat.le_trans hS.1 hz2, fun q h1 h2 => by rw [hk q (Nat.lt_of_lt_of_le h1 hS.1) (fun z => h2 (hA1 q z))]; exact hS.2.1 q h1 h2, fun q hq => by
        rcases List.mem_append.mp hq with h | h
        · exact hS.2.2 q h
        · exact hA1 _ (hL q h)⟩⟩ T' e1 X'
  exact ⟨t2, st t2 a1, b1⟩
/-- an int of the script -/
theorem ld_s {b L : Nat} {xs : Nat → Int32} (hx : p.tables.exec = Jvm.exec) (hb : c.code = cc) (hX : va_X b L xs s s.heap) (hbl : b < s.heap.size) (hS : va_S (A0 s) s.heap H locs) {i j : Int32} (K J : Nat) (hi : i = nI K) (hj : j = nI J) (hL : L ≤ 2560) (hkj : K + J < L) (hdg : decode cc pc = .ok (.iaload, 1))
    (kk : W p l e R s m args below meth c H locs cells slots Q (F0 m (pc + 1) ls (.int (xs (K + J)) :: rest))) : W p l e R s m args below meth c H locs cells slots Q (F0 m pc ls (.int (i + j) :: .ref b :: rest)) := by
  subst hi; subst hj
  rw [nI_add]
  refine va_sld hx hb hX hbl (Nat.not_le.mpr hbl) hS (vp_in_nI hkj (by omega)) hdg ?_
  rw [nI_clamp (by omega)]
  exact kk
end LAW
theorem vk_ex {s : State} {args : Array Value} (hts : ∀ w ∈ ww, w.before args s = true) (hO : AO s) : ∃ (D : va_G) (g : Nat → ClassId), va_K D CL (TY g) s := by
  have h : ∀ c : Nat, ∃ x : ClassId × (Nat → Nat), ∀ q, CL[c]? = some q → u_Kn s q.1 q.2.1 q.2.2 x.1 x.2 := by
    intro c
    rcases c with _ | _ | _ | _ | _ | _ | _ | _ | _ | _ | _ | c
    · obtain ⟨cC, iS, h⟩ := u_known (C := R_X) (T := T_X) (N := 11) hts u_X (hts _ q_17)
      exact ⟨(cC, iS), fun q hq => by cases hq; exact h⟩
    · obtain ⟨cC, iS, h⟩ := u_known (C := R_Draft) (T := T_Draft) (N := 2) hts u_Draft (hts _ q_25)
      exact ⟨(cC, iS), fun q hq => by cases hq; exact h⟩
    · obtain ⟨cC, iS, h⟩ := u_known (C := R_Lexicon) (T := T_Lexicon) (N := 7) hts u_Lexicon (hts _ q_39)
      exact ⟨(cC, iS), fun q hq => by cases hq; exact h⟩
    · obtain ⟨cC, iS, h⟩ := u_known (C := R_Grammar) (T := T_Grammar) (N := 6) hts u_Grammar (hts _ q_68)
      exact ⟨(cC, iS), fun q hq => by cases hq; exact h⟩
    · obtain ⟨cC, iS, h⟩ := u_known (C := R_Filters) (T := T_Filters) (N := 3) hts u_Filters (hts _ q_96)
      exact ⟨(cC, iS), fun q hq => by cases hq; exact h⟩
    · obtain ⟨cC, iS, h⟩ := u_known (C := R_Lattice) (T := T_Lattice) (N := 10) hts u_Lattice (hts _ q_112)
      exact ⟨(cC, iS), fun q hq => by cases hq; exact h⟩
    · obtain ⟨cC, iS, h⟩ := u_known (C := R_Route) (T := T_Route) (N := 10) hts u_Route (hts _ q_149)
      exact ⟨(cC, iS), fun q hq => by cases hq; exact h⟩
    · obtain ⟨cC, iS, h⟩ := u_known (C := R_TokenRow) (T := T_TokenRow) (N := 8) hts u_TokenRow (hts _ q_186)
      exact ⟨(cC, iS), fun q hq => by cases hq; exact h⟩
    · obtain ⟨cC, iS, h⟩ := u_known (C := R_Shelf) (T := T_Shelf) (N := 7) hts u_Shelf (hts _ q_217)
      exact ⟨(cC, iS), fun q hq => by cases hq; exact h⟩
    · obtain ⟨cC, iS, h⟩ := u_known (C := R_Document) (T := T_Document) (N := 3) hts u_Document (hts _ q_685)
      exact ⟨(cC, iS), fun q hq => by cases hq; exact h⟩
    · obtain ⟨cC, iS, h⟩ := u_known (C := R_Mo) (T := T_Mo) (N := 52) hts u_Mo (hts _ q_813)
      exact ⟨(cC, iS), fun q hq => by cases hq; exact h⟩
    · exact ⟨(0, fun _ => 0), fun q hq => by cases hq⟩
  obtain ⟨c0, k0, m0, a0, b0, e0⟩ := Cond.arrayClass_spec (hts _ q_37)
  obtain ⟨c1, k1, m1, a1, b1, e1⟩ := Cond.arrayClass_spec (hts _ q_66)
  obtain ⟨c2, k2, m2, a2, b2, e2⟩ := Cond.arrayClass_spec (hts _ q_975)
  obtain ⟨m3, c3, k3, h31, h32, h33, h34, h35⟩ := Cond.arrayOver_spec hO
  refine ⟨(fun c => (Classical.choose (h c)).1, fun c => (Classical.choose (h c)).2), fun k => match k with | 0 => c0 | 1 => c1 | 2 => c2 | _ => c3, fun c q hq => Classical.choose_spec (h c) q hq, ?_⟩
  intro k q hk
  rcases k with _ | _ | _ | _ | k
  · cases hk; exact ⟨fun n z => ⟨fun k h => (by cases h), k0, b0, m0, e0⟩, a0⟩
  · cases hk; exact ⟨fun n z => ⟨fun k h => (by cases h), k1, b1, m1, e1⟩, a1⟩
  · cases hk; exact ⟨fun n z => ⟨fun k h => (by cases h), k2, b2, m2, e2⟩, a2⟩
  · cases hk; exact ⟨fun n z => ⟨fun k h => (by cases h), k3, h33, m3, h34⟩, k3, m3, h33, h34, h31, h35⟩
  · cases hk
set_option maxHeartbeats 8000000 in
set_option maxRecDepth 100000 in
theorem law_loop {p : Program} {e : Env} {s : State} {m : MethodId} {below : List Frame} {meth : Method} {c : Code} (l : Launch) {b L : Nat} {xs : Nat → Int32} (hL : L ≤ 2560) (C0 : lw_At p s m meth c b L xs) (J : Nat → Mem → Dx → Mem → Prop) (h_type : ∀ (k : Nat) (μ : Mem) (δ : Dx) (ν : Mem), 5 * k + 5 ≤ L → J k μ δ ν → ∀ (a1 : Int64), ∃ (n1 n2 : Nat) (r : Bool) (μ' : Mem) (ν' : Mem), f_X_type n1 μ a1 = some (r, μ') ∧ f_Mo_type n2 ν a1 = some (r, ν') ∧ J (k + 1) μ' δ ν') (h_word : ∀ (k : Nat) (μ : Mem) (δ : Dx) (ν : Mem), 5 * k + 5 ≤ L → J k μ δ ν → ∀ (a1 : Int32) (a2 : Int32) (a3 : Int32) (a4 : Int32), ∃ (n1 n2 : Nat) (r : Int32) (μ' : Mem) (ν' : Mem), f_X_word n1 μ a1 a2 a3 a4 = some (r, μ') ∧ f_Mo_word n2 ν a1 a2 a3 a4 = some (r, ν') ∧ J (k + 1) μ' δ ν') (h_rule : ∀ (k : Nat) (μ : Mem) (δ : Dx) (ν : Mem), 5 * k + 5 ≤ L → J k μ δ ν → ∀ (a1 : Int32) (a2 : Int32) (a3 : Int32) (a4 : Int32), ∃ (n1 n2 : Nat) (r : Bool) (μ' : Mem) (ν' : Mem), f_X_rule n1 μ a1 a2 a3 a4 = some (r, μ') ∧ f_Mo_rule n2 ν a1 a2 a3 a4 = some (r, ν') ∧ J (k + 1) μ' δ ν') (h_link : ∀ (k : Nat) (μ : Mem) (δ : Dx) (ν : Mem), 5 * k + 5 ≤ L → J k μ δ ν → ∀ (a1 : Int32) (a2 : Int32) (a3 : Int32), ∃ (n1 n2 : Nat) (r : Bool) (μ' : Mem) (ν' : Mem), f_X_link n1 μ a1 a2 a3 = some (r, μ') ∧ f_Mo_link n2 ν a1 a2 a3 = some (r, ν') ∧ J (k + 1) μ' δ ν') (h_mode : ∀ (k : Nat) (μ : Mem) (δ : Dx) (ν : Mem), 5 * k + 5 ≤ L → J k μ δ ν → ∀ (a1 : Int32) (a2 : Int32), ∃ (n1 n2 : Nat) (r : Bool) (μ' : Mem) (ν' : Mem), f_X_mode n1 μ a1 a2 = some (r, μ') ∧ f_Mo_mode n2 ν a1 a2 = some (r, ν') ∧ J (k + 1) μ' δ ν') (h_chain : ∀ (k : Nat) (μ : Mem) (δ : Dx) (ν : Mem), 5 * k + 5 ≤ L → J k μ δ ν → ∀ (a1 : Int32) (a2 : Int32), ∃ (n1 n2 : Nat) (r : Bool) (μ' : Mem) (ν' : Mem), f_X_chain n1 μ a1 a2 = some (r, μ') ∧ f_Mo_chain n2 ν a1 a2 = some (r, ν') ∧ J (k + 1) μ' δ ν') (h_cost : ∀ (k : Nat) (μ : Mem) (δ : Dx) (ν : Mem), 5 * k + 5 ≤ L → J k μ δ ν → ∀ _u : Unit, ∃ (n1 n2 : Nat) (r : Int32) (μ' : Mem) (ν' : Mem), f_X_cost n1 μ = some (r, μ') ∧ f_Mo_cost n2 ν = some (r, ν') ∧ J (k + 1) μ' δ ν') (h_paths : ∀ (k : Nat) (μ : Mem) (δ : Dx) (ν : Mem), 5 * k + 5 ≤ L → J k μ δ ν → ∀ _u : Unit, ∃ (n1 n2 : Nat) (r : Int64) (μ' : Mem) (ν' : Mem), f_X_paths n1 μ = some (r, μ') ∧ f_Mo_paths n2 ν = some (r, ν') ∧ J (k + 1) μ' δ ν') (h_nodes : ∀ (k : Nat) (μ : Mem) (δ : Dx) (ν : Mem), 5 * k + 5 ≤ L → J k μ δ ν → ∀ _u : Unit, ∃ (n1 n2 : Nat) (r : Int32) (μ' : Mem) (ν' : Mem), f_X_nodes n1 μ = some (r, μ') ∧ f_Mo_nodes n2 ν = some (r, ν') ∧ J (k + 1) μ' δ ν') (h_tokens : ∀ (k : Nat) (μ : Mem) (δ : Dx) (ν : Mem), 5 * k + 5 ≤ L → J k μ δ ν → ∀ _u : Unit, ∃ (n1 n2 : Nat) (r : Int32) (μ' : Mem) (ν' : Mem), f_X_tokens n1 μ = some (r, μ') ∧ f_Mo_tokens n2 ν = some (r, ν') ∧ J (k + 1) μ' δ ν') (h_token : ∀ (k : Nat) (μ : Mem) (δ : Dx) (ν : Mem), 5 * k + 5 ≤ L → J k μ δ ν → ∀ (a1 : Int32) (a2 : Int32), ∃ (n1 n2 : Nat) (r : Int32) (μ' : Mem) (ν' : Mem), f_X_token n1 μ a1 a2 = some (r, μ') ∧ f_Mo_token n2 ν a1 a2 = some (r, ν') ∧ J (k + 1) μ' δ ν') (h_term : ∀ (k : Nat) (μ : Mem) (δ : Dx) (ν : Mem), 5 * k + 5 ≤ L → J k μ δ ν → ∀ (a1 : Int32), ∃ (n1 n2 : Nat) (r : Int64) (μ' : Mem) (ν' : Mem), f_X_term n1 μ a1 = some (r, μ') ∧ f_Mo_term n2 ν a1 = some (r, ν') ∧ J (k + 1) μ' δ ν') (h_add : ∀ (l : Launch) (k : Nat) (μ : Mem) (δ : Dx) (ν : Mem), 5 * k + 5 ≤ L → J k μ δ ν → ∃ (r : Int32) (μ' : Mem) (δ' : Dx) (n2 : Nat) (ν' : Mem), AddMet l μ δ r μ' δ' ∧ f_Mo_add n2 ν = some (r, ν') ∧ J (k + 1) μ' δ' ν') (h_drop : ∀ (k : Nat) (μ : Mem) (δ : Dx) (ν : Mem), 5 * k + 5 ≤ L → J k μ δ ν → ∀ (a1 : Int32), ∃ (n1 n2 : Nat) (r : Bool) (μ' : Mem) (ν' : Mem), f_X_drop n1 μ a1 = some (r, μ') ∧ f_Mo_drop n2 ν a1 = some (r, ν') ∧ J (k + 1) μ' δ ν') (h_flush : ∀ (k : Nat) (μ : Mem) (δ : Dx) (ν : Mem), 5 * k + 5 ≤ L → J k μ δ ν → ∀ _u : Unit, ∃ (n1 n2 : Nat) (r : Int32) (μ' : Mem) (ν' : Mem), f_X_flush n1 δ μ = some (r, μ') ∧ f_Mo_flush n2 ν = some (r, ν') ∧ J (k + 1) μ' δ ν') (h_segment : ∀ (k : Nat) (μ : Mem) (δ : Dx) (ν : Mem), 5 * k + 5 ≤ L → J k μ δ ν → ∀ (a1 : Int32), ∃ (n1 n2 : Nat) (r : Int32), f_X_segment n1 μ a1 = some r ∧ f_Mo_segment n2 ν a1 = some r ∧ J (k + 1) μ δ ν) (h_open : ∀ (k : Nat) (μ : Mem) (δ : Dx) (ν : Mem), 5 * k + 5 ≤ L → J k μ δ ν → ∀ _u : Unit, ∃ (n1 n2 : Nat) (r : Int32) (μ' : Mem) (ν' : Mem), f_X_open n1 μ = some (r, μ') ∧ f_Mo_open n2 ν = some (r, ν') ∧ J (k + 1) μ' δ ν') (h_match : ∀ (k : Nat) (μ : Mem) (δ : Dx) (ν : Mem), 5 * k + 5 ≤ L → J k μ δ ν → ∀ (a1 : Int32), ∃ (n1 n2 : Nat) (r : Int32) (μ' : Mem) (ν' : Mem), f_X_match n1 δ μ a1 = some (r, μ') ∧ f_Mo_match n2 ν a1 = some (r, ν') ∧ J (k + 1) μ' δ ν') (h_places : ∀ (k : Nat) (μ : Mem) (δ : Dx) (ν : Mem), 5 * k + 5 ≤ L → J k μ δ ν → ∀ (a1 : Int32), ∃ (n1 n2 : Nat) (r : Int32) (μ' : Mem) (ν' : Mem), f_X_places n1 δ μ a1 = some (r, μ') ∧ f_Mo_places n2 ν a1 = some (r, ν') ∧ J (k + 1) μ' δ ν') (h_none : ∀ (k : Nat) (μ : Mem) (δ : Dx) (ν : Mem), 5 * k + 5 ≤ L → J k μ δ ν → J (k + 1) μ δ ν) {D : va_G} {g : Nat → ClassId} {ad ad2 : Nat → Nat} {Am : Nat → Prop} (hK : va_K D CL (TY g) s) : ∀ (j k : Nat) (μ : Mem) (δ : Dx) (ν : Mem) (Ax : Nat → Prop) (dr : Nat → Option Nat) (pl : va_W) (H : Heap) (locs : List Loc) (cells slots : Nat) (ls : Array Slot), L < 5 * k + j → 5 * k ≤ L → J k μ δ ν → LI D g ad ad2 Ax Am s H locs dr pl μ δ ν → cells ≤ 1000 + 3 * k ∧ slots ≤ 40000 + 51 * k → lv_has ls 4 [(3, .int (nI (5 * k))), (2, .ref (ad2 0)), (1, .ref (ad 0)), (0, .ref b)] → W p l e room_1 s m #[Value.ref b] below meth c H locs cells slots (lw_Z below #[Value.ref b] s) (F0 m 18 ls []) := by
  have C1 := C0
  obtain ⟨hx, hb, hr, hml, hown, hts0, hX, hbl, hlk, hgv⟩ := C1
  have hts : ∀ w ∈ ww, w.before #[Value.ref b] s = true := fun w hw => hts0 w (List.mem_filter.mp hw).1
  have S : CallFix p m c code 4 s #[Value.ref b] ww R_Law := ⟨hx, hb, hml, hown, hts⟩
  have hO : AO s := va_AO.of (hts0 _ q_over)
  intro j
  induction j with
  | zero => intro k μ δ ν Ax dr pl H locs cells slots ls h1 h2; omega
  | succ j ih =>
    intro k μ δ ν Ax dr pl H locs cells slots ls hj hk hJ I hcs hl
    obtain ⟨hc1, hc2⟩ := hcs
    have hS := I.2.2.2.2.2.2.2
    have hR1 : room_1.cells = 600000 := rfl
    have hR2 : room_1.slots = 7302250 := rfl
    refine lv_iload_n hx hb d_law_18 rfl (lv_at hl 0 rfl) ?_
    refine lv_aload_n hx hb d_law_19 rfl (lv_at hl 3 rfl) ?_
    refine va_slen hx hb hX hbl (Nat.not_le.mpr hbl) hS d_law_20 ?_
    refine lv_iconst (v := 5) hx hb d_law_21 (by decide) ?_
    refine lv_isub hx hb d_law_22 ?_
    refine lv_icmp_gt (tgt := 639) hx hb d_law_23 rfl (fun hc => ?_) (fun hc => ?_)
    · refine lv_iconst (v := 1) hx hb d_law_639 (by decide) ?_
      refine va_forget hS.2.2 ?_
      refine W.widen (k := 600000) (n := 7302250) (by omega) (by omega) ?_
      exact lw_ret hx hb hr hlk d_law_640
    have hk5 : 5 * k + 5 ≤ L := lw_more hL hk hc
    have back : ∀ (μ : Mem) (δ : Dx) (ν : Mem) (Ax : Nat → Prop) (dr : Nat → Option Nat) (pl : va_W) (H : Heap) (locs : List Loc) (cells slots : Nat) (ls : Array Slot), J (k + 1) μ δ ν → LI D g ad ad2 Ax Am s H locs dr pl μ δ ν → cells ≤ 1000 + 3 * (k + 1) ∧ slots ≤ 40000 + 51 * (k + 1) → lv_has ls 4 [(3, .int (nI (5 * k))), (2, .ref (ad2 0)), (1, .ref (ad 0)), (0, .ref b)] → W p l e room_1 s m #[Value.ref b] below meth c H locs cells slots (lw_Z below #[Value.ref b] s) (F0 m 633 ls []) := by
      intro μ δ ν Ax dr pl H locs cells slots ls hJ I hcs hl
      refine lv_iinc (lv' := [(3, .int (nI (5 * (k + 1)))), (2, .ref (ad2 0)), (1, .ref (ad 0)), (0, .ref b)]) hx hb d_law_633 hl (k := 0) rfl (lw_i5 k) (Nat.le_of_ble_eq_true rfl) rfl (fun ls hl => ?_)
      refine lv_goto (tgt := 18) hx hb d_law_636 rfl ?_
      exact ih (k + 1) μ δ ν Ax dr pl H locs cells slots ls (by omega) (by omega) hJ I hcs hl
    refine lv_aload_n hx hb d_law_26 rfl (lv_at hl 3 rfl) ?_
    refine lv_iload_n hx hb d_law_27 rfl (lv_at hl 0 rfl) ?_
    refine top_i (lw_z (nI (5 * k))) ?_
    refine ld_s hx hb hX hbl hS (5 * k) 0 rfl rfl hL (by omega) d_law_28 ?_
    refine lv_bipush (v := 31) hx hb d_law_29 (by decide) ?_
    refine lv_iand hx hb d_law_31 ?_
    generalize xs (5 * k + 0) &&& 31 = z
    by_cases hc0 : z = 0
    · rw [hc0]
      refine lv_tableIn (tgt := 124) hx hb d_law_32 (by decide) (by decide) rfl rfl ?_
      obtain ⟨n1, n2, r, μ', ν', h1, h2, hJ⟩ := h_type k μ δ ν hk5 hJ ((xs (5 * k + 1)).toInt64 <<< ((32 : Int32).toInt64 &&& 63) ||| (xs (5 * k + 2)).toInt64 &&& 4294967295)
      refine lv_aload_n hx hb d_law_124 rfl (lv_at hl 2 rfl) ?_
      refine lv_aload_n hx hb d_law_125 rfl (lv_at hl 3 rfl) ?_
      refine lv_iload_n hx hb d_law_126 rfl (lv_at hl 0 rfl) ?_
      refine lv_iconst (v := 1) hx hb d_law_127 (by decide) ?_
      refine lv_iadd hx hb d_law_128 ?_
      refine ld_s hx hb hX hbl I.2.2.2.2.2.2.2 (5 * k) 1 rfl rfl hL (by omega) d_law_129 ?_
      refine lv_i2l (v := (xs (5 * k + 1)).toInt64) hx hb d_law_130 rfl ?_
      refine lv_bipush (v := 32) hx hb d_law_131 (by decide) ?_
      refine lv_lshl (v := (xs (5 * k + 1)).toInt64 <<< ((32 : Int32).toInt64 &&& 63)) hx hb d_law_133 rfl ?_
      refine lv_aload_n hx hb d_law_134 rfl (lv_at hl 3 rfl) ?_
      refine lv_iload_n hx hb d_law_135 rfl (lv_at hl 0 rfl) ?_
      refine lv_iconst (v := 2) hx hb d_law_136 (by decide) ?_
      refine lv_iadd hx hb d_law_137 ?_
      refine ld_s hx hb hX hbl I.2.2.2.2.2.2.2 (5 * k) 2 rfl rfl hL (by omega) d_law_138 ?_
      refine lv_i2l (v := (xs (5 * k + 2)).toInt64) hx hb d_law_139 rfl ?_
      refine lv_ldc2 (v := 4294967295) hx hb hown (hts _ q_1165) d_law_140 ?_
      refine lv_land hx hb d_law_143 ?_
      refine lv_lor hx hb d_law_144 ?_
      refine lxW (As := [.long (((xs (5 * k + 1)).toInt64 <<< ((32 : Int32).toInt64 &&& 63)) ||| ((xs (5 * k + 2)).toInt64 &&& 4294967295))]) (rest := []) I S K_X_type q_280 (c_X_type I.2.2.1 h1) hK ⟨rfl, rfl⟩ ⟨Nat.le_of_ble_eq_true rfl, Nat.le_of_ble_eq_true rfl⟩ rfl hl.1 rfl (Nat.le_of_ble_eq_true rfl) d_law_145 ⟨by omega, by omega⟩ (fun H locs I => ?_)
      refine lv_aload_n hx hb d_law_148 rfl (lv_at hl 1 rfl) ?_
      refine lv_aload_n hx hb d_law_149 rfl (lv_at hl 3 rfl) ?_
      refine lv_iload_n hx hb d_law_150 rfl (lv_at hl 0 rfl) ?_
      refine lv_iconst (v := 1) hx hb d_law_151 (by decide) ?_
      refine lv_iadd hx hb d_law_152 ?_
      refine ld_s hx hb hX hbl I.2.2.2.2.2.2.2 (5 * k) 1 rfl rfl hL (by omega) d_law_153 ?_
      refine lv_i2l (v := (xs (5 * k + 1)).toInt64) hx hb d_law_154 rfl ?_
      refine lv_bipush (v := 32) hx hb d_law_155 (by decide) ?_
      refine lv_lshl (v := (xs (5 * k + 1)).toInt64 <<< ((32 : Int32).toInt64 &&& 63)) hx hb d_law_157 rfl ?_
      refine lv_aload_n hx hb d_law_158 rfl (lv_at hl 3 rfl) ?_
      refine lv_iload_n hx hb d_law_159 rfl (lv_at hl 0 rfl) ?_
      refine lv_iconst (v := 2) hx hb d_law_160 (by decide) ?_
      refine lv_iadd hx hb d_law_161 ?_
      refine ld_s hx hb hX hbl I.2.2.2.2.2.2.2 (5 * k) 2 rfl rfl hL (by omega) d_law_162 ?_
      refine lv_i2l (v := (xs (5 * k + 2)).toInt64) hx hb d_law_163 rfl ?_
      refine lv_ldc2 (v := 4294967295) hx hb hown (hts _ q_1165) d_law_164 ?_
      refine lv_land hx hb d_law_167 ?_
      refine lv_lor hx hb d_law_168 ?_
      refine lmW (As := [.long (((xs (5 * k + 1)).toInt64 <<< ((32 : Int32).toInt64 &&& 63)) ||| ((xs (5 * k + 2)).toInt64 &&& 4294967295))]) (rest := [.int (bz r)]) I S K_Mo_type q_976 (c_Mo_type I.2.2.2.1 h2) hK ⟨rfl, rfl⟩ ⟨Nat.le_of_ble_eq_true rfl, Nat.le_of_ble_eq_true rfl⟩ rfl hl.1 rfl (Nat.le_of_ble_eq_true rfl) d_law_169 ⟨by omega, by omega⟩ (fun H locs I => ?_)
      refine lv_icmp_eq (tgt := 633) hx hb d_law_172 rfl (fun _ => ?_) (fun hc => absurd rfl hc)
      exact back _ _ _ _ _ _ _ _ _ _ _ hJ I ⟨by omega, by omega⟩ hl
    by_cases hc1 : z = 1
    · rw [hc1]
      refine lv_tableIn (tgt := 177) hx hb d_law_32 (by decide) (by decide) rfl rfl ?_
      obtain ⟨n1, n2, r, μ', ν', h1, h2, hJ⟩ := h_word k μ δ ν hk5 hJ (xs (5 * k + 1)) (xs (5 * k + 2)) (xs (5 * k + 3)) (xs (5 * k + 4))
      refine lv_aload_n hx hb d_law_177 rfl (lv_at hl 2 rfl) ?_
      refine lv_aload_n hx hb d_law_178 rfl (lv_at hl 3 rfl) ?_
      refine lv_iload_n hx hb d_law_179 rfl (lv_at hl 0 rfl) ?_
      refine lv_iconst (v := 1) hx hb d_law_180 (by decide) ?_
      refine lv_iadd hx hb d_law_181 ?_
      refine ld_s hx hb hX hbl I.2.2.2.2.2.2.2 (5 * k) 1 rfl rfl hL (by omega) d_law_182 ?_
      refine lv_aload_n hx hb d_law_183 rfl (lv_at hl 3 rfl) ?_
      refine lv_iload_n hx hb d_law_184 rfl (lv_at hl 0 rfl) ?_
      refine lv_iconst (v := 2) hx hb d_law_185 (by decide) ?_
      refine lv_iadd hx hb d_law_186 ?_
      refine ld_s hx hb hX hbl I.2.2.2.2.2.2.2 (5 * k) 2 rfl rfl hL (by omega) d_law_187 ?_
      refine lv_aload_n hx hb d_law_188 rfl (lv_at hl 3 rfl) ?_
      refine lv_iload_n hx hb d_law_189 rfl (lv_at hl 0 rfl) ?_
      refine lv_iconst (v := 3) hx hb d_law_190 (by decide) ?_
      refine lv_iadd hx hb d_law_191 ?_
      refine ld_s hx hb hX hbl I.2.2.2.2.2.2.2 (5 * k) 3 rfl rfl hL (by omega) d_law_192 ?_
      refine lv_aload_n hx hb d_law_193 rfl (lv_at hl 3 rfl) ?_
      refine lv_iload_n hx hb d_law_194 rfl (lv_at hl 0 rfl) ?_
      refine lv_iconst (v := 4) hx hb d_law_195 (by decide) ?_
      refine lv_iadd hx hb d_law_196 ?_
      refine ld_s hx hb hX hbl I.2.2.2.2.2.2.2 (5 * k) 4 rfl rfl hL (by omega) d_law_197 ?_
      refine lxW (As := [.int (xs (5 * k + 1)), .int (xs (5 * k + 2)), .int (xs (5 * k + 3)), .int (xs (5 * k + 4))]) (rest := []) I S K_X_word q_299 (c_X_word I.2.2.1 h1) hK ⟨rfl, rfl⟩ ⟨Nat.le_of_ble_eq_true rfl, Nat.le_of_ble_eq_true rfl⟩ rfl hl.1 rfl (Nat.le_of_ble_eq_true rfl) d_law_198 ⟨by omega, by omega⟩ (fun H locs I => ?_)
      refine lv_aload_n hx hb d_law_201 rfl (lv_at hl 1 rfl) ?_
      refine lv_aload_n hx hb d_law_202 rfl (lv_at hl 3 rfl) ?_
      refine lv_iload_n hx hb d_law_203 rfl (lv_at hl 0 rfl) ?_
      refine lv_iconst (v := 1) hx hb d_law_204 (by decide) ?_
      refine lv_iadd hx hb d_law_205 ?_
      refine ld_s hx hb hX hbl I.2.2.2.2.2.2.2 (5 * k) 1 rfl rfl hL (by omega) d_law_206 ?_
      refine lv_aload_n hx hb d_law_207 rfl (lv_at hl 3 rfl) ?_
      refine lv_iload_n hx hb d_law_208 rfl (lv_at hl 0 rfl) ?_
      refine lv_iconst (v := 2) hx hb d_law_209 (by decide) ?_
      refine lv_iadd hx hb d_law_210 ?_
      refine ld_s hx hb hX hbl I.2.2.2.2.2.2.2 (5 * k) 2 rfl rfl hL (by omega) d_law_211 ?_
      refine lv_aload_n hx hb d_law_212 rfl (lv_at hl 3 rfl) ?_
      refine lv_iload_n hx hb d_law_213 rfl (lv_at hl 0 rfl) ?_
      refine lv_iconst (v := 3) hx hb d_law_214 (by decide) ?_
      refine lv_iadd hx hb d_law_215 ?_
      refine ld_s hx hb hX hbl I.2.2.2.2.2.2.2 (5 * k) 3 rfl rfl hL (by omega) d_law_216 ?_
      refine lv_aload_n hx hb d_law_217 rfl (lv_at hl 3 rfl) ?_
      refine lv_iload_n hx hb d_law_218 rfl (lv_at hl 0 rfl) ?_
      refine lv_iconst (v := 4) hx hb d_law_219 (by decide) ?_
      refine lv_iadd hx hb d_law_220 ?_
      refine ld_s hx hb hX hbl I.2.2.2.2.2.2.2 (5 * k) 4 rfl rfl hL (by omega) d_law_221 ?_
      refine lmW (As := [.int (xs (5 * k + 1)), .int (xs (5 * k + 2)), .int (xs (5 * k + 3)), .int (xs (5 * k + 4))]) (rest := [.int r]) I S K_Mo_word q_981 (c_Mo_word I.2.2.2.1 h2) hK ⟨rfl, rfl⟩ ⟨Nat.le_of_ble_eq_true rfl, Nat.le_of_ble_eq_true rfl⟩ rfl hl.1 rfl (Nat.le_of_ble_eq_true rfl) d_law_222 ⟨by omega, by omega⟩ (fun H locs I => ?_)
      refine lv_icmp_eq (tgt := 633) hx hb d_law_225 rfl (fun _ => ?_) (fun hc => absurd rfl hc)
      exact back _ _ _ _ _ _ _ _ _ _ _ hJ I ⟨by omega, by omega⟩ hl
    by_cases hc2 : z = 2
    · rw [hc2]
      refine lv_tableIn (tgt := 230) hx hb d_law_32 (by decide) (by decide) rfl rfl ?_
      obtain ⟨n1, n2, r, μ', ν', h1, h2, hJ⟩ := h_rule k μ δ ν hk5 hJ (xs (5 * k + 1)) (xs (5 * k + 2)) (xs (5 * k + 3)) (xs (5 * k + 4))
      refine lv_aload_n hx hb d_law_230 rfl (lv_at hl 2 rfl) ?_
      refine lv_aload_n hx hb d_law_231 rfl (lv_at hl 3 rfl) ?_
      refine lv_iload_n hx hb d_law_232 rfl (lv_at hl 0 rfl) ?_
      refine lv_iconst (v := 1) hx hb d_law_233 (by decide) ?_
      refine lv_iadd hx hb d_law_234 ?_
      refine ld_s hx hb hX hbl I.2.2.2.2.2.2.2 (5 * k) 1 rfl rfl hL (by omega) d_law_235 ?_
      refine lv_aload_n hx hb d_law_236 rfl (lv_at hl 3 rfl) ?_
      refine lv_iload_n hx hb d_law_237 rfl (lv_at hl 0 rfl) ?_
      refine lv_iconst (v := 2) hx hb d_law_238 (by decide) ?_
      refine lv_iadd hx hb d_law_239 ?_
      refine ld_s hx hb hX hbl I.2.2.2.2.2.2.2 (5 * k) 2 rfl rfl hL (by omega) d_law_240 ?_
      refine lv_aload_n hx hb d_law_241 rfl (lv_at hl 3 rfl) ?_
      refine lv_iload_n hx hb d_law_242 rfl (lv_at hl 0 rfl) ?_
      refine lv_iconst (v := 3) hx hb d_law_243 (by decide) ?_
      refine lv_iadd hx hb d_law_244 ?_
      refine ld_s hx hb hX hbl I.2.2.2.2.2.2.2 (5 * k) 3 rfl rfl hL (by omega) d_law_245 ?_
      refine lv_aload_n hx hb d_law_246 rfl (lv_at hl 3 rfl) ?_
      refine lv_iload_n hx hb d_law_247 rfl (lv_at hl 0 rfl) ?_
      refine lv_iconst (v := 4) hx hb d_law_248 (by decide) ?_
      refine lv_iadd hx hb d_law_249 ?_
      refine ld_s hx hb hX hbl I.2.2.2.2.2.2.2 (5 * k) 4 rfl rfl hL (by omega) d_law_250 ?_
      refine lxW (As := [.int (xs (5 * k + 1)), .int (xs (5 * k + 2)), .int (xs (5 * k + 3)), .int (xs (5 * k + 4))]) (rest := []) I S K_X_rule q_335 (c_X_rule I.2.2.1 h1) hK ⟨rfl, rfl⟩ ⟨Nat.le_of_ble_eq_true rfl, Nat.le_of_ble_eq_true rfl⟩ rfl hl.1 rfl (Nat.le_of_ble_eq_true rfl) d_law_251 ⟨by omega, by omega⟩ (fun H locs I => ?_)
      refine lv_aload_n hx hb d_law_254 rfl (lv_at hl 1 rfl) ?_
      refine lv_aload_n hx hb d_law_255 rfl (lv_at hl 3 rfl) ?_
      refine lv_iload_n hx hb d_law_256 rfl (lv_at hl 0 rfl) ?_
      refine lv_iconst (v := 1) hx hb d_law_257 (by decide) ?_
      refine lv_iadd hx hb d_law_258 ?_
      refine ld_s hx hb hX hbl I.2.2.2.2.2.2.2 (5 * k) 1 rfl rfl hL (by omega) d_law_259 ?_
      refine lv_aload_n hx hb d_law_260 rfl (lv_at hl 3 rfl) ?_
      refine lv_iload_n hx hb d_law_261 rfl (lv_at hl 0 rfl) ?_
      refine lv_iconst (v := 2) hx hb d_law_262 (by decide) ?_
      refine lv_iadd hx hb d_law_263 ?_
      refine ld_s hx hb hX hbl I.2.2.2.2.2.2.2 (5 * k) 2 rfl rfl hL (by omega) d_law_264 ?_
      refine lv_aload_n hx hb d_law_265 rfl (lv_at hl 3 rfl) ?_
      refine lv_iload_n hx hb d_law_266 rfl (lv_at hl 0 rfl) ?_
      refine lv_iconst (v := 3) hx hb d_law_267 (by decide) ?_
      refine lv_iadd hx hb d_law_268 ?_
      refine ld_s hx hb hX hbl I.2.2.2.2.2.2.2 (5 * k) 3 rfl rfl hL (by omega) d_law_269 ?_
      refine lv_aload_n hx hb d_law_270 rfl (lv_at hl 3 rfl) ?_
      refine lv_iload_n hx hb d_law_271 rfl (lv_at hl 0 rfl) ?_
      refine lv_iconst (v := 4) hx hb d_law_272 (by decide) ?_
      refine lv_iadd hx hb d_law_273 ?_
      refine ld_s hx hb hX hbl I.2.2.2.2.2.2.2 (5 * k) 4 rfl rfl hL (by omega) d_law_274 ?_
      refine lmW (As := [.int (xs (5 * k + 1)), .int (xs (5 * k + 2)), .int (xs (5 * k + 3)), .int (xs (5 * k + 4))]) (rest := [.int (bz r)]) I S K_Mo_rule q_996 (c_Mo_rule I.2.2.2.1 h2) hK ⟨rfl, rfl⟩ ⟨Nat.le_of_ble_eq_true rfl, Nat.le_of_ble_eq_true rfl⟩ rfl hl.1 rfl (Nat.le_of_ble_eq_true rfl) d_law_275 ⟨by omega, by omega⟩ (fun H locs I => ?_)
      refine lv_icmp_eq (tgt := 633) hx hb d_law_278 rfl (fun _ => ?_) (fun hc => absurd rfl hc)
      exact back _ _ _ _ _ _ _ _ _ _ _ hJ I ⟨by omega, by omega⟩ hl
    by_cases hc3 : z = 3
    · rw [hc3]
      refine lv_tableIn (tgt := 283) hx hb d_law_32 (by decide) (by decide) rfl rfl ?_
      obtain ⟨n1, n2, r, μ', ν', h1, h2, hJ⟩ := h_link k μ δ ν hk5 hJ (xs (5 * k + 1)) (xs (5 * k + 2)) (xs (5 * k + 3))
      refine lv_aload_n hx hb d_law_283 rfl (lv_at hl 2 rfl) ?_
      refine lv_aload_n hx hb d_law_284 rfl (lv_at hl 3 rfl) ?_
      refine lv_iload_n hx hb d_law_285 rfl (lv_at hl 0 rfl) ?_
      refine lv_iconst (v := 1) hx hb d_law_286 (by decide) ?_
      refine lv_iadd hx hb d_law_287 ?_
      refine ld_s hx hb hX hbl I.2.2.2.2.2.2.2 (5 * k) 1 rfl rfl hL (by omega) d_law_288 ?_
      refine lv_aload_n hx hb d_law_289 rfl (lv_at hl 3 rfl) ?_
      refine lv_iload_n hx hb d_law_290 rfl (lv_at hl 0 rfl) ?_
      refine lv_iconst (v := 2) hx hb d_law_291 (by decide) ?_
      refine lv_iadd hx hb d_law_292 ?_
      refine ld_s hx hb hX hbl I.2.2.2.2.2.2.2 (5 * k) 2 rfl rfl hL (by omega) d_law_293 ?_
      refine lv_aload_n hx hb d_law_294 rfl (lv_at hl 3 rfl) ?_
      refine lv_iload_n hx hb d_law_295 rfl (lv_at hl 0 rfl) ?_
      refine lv_iconst (v := 3) hx hb d_law_296 (by decide) ?_
      refine lv_iadd hx hb d_law_297 ?_
      refine ld_s hx hb hX hbl I.2.2.2.2.2.2.2 (5 * k) 3 rfl rfl hL (by omega) d_law_298 ?_
      refine lxW (As := [.int (xs (5 * k + 1)), .int (xs (5 * k + 2)), .int (xs (5 * k + 3))]) (rest := []) I S K_X_link q_343 (c_X_link I.2.2.1 h1) hK ⟨rfl, rfl⟩ ⟨Nat.le_of_ble_eq_true rfl, Nat.le_of_ble_eq_true rfl⟩ rfl hl.1 rfl (Nat.le_of_ble_eq_true rfl) d_law_299 ⟨by omega, by omega⟩ (fun H locs I => ?_)
      refine lv_aload_n hx hb d_law_302 rfl (lv_at hl 1 rfl) ?_
      refine lv_aload_n hx hb d_law_303 rfl (lv_at hl 3 rfl) ?_
      refine lv_iload_n hx hb d_law_304 rfl (lv_at hl 0 rfl) ?_
      refine lv_iconst (v := 1) hx hb d_law_305 (by decide) ?_
      refine lv_iadd hx hb d_law_306 ?_
      refine ld_s hx hb hX hbl I.2.2.2.2.2.2.2 (5 * k) 1 rfl rfl hL (by omega) d_law_307 ?_
      refine lv_aload_n hx hb d_law_308 rfl (lv_at hl 3 rfl) ?_
      refine lv_iload_n hx hb d_law_309 rfl (lv_at hl 0 rfl) ?_
      refine lv_iconst (v := 2) hx hb d_law_310 (by decide) ?_
      refine lv_iadd hx hb d_law_311 ?_
      refine ld_s hx hb hX hbl I.2.2.2.2.2.2.2 (5 * k) 2 rfl rfl hL (by omega) d_law_312 ?_
      refine lv_aload_n hx hb d_law_313 rfl (lv_at hl 3 rfl) ?_
      refine lv_iload_n hx hb d_law_314 rfl (lv_at hl 0 rfl) ?_
      refine lv_iconst (v := 3) hx hb d_law_315 (by decide) ?_
      refine lv_iadd hx hb d_law_316 ?_
      refine ld_s hx hb hX hbl I.2.2.2.2.2.2.2 (5 * k) 3 rfl rfl hL (by omega) d_law_317 ?_
      refine lmW (As := [.int (xs (5 * k + 1)), .int (xs (5 * k + 2)), .int (xs (5 * k + 3))]) (rest := [.int (bz r)]) I S K_Mo_link q_1000 (c_Mo_link I.2.2.2.1 h2) hK ⟨rfl, rfl⟩ ⟨Nat.le_of_ble_eq_true rfl, Nat.le_of_ble_eq_true rfl⟩ rfl hl.1 rfl (Nat.le_of_ble_eq_true rfl) d_law_318 ⟨by omega, by omega⟩ (fun H locs I => ?_)
      refine lv_icmp_eq (tgt := 633) hx hb d_law_321 rfl (fun _ => ?_) (fun hc => absurd rfl hc)
      exact back _ _ _ _ _ _ _ _ _ _ _ hJ I ⟨by omega, by omega⟩ hl
    by_cases hc4 : z = 4
    · rw [hc4]
      refine lv_tableIn (tgt := 326) hx hb d_law_32 (by decide) (by decide) rfl rfl ?_
      obtain ⟨n1, n2, r, μ', ν', h1, h2, hJ⟩ := h_mode k μ δ ν hk5 hJ (xs (5 * k + 1)) (xs (5 * k + 2))
      refine lv_aload_n hx hb d_law_326 rfl (lv_at hl 2 rfl) ?_
      refine lv_aload_n hx hb d_law_327 rfl (lv_at hl 3 rfl) ?_
      refine lv_iload_n hx hb d_law_328 rfl (lv_at hl 0 rfl) ?_
      refine lv_iconst (v := 1) hx hb d_law_329 (by decide) ?_
      refine lv_iadd hx hb d_law_330 ?_
      refine ld_s hx hb hX hbl I.2.2.2.2.2.2.2 (5 * k) 1 rfl rfl hL (by omega) d_law_331 ?_
      refine lv_aload_n hx hb d_law_332 rfl (lv_at hl 3 rfl) ?_
      refine lv_iload_n hx hb d_law_333 rfl (lv_at hl 0 rfl) ?_
      refine lv_iconst (v := 2) hx hb d_law_334 (by decide) ?_
      refine lv_iadd hx hb d_law_335 ?_
      refine ld_s hx hb hX hbl I.2.2.2.2.2.2.2 (5 * k) 2 rfl rfl hL (by omega) d_law_336 ?_
      refine lxW (As := [.int (xs (5 * k + 1)), .int (xs (5 * k + 2))]) (rest := []) I S K_X_mode q_351 (c_X_mode I.2.2.1 h1) hK ⟨rfl, rfl⟩ ⟨Nat.le_of_ble_eq_true rfl, Nat.le_of_ble_eq_true rfl⟩ rfl hl.1 rfl (Nat.le_of_ble_eq_true rfl) d_law_337 ⟨by omega, by omega⟩ (fun H locs I => ?_)
      refine lv_aload_n hx hb d_law_340 rfl (lv_at hl 1 rfl) ?_
      refine lv_aload_n hx hb d_law_341 rfl (lv_at hl 3 rfl) ?_
      refine lv_iload_n hx hb d_law_342 rfl (lv_at hl 0 rfl) ?_
      refine lv_iconst (v := 1) hx hb d_law_343 (by decide) ?_
      refine lv_iadd hx hb d_law_344 ?_
      refine ld_s hx hb hX hbl I.2.2.2.2.2.2.2 (5 * k) 1 rfl rfl hL (by omega) d_law_345 ?_
      refine lv_aload_n hx hb d_law_346 rfl (lv_at hl 3 rfl) ?_
      refine lv_iload_n hx hb d_law_347 rfl (lv_at hl 0 rfl) ?_
      refine lv_iconst (v := 2) hx hb d_law_348 (by decide) ?_
      refine lv_iadd hx hb d_law_349 ?_
      refine ld_s hx hb hX hbl I.2.2.2.2.2.2.2 (5 * k) 2 rfl rfl hL (by omega) d_law_350 ?_
      refine lmW (As := [.int (xs (5 * k + 1)), .int (xs (5 * k + 2))]) (rest := [.int (bz r)]) I S K_Mo_mode q_1004 (c_Mo_mode I.2.2.2.1 h2) hK ⟨rfl, rfl⟩ ⟨Nat.le_of_ble_eq_true rfl, Nat.le_of_ble_eq_true rfl⟩ rfl hl.1 rfl (Nat.le_of_ble_eq_true rfl) d_law_351 ⟨by omega, by omega⟩ (fun H locs I => ?_)
      refine lv_icmp_eq (tgt := 633) hx hb d_law_354 rfl (fun _ => ?_) (fun hc => absurd rfl hc)
      exact back _ _ _ _ _ _ _ _ _ _ _ hJ I ⟨by omega, by omega⟩ hl
    by_cases hc5 : z = 5
    · rw [hc5]
      refine lv_tableIn (tgt := 359) hx hb d_law_32 (by decide) (by decide) rfl rfl ?_
      obtain ⟨n1, n2, r, μ', ν', h1, h2, hJ⟩ := h_chain k μ δ ν hk5 hJ (xs (5 * k + 1)) (xs (5 * k + 2))
      refine lv_aload_n hx hb d_law_359 rfl (lv_at hl 2 rfl) ?_
      refine lv_aload_n hx hb d_law_360 rfl (lv_at hl 3 rfl) ?_
      refine lv_iload_n hx hb d_law_361 rfl (lv_at hl 0 rfl) ?_
      refine lv_iconst (v := 1) hx hb d_law_362 (by decide) ?_
      refine lv_iadd hx hb d_law_363 ?_
      refine ld_s hx hb hX hbl I.2.2.2.2.2.2.2 (5 * k) 1 rfl rfl hL (by omega) d_law_364 ?_
      refine lv_aload_n hx hb d_law_365 rfl (lv_at hl 3 rfl) ?_
      refine lv_iload_n hx hb d_law_366 rfl (lv_at hl 0 rfl) ?_
      refine lv_iconst (v := 2) hx hb d_law_367 (by decide) ?_
      refine lv_iadd hx hb d_law_368 ?_
      refine ld_s hx hb hX hbl I.2.2.2.2.2.2.2 (5 * k) 2 rfl rfl hL (by omega) d_law_369 ?_
      refine lxW (As := [.int (xs (5 * k + 1)), .int (xs (5 * k + 2))]) (rest := []) I S K_X_chain q_359 (c_X_chain I.2.2.1 h1) hK ⟨rfl, rfl⟩ ⟨Nat.le_of_ble_eq_true rfl, Nat.le_of_ble_eq_true rfl⟩ rfl hl.1 rfl (Nat.le_of_ble_eq_true rfl) d_law_370 ⟨by omega, by omega⟩ (fun H locs I => ?_)
      refine lv_aload_n hx hb d_law_373 rfl (lv_at hl 1 rfl) ?_
      refine lv_aload_n hx hb d_law_374 rfl (lv_at hl 3 rfl) ?_
      refine lv_iload_n hx hb d_law_375 rfl (lv_at hl 0 rfl) ?_
      refine lv_iconst (v := 1) hx hb d_law_376 (by decide) ?_
      refine lv_iadd hx hb d_law_377 ?_
      refine ld_s hx hb hX hbl I.2.2.2.2.2.2.2 (5 * k) 1 rfl rfl hL (by omega) d_law_378 ?_
      refine lv_aload_n hx hb d_law_379 rfl (lv_at hl 3 rfl) ?_
      refine lv_iload_n hx hb d_law_380 rfl (lv_at hl 0 rfl) ?_
      refine lv_iconst (v := 2) hx hb d_law_381 (by decide) ?_
      refine lv_iadd hx hb d_law_382 ?_
      refine ld_s hx hb hX hbl I.2.2.2.2.2.2.2 (5 * k) 2 rfl rfl hL (by omega) d_law_383 ?_
      refine lmW (As := [.int (xs (5 * k + 1)), .int (xs (5 * k + 2))]) (rest := [.int (bz r)]) I S K_Mo_chain q_1008 (c_Mo_chain I.2.2.2.1 h2) hK ⟨rfl, rfl⟩ ⟨Nat.le_of_ble_eq_true rfl, Nat.le_of_ble_eq_true rfl⟩ rfl hl.1 rfl (Nat.le_of_ble_eq_true rfl) d_law_384 ⟨by omega, by omega⟩ (fun H locs I => ?_)
      refine lv_icmp_eq (tgt := 633) hx hb d_law_387 rfl (fun _ => ?_) (fun hc => absurd rfl hc)
      exact back _ _ _ _ _ _ _ _ _ _ _ hJ I ⟨by omega, by omega⟩ hl
    by_cases hc6 : z = 6
    · rw [hc6]
      refine lv_tableIn (tgt := 392) hx hb d_law_32 (by decide) (by decide) rfl rfl ?_
      obtain ⟨n1, n2, r, μ', ν', h1, h2, hJ⟩ := h_cost k μ δ ν hk5 hJ ()
      refine lv_aload_n hx hb d_law_392 rfl (lv_at hl 2 rfl) ?_
      refine lxW (As := []) (rest := []) I S K_X_cost q_374 (c_X_cost I.2.2.1 h1) hK ⟨rfl, rfl⟩ ⟨Nat.le_of_ble_eq_true rfl, Nat.le_of_ble_eq_true rfl⟩ rfl hl.1 rfl (Nat.le_of_ble_eq_true rfl) d_law_393 ⟨by omega, by omega⟩ (fun H locs I => ?_)
      refine lv_aload_n hx hb d_law_396 rfl (lv_at hl 1 rfl) ?_
      refine lmW (As := []) (rest := [.int r]) I S K_Mo_cost q_1012 (c_Mo_cost I.2.2.2.1 h2) hK ⟨rfl, rfl⟩ ⟨Nat.le_of_ble_eq_true rfl, Nat.le_of_ble_eq_true rfl⟩ rfl hl.1 rfl (Nat.le_of_ble_eq_true rfl) d_law_397 ⟨by omega, by omega⟩ (fun H locs I => ?_)
      refine lv_icmp_eq (tgt := 633) hx hb d_law_400 rfl (fun _ => ?_) (fun hc => absurd rfl hc)
      exact back _ _ _ _ _ _ _ _ _ _ _ hJ I ⟨by omega, by omega⟩ hl
    by_cases hc7 : z = 7
    · rw [hc7]
      refine lv_tableIn (tgt := 405) hx hb d_law_32 (by decide) (by decide) rfl rfl ?_
      obtain ⟨n1, n2, r, μ', ν', h1, h2, hJ⟩ := h_paths k μ δ ν hk5 hJ ()
      refine lv_aload_n hx hb d_law_405 rfl (lv_at hl 2 rfl) ?_
      refine lxW (As := []) (rest := []) I S K_X_paths q_585 (c_X_paths I.2.2.1 h1) hK ⟨rfl, rfl⟩ ⟨Nat.le_of_ble_eq_true rfl, Nat.le_of_ble_eq_true rfl⟩ rfl hl.1 rfl (Nat.le_of_ble_eq_true rfl) d_law_406 ⟨by omega, by omega⟩ (fun H locs I => ?_)
      refine lv_aload_n hx hb d_law_409 rfl (lv_at hl 1 rfl) ?_
      refine lmW (As := []) (rest := [.long r]) I S K_Mo_paths q_1061 (c_Mo_paths I.2.2.2.1 h2) hK ⟨rfl, rfl⟩ ⟨Nat.le_of_ble_eq_true rfl, Nat.le_of_ble_eq_true rfl⟩ rfl hl.1 rfl (Nat.le_of_ble_eq_true rfl) d_law_410 ⟨by omega, by omega⟩ (fun H locs I => ?_)
      refine W.lcmp hx hb d_law_413 ?_
      refine lv_if_eq (tgt := 633) hx hb d_law_414 rfl (fun _ => ?_) (fun hc => absurd (lg_self _) hc)
      exact back _ _ _ _ _ _ _ _ _ _ _ hJ I ⟨by omega, by omega⟩ hl
    by_cases hc8 : z = 8
    · rw [hc8]
      refine lv_tableIn (tgt := 419) hx hb d_law_32 (by decide) (by decide) rfl rfl ?_
      obtain ⟨n1, n2, r, μ', ν', h1, h2, hJ⟩ := h_nodes k μ δ ν hk5 hJ ()
      refine lv_aload_n hx hb d_law_419 rfl (lv_at hl 2 rfl) ?_
      refine lxW (As := []) (rest := []) I S K_X_nodes q_593 (c_X_nodes I.2.2.1 h1) hK ⟨rfl, rfl⟩ ⟨Nat.le_of_ble_eq_true rfl, Nat.le_of_ble_eq_true rfl⟩ rfl hl.1 rfl (Nat.le_of_ble_eq_true rfl) d_law_420 ⟨by omega, by omega⟩ (fun H locs I => ?_)
      refine lv_aload_n hx hb d_law_423 rfl (lv_at hl 1 rfl) ?_
      refine lmW (As := []) (rest := [.int r]) I S K_Mo_nodes q_1065 (c_Mo_nodes I.2.2.2.1 h2) hK ⟨rfl, rfl⟩ ⟨Nat.le_of_ble_eq_true rfl, Nat.le_of_ble_eq_true rfl⟩ rfl hl.1 rfl (Nat.le_of_ble_eq_true rfl) d_law_424 ⟨by omega, by omega⟩ (fun H locs I => ?_)
      refine lv_icmp_eq (tgt := 633) hx hb d_law_427 rfl (fun _ => ?_) (fun hc => absurd rfl hc)
      exact back _ _ _ _ _ _ _ _ _ _ _ hJ I ⟨by omega, by omega⟩ hl
    by_cases hc9 : z = 9
    · rw [hc9]
      refine lv_tableIn (tgt := 432) hx hb d_law_32 (by decide) (by decide) rfl rfl ?_
      obtain ⟨n1, n2, r, μ', ν', h1, h2, hJ⟩ := h_tokens k μ δ ν hk5 hJ ()
      refine lv_aload_n hx hb d_law_432 rfl (lv_at hl 2 rfl) ?_
      refine lxW (As := []) (rest := []) I S K_X_tokens q_598 (c_X_tokens I.2.2.1 h1) hK ⟨rfl, rfl⟩ ⟨Nat.le_of_ble_eq_true rfl, Nat.le_of_ble_eq_true rfl⟩ rfl hl.1 rfl (Nat.le_of_ble_eq_true rfl) d_law_433 ⟨by omega, by omega⟩ (fun H locs I => ?_)
      refine lv_aload_n hx hb d_law_436 rfl (lv_at hl 1 rfl) ?_
      refine lmW (As := []) (rest := [.int r]) I S K_Mo_tokens q_1069 (c_Mo_tokens I.2.2.2.1 h2) hK ⟨rfl, rfl⟩ ⟨Nat.le_of_ble_eq_true rfl, Nat.le_of_ble_eq_true rfl⟩ rfl hl.1 rfl (Nat.le_of_ble_eq_true rfl) d_law_437 ⟨by omega, by omega⟩ (fun H locs I => ?_)
      refine lv_icmp_eq (tgt := 633) hx hb d_law_440 rfl (fun _ => ?_) (fun hc => absurd rfl hc)
      exact back _ _ _ _ _ _ _ _ _ _ _ hJ I ⟨by omega, by omega⟩ hl
    by_cases hc10 : z = 10
    · rw [hc10]
      refine lv_tableIn (tgt := 445) hx hb d_law_32 (by decide) (by decide) rfl rfl ?_
      obtain ⟨n1, n2, r, μ', ν', h1, h2, hJ⟩ := h_token k μ δ ν hk5 hJ (xs (5 * k + 1)) (xs (5 * k + 2))
      refine lv_aload_n hx hb d_law_445 rfl (lv_at hl 2 rfl) ?_
      refine lv_aload_n hx hb d_law_446 rfl (lv_at hl 3 rfl) ?_
      refine lv_iload_n hx hb d_law_447 rfl (lv_at hl 0 rfl) ?_
      refine lv_iconst (v := 1) hx hb d_law_448 (by decide) ?_
      refine lv_iadd hx hb d_law_449 ?_
      refine ld_s hx hb hX hbl I.2.2.2.2.2.2.2 (5 * k) 1 rfl rfl hL (by omega) d_law_450 ?_
      refine lv_aload_n hx hb d_law_451 rfl (lv_at hl 3 rfl) ?_
      refine lv_iload_n hx hb d_law_452 rfl (lv_at hl 0 rfl) ?_
      refine lv_iconst (v := 2) hx hb d_law_453 (by decide) ?_
      refine lv_iadd hx hb d_law_454 ?_
      refine ld_s hx hb hX hbl I.2.2.2.2.2.2.2 (5 * k) 2 rfl rfl hL (by omega) d_law_455 ?_
      refine lxW (As := [.int (xs (5 * k + 1)), .int (xs (5 * k + 2))]) (rest := []) I S K_X_token q_606 (c_X_token I.2.2.1 h1) hK ⟨rfl, rfl⟩ ⟨Nat.le_of_ble_eq_true rfl, Nat.le_of_ble_eq_true rfl⟩ rfl hl.1 rfl (Nat.le_of_ble_eq_true rfl) d_law_456 ⟨by omega, by omega⟩ (fun H locs I => ?_)
      refine lv_aload_n hx hb d_law_459 rfl (lv_at hl 1 rfl) ?_
      refine lv_aload_n hx hb d_law_460 rfl (lv_at hl 3 rfl) ?_
      refine lv_iload_n hx hb d_law_461 rfl (lv_at hl 0 rfl) ?_
      refine lv_iconst (v := 1) hx hb d_law_462 (by decide) ?_
      refine lv_iadd hx hb d_law_463 ?_
      refine ld_s hx hb hX hbl I.2.2.2.2.2.2.2 (5 * k) 1 rfl rfl hL (by omega) d_law_464 ?_
      refine lv_aload_n hx hb d_law_465 rfl (lv_at hl 3 rfl) ?_
      refine lv_iload_n hx hb d_law_466 rfl (lv_at hl 0 rfl) ?_
      refine lv_iconst (v := 2) hx hb d_law_467 (by decide) ?_
      refine lv_iadd hx hb d_law_468 ?_
      refine ld_s hx hb hX hbl I.2.2.2.2.2.2.2 (5 * k) 2 rfl rfl hL (by omega) d_law_469 ?_
      refine lmW (As := [.int (xs (5 * k + 1)), .int (xs (5 * k + 2))]) (rest := [.int r]) I S K_Mo_token q_1081 (c_Mo_token I.2.2.2.1 h2) hK ⟨rfl, rfl⟩ ⟨Nat.le_of_ble_eq_true rfl, Nat.le_of_ble_eq_true rfl⟩ rfl hl.1 rfl (Nat.le_of_ble_eq_true rfl) d_law_470 ⟨by omega, by omega⟩ (fun H locs I => ?_)
      refine lv_icmp_eq (tgt := 633) hx hb d_law_473 rfl (fun _ => ?_) (fun hc => absurd rfl hc)
      exact back _ _ _ _ _ _ _ _ _ _ _ hJ I ⟨by omega, by omega⟩ hl
    by_cases hc11 : z = 11
    · rw [hc11]
      refine lv_tableIn (tgt := 478) hx hb d_law_32 (by decide) (by decide) rfl rfl ?_
      obtain ⟨n1, n2, r, μ', ν', h1, h2, hJ⟩ := h_term k μ δ ν hk5 hJ (xs (5 * k + 1))
      refine lv_aload_n hx hb d_law_478 rfl (lv_at hl 2 rfl) ?_
      refine lv_aload_n hx hb d_law_479 rfl (lv_at hl 3 rfl) ?_
      refine lv_iload_n hx hb d_law_480 rfl (lv_at hl 0 rfl) ?_
      refine lv_iconst (v := 1) hx hb d_law_481 (by decide) ?_
      refine lv_iadd hx hb d_law_482 ?_
      refine ld_s hx hb hX hbl I.2.2.2.2.2.2.2 (5 * k) 1 rfl rfl hL (by omega) d_law_483 ?_
      refine lxW (As := [.int (xs (5 * k + 1))]) (rest := []) I S K_X_term q_644 (c_X_term I.2.2.1 h1) hK ⟨rfl, rfl⟩ ⟨Nat.le_of_ble_eq_true rfl, Nat.le_of_ble_eq_true rfl⟩ rfl hl.1 rfl (Nat.le_of_ble_eq_true rfl) d_law_484 ⟨by omega, by omega⟩ (fun H locs I => ?_)
      refine lv_aload_n hx hb d_law_487 rfl (lv_at hl 1 rfl) ?_
      refine lv_aload_n hx hb d_law_488 rfl (lv_at hl 3 rfl) ?_
      refine lv_iload_n hx hb d_law_489 rfl (lv_at hl 0 rfl) ?_
      refine lv_iconst (v := 1) hx hb d_law_490 (by decide) ?_
      refine lv_iadd hx hb d_law_491 ?_
      refine ld_s hx hb hX hbl I.2.2.2.2.2.2.2 (5 * k) 1 rfl rfl hL (by omega) d_law_492 ?_
      refine lmW (As := [.int (xs (5 * k + 1))]) (rest := [.long r]) I S K_Mo_term q_1089 (c_Mo_term I.2.2.2.1 h2) hK ⟨rfl, rfl⟩ ⟨Nat.le_of_ble_eq_true rfl, Nat.le_of_ble_eq_true rfl⟩ rfl hl.1 rfl (Nat.le_of_ble_eq_true rfl) d_law_493 ⟨by omega, by omega⟩ (fun H locs I => ?_)
      refine W.lcmp hx hb d_law_496 ?_
      refine lv_if_eq (tgt := 633) hx hb d_law_497 rfl (fun _ => ?_) (fun hc => absurd (lg_self _) hc)
      exact back _ _ _ _ _ _ _ _ _ _ _ hJ I ⟨by omega, by omega⟩ hl
    by_cases hc12 : z = 12
    · rw [hc12]
      refine lv_tableIn (tgt := 502) hx hb d_law_32 (by decide) (by decide) rfl rfl ?_
      obtain ⟨r, μ', δ', n2, ν', h1, h2, hJ⟩ := h_add l k μ δ ν hk5 hJ
      refine lv_aload_n hx hb d_law_502 rfl (lv_at hl 2 rfl) ?_
      refine lxA I S q_670 h1 hO hK ⟨Nat.le_of_ble_eq_true rfl, Nat.le_of_ble_eq_true rfl⟩ hl.1 (Nat.le_of_ble_eq_true rfl) d_law_503 ⟨by omega, by omega⟩ (fun Ax dr pl H locs I => ?_)
      refine lv_aload_n hx hb d_law_506 rfl (lv_at hl 1 rfl) ?_
      refine lmW (As := []) (rest := [.int r]) I S K_Mo_add q_1109 (c_Mo_add I.2.2.2.1 h2) hK ⟨rfl, rfl⟩ ⟨Nat.le_of_ble_eq_true rfl, Nat.le_of_ble_eq_true rfl⟩ rfl hl.1 rfl (Nat.le_of_ble_eq_true rfl) d_law_507 ⟨by omega, by omega⟩ (fun H locs I => ?_)
      refine lv_icmp_eq (tgt := 633) hx hb d_law_510 rfl (fun _ => ?_) (fun hc => absurd rfl hc)
      exact back _ _ _ _ _ _ _ _ _ _ _ hJ I ⟨by omega, by omega⟩ hl
    by_cases hc13 : z = 13
    · rw [hc13]
      refine lv_tableIn (tgt := 515) hx hb d_law_32 (by decide) (by decide) rfl rfl ?_
      obtain ⟨n1, n2, r, μ', ν', h1, h2, hJ⟩ := h_drop k μ δ ν hk5 hJ (xs (5 * k + 1))
      refine lv_aload_n hx hb d_law_515 rfl (lv_at hl 2 rfl) ?_
      refine lv_aload_n hx hb d_law_516 rfl (lv_at hl 3 rfl) ?_
      refine lv_iload_n hx hb d_law_517 rfl (lv_at hl 0 rfl) ?_
      refine lv_iconst (v := 1) hx hb d_law_518 (by decide) ?_
      refine lv_iadd hx hb d_law_519 ?_
      refine ld_s hx hb hX hbl I.2.2.2.2.2.2.2 (5 * k) 1 rfl rfl hL (by omega) d_law_520 ?_
      refine lxW (As := [.int (xs (5 * k + 1))]) (rest := []) I S K_X_drop q_716 (c_X_drop I.2.2.1 h1) hK ⟨rfl, rfl⟩ ⟨Nat.le_of_ble_eq_true rfl, Nat.le_of_ble_eq_true rfl⟩ rfl hl.1 rfl (Nat.le_of_ble_eq_true rfl) d_law_521 ⟨by omega, by omega⟩ (fun H locs I => ?_)
      refine lv_aload_n hx hb d_law_524 rfl (lv_at hl 1 rfl) ?_
      refine lv_aload_n hx hb d_law_525 rfl (lv_at hl 3 rfl) ?_
      refine lv_iload_n hx hb d_law_526 rfl (lv_at hl 0 rfl) ?_
      refine lv_iconst (v := 1) hx hb d_law_527 (by decide) ?_
      refine lv_iadd hx hb d_law_528 ?_
      refine ld_s hx hb hX hbl I.2.2.2.2.2.2.2 (5 * k) 1 rfl rfl hL (by omega) d_law_529 ?_
      refine lmW (As := [.int (xs (5 * k + 1))]) (rest := [.int (bz r)]) I S K_Mo_drop q_1121 (c_Mo_drop I.2.2.2.1 h2) hK ⟨rfl, rfl⟩ ⟨Nat.le_of_ble_eq_true rfl, Nat.le_of_ble_eq_true rfl⟩ rfl hl.1 rfl (Nat.le_of_ble_eq_true rfl) d_law_530 ⟨by omega, by omega⟩ (fun H locs I => ?_)
      refine lv_icmp_eq (tgt := 633) hx hb d_law_533 rfl (fun _ => ?_) (fun hc => absurd rfl hc)
      exact back _ _ _ _ _ _ _ _ _ _ _ hJ I ⟨by omega, by omega⟩ hl
    by_cases hc14 : z = 14
    · rw [hc14]
      refine lv_tableIn (tgt := 538) hx hb d_law_32 (by decide) (by decide) rfl rfl ?_
      obtain ⟨n1, n2, r, μ', ν', h1, h2, hJ⟩ := h_flush k μ δ ν hk5 hJ ()
      refine lv_aload_n hx hb d_law_538 rfl (lv_at hl 2 rfl) ?_
      refine lxW (As := []) (rest := []) I S K_X_flush q_728 (c_X_flush I.2.2.2.2.1 I.2.2.1 h1) hK ⟨rfl, rfl⟩ ⟨Nat.le_of_ble_eq_true rfl, Nat.le_of_ble_eq_true rfl⟩ rfl hl.1 rfl (Nat.le_of_ble_eq_true rfl) d_law_539 ⟨by omega, by omega⟩ (fun H locs I => ?_)
      refine lv_aload_n hx hb d_law_542 rfl (lv_at hl 1 rfl) ?_
      refine lmW (As := []) (rest := [.int r]) I S K_Mo_flush q_1125 (c_Mo_flush I.2.2.2.1 h2) hK ⟨rfl, rfl⟩ ⟨Nat.le_of_ble_eq_true rfl, Nat.le_of_ble_eq_true rfl⟩ rfl hl.1 rfl (Nat.le_of_ble_eq_true rfl) d_law_543 ⟨by omega, by omega⟩ (fun H locs I => ?_)
      refine lv_icmp_eq (tgt := 633) hx hb d_law_546 rfl (fun _ => ?_) (fun hc => absurd rfl hc)
      exact back _ _ _ _ _ _ _ _ _ _ _ hJ I ⟨by omega, by omega⟩ hl
    by_cases hc15 : z = 15
    · rw [hc15]
      refine lv_tableIn (tgt := 551) hx hb d_law_32 (by decide) (by decide) rfl rfl ?_
      obtain ⟨n1, n2, r, h1, h2, hJ⟩ := h_segment k μ δ ν hk5 hJ (xs (5 * k + 1))
      refine lv_aload_n hx hb d_law_551 rfl (lv_at hl 2 rfl) ?_
      refine lv_aload_n hx hb d_law_552 rfl (lv_at hl 3 rfl) ?_
      refine lv_iload_n hx hb d_law_553 rfl (lv_at hl 0 rfl) ?_
      refine lv_iconst (v := 1) hx hb d_law_554 (by decide) ?_
      refine lv_iadd hx hb d_law_555 ?_
      refine ld_s hx hb hX hbl I.2.2.2.2.2.2.2 (5 * k) 1 rfl rfl hL (by omega) d_law_556 ?_
      refine lxR (As := [.int (xs (5 * k + 1))]) (rest := []) I S K_X_segment q_760 (c_X_segment h1) hK ⟨rfl, rfl⟩ ⟨Nat.le_of_ble_eq_true rfl, Nat.le_of_ble_eq_true rfl⟩ rfl hl.1 rfl (Nat.le_of_ble_eq_true rfl) d_law_557 ⟨by omega, by omega⟩ ?_
      refine lv_aload_n hx hb d_law_560 rfl (lv_at hl 1 rfl) ?_
      refine lv_aload_n hx hb d_law_561 rfl (lv_at hl 3 rfl) ?_
      refine lv_iload_n hx hb d_law_562 rfl (lv_at hl 0 rfl) ?_
      refine lv_iconst (v := 1) hx hb d_law_563 (by decide) ?_
      refine lv_iadd hx hb d_law_564 ?_
      refine ld_s hx hb hX hbl I.2.2.2.2.2.2.2 (5 * k) 1 rfl rfl hL (by omega) d_law_565 ?_
      refine lmR (As := [.int (xs (5 * k + 1))]) (rest := [.int r]) I S K_Mo_segment q_1137 (c_Mo_segment h2) hK ⟨rfl, rfl⟩ ⟨Nat.le_of_ble_eq_true rfl, Nat.le_of_ble_eq_true rfl⟩ rfl hl.1 rfl (Nat.le_of_ble_eq_true rfl) d_law_566 ⟨by omega, by omega⟩ ?_
      refine lv_icmp_eq (tgt := 633) hx hb d_law_569 rfl (fun _ => ?_) (fun hc => absurd rfl hc)
      exact back _ _ _ _ _ _ _ _ _ _ _ hJ I ⟨by omega, by omega⟩ hl
    by_cases hc16 : z = 16
    · rw [hc16]
      refine lv_tableIn (tgt := 574) hx hb d_law_32 (by decide) (by decide) rfl rfl ?_
      obtain ⟨n1, n2, r, μ', ν', h1, h2, hJ⟩ := h_open k μ δ ν hk5 hJ ()
      refine lv_aload_n hx hb d_law_574 rfl (lv_at hl 2 rfl) ?_
      refine lxW (As := []) (rest := []) I S K_X_open q_769 (c_X_open I.2.2.1 h1) hK ⟨rfl, rfl⟩ ⟨Nat.le_of_ble_eq_true rfl, Nat.le_of_ble_eq_true rfl⟩ rfl hl.1 rfl (Nat.le_of_ble_eq_true rfl) d_law_575 ⟨by omega, by omega⟩ (fun H locs I => ?_)
      refine lv_aload_n hx hb d_law_578 rfl (lv_at hl 1 rfl) ?_
      refine lmW (As := []) (rest := [.int r]) I S K_Mo_open q_1141 (c_Mo_open I.2.2.2.1 h2) hK ⟨rfl, rfl⟩ ⟨Nat.le_of_ble_eq_true rfl, Nat.le_of_ble_eq_true rfl⟩ rfl hl.1 rfl (Nat.le_of_ble_eq_true rfl) d_law_579 ⟨by omega, by omega⟩ (fun H locs I => ?_)
      refine lv_icmp_eq (tgt := 633) hx hb d_law_582 rfl (fun _ => ?_) (fun hc => absurd rfl hc)
      exact back _ _ _ _ _ _ _ _ _ _ _ hJ I ⟨by omega, by omega⟩ hl
    by_cases hc17 : z = 17
    · rw [hc17]
      refine lv_tableIn (tgt := 587) hx hb d_law_32 (by decide) (by decide) rfl rfl ?_
      obtain ⟨n1, n2, r, μ', ν', h1, h2, hJ⟩ := h_match k μ δ ν hk5 hJ (xs (5 * k + 1))
      refine lv_aload_n hx hb d_law_587 rfl (lv_at hl 2 rfl) ?_
      refine lv_aload_n hx hb d_law_588 rfl (lv_at hl 3 rfl) ?_
      refine lv_iload_n hx hb d_law_589 rfl (lv_at hl 0 rfl) ?_
      refine lv_iconst (v := 1) hx hb d_law_590 (by decide) ?_
      refine lv_iadd hx hb d_law_591 ?_
      refine ld_s hx hb hX hbl I.2.2.2.2.2.2.2 (5 * k) 1 rfl rfl hL (by omega) d_law_592 ?_
      refine lxW (As := [.int (xs (5 * k + 1))]) (rest := []) I S K_X_match q_777 (c_X_match I.2.2.2.2.1 I.2.2.1 h1) hK ⟨rfl, rfl⟩ ⟨Nat.le_of_ble_eq_true rfl, Nat.le_of_ble_eq_true rfl⟩ rfl hl.1 rfl (Nat.le_of_ble_eq_true rfl) d_law_593 ⟨by omega, by omega⟩ (fun H locs I => ?_)
      refine lv_aload_n hx hb d_law_596 rfl (lv_at hl 1 rfl) ?_
      refine lv_aload_n hx hb d_law_597 rfl (lv_at hl 3 rfl) ?_
      refine lv_iload_n hx hb d_law_598 rfl (lv_at hl 0 rfl) ?_
      refine lv_iconst (v := 1) hx hb d_law_599 (by decide) ?_
      refine lv_iadd hx hb d_law_600 ?_
      refine ld_s hx hb hX hbl I.2.2.2.2.2.2.2 (5 * k) 1 rfl rfl hL (by omega) d_law_601 ?_
      refine lmW (As := [.int (xs (5 * k + 1))]) (rest := [.int r]) I S K_Mo_match q_1145 (c_Mo_match I.2.2.2.1 h2) hK ⟨rfl, rfl⟩ ⟨Nat.le_of_ble_eq_true rfl, Nat.le_of_ble_eq_true rfl⟩ rfl hl.1 rfl (Nat.le_of_ble_eq_true rfl) d_law_602 ⟨by omega, by omega⟩ (fun H locs I => ?_)
      refine lv_icmp_eq (tgt := 633) hx hb d_law_605 rfl (fun _ => ?_) (fun hc => absurd rfl hc)
      exact back _ _ _ _ _ _ _ _ _ _ _ hJ I ⟨by omega, by omega⟩ hl
    by_cases hc18 : z = 18
    · rw [hc18]
      refine lv_tableIn (tgt := 610) hx hb d_law_32 (by decide) (by decide) rfl rfl ?_
      obtain ⟨n1, n2, r, μ', ν', h1, h2, hJ⟩ := h_places k μ δ ν hk5 hJ (xs (5 * k + 1))
      refine lv_aload_n hx hb d_law_610 rfl (lv_at hl 2 rfl) ?_
      refine lv_aload_n hx hb d_law_611 rfl (lv_at hl 3 rfl) ?_
      refine lv_iload_n hx hb d_law_612 rfl (lv_at hl 0 rfl) ?_
      refine lv_iconst (v := 1) hx hb d_law_613 (by decide) ?_
      refine lv_iadd hx hb d_law_614 ?_
      refine ld_s hx hb hX hbl I.2.2.2.2.2.2.2 (5 * k) 1 rfl rfl hL (by omega) d_law_615 ?_
      refine lxW (As := [.int (xs (5 * k + 1))]) (rest := []) I S K_X_places q_808 (c_X_places I.2.2.2.2.1 I.2.2.1 h1) hK ⟨rfl, rfl⟩ ⟨Nat.le_of_ble_eq_true rfl, Nat.le_of_ble_eq_true rfl⟩ rfl hl.1 rfl (Nat.le_of_ble_eq_true rfl) d_law_616 ⟨by omega, by omega⟩ (fun H locs I => ?_)
      refine lv_aload_n hx hb d_law_619 rfl (lv_at hl 1 rfl) ?_
      refine lv_aload_n hx hb d_law_620 rfl (lv_at hl 3 rfl) ?_
      refine lv_iload_n hx hb d_law_621 rfl (lv_at hl 0 rfl) ?_
      refine lv_iconst (v := 1) hx hb d_law_622 (by decide) ?_
      refine lv_iadd hx hb d_law_623 ?_
      refine ld_s hx hb hX hbl I.2.2.2.2.2.2.2 (5 * k) 1 rfl rfl hL (by omega) d_law_624 ?_
      refine lmW (As := [.int (xs (5 * k + 1))]) (rest := [.int r]) I S K_Mo_places q_1161 (c_Mo_places I.2.2.2.1 h2) hK ⟨rfl, rfl⟩ ⟨Nat.le_of_ble_eq_true rfl, Nat.le_of_ble_eq_true rfl⟩ rfl hl.1 rfl (Nat.le_of_ble_eq_true rfl) d_law_625 ⟨by omega, by omega⟩ (fun H locs I => ?_)
      refine lv_icmp_eq (tgt := 633) hx hb d_law_628 rfl (fun _ => ?_) (fun hc => absurd rfl hc)
      exact back _ _ _ _ _ _ _ _ _ _ _ hJ I ⟨by omega, by omega⟩ hl
    have hz0 : ¬ z.toInt = 0 := lv_neT hc0 (by decide)
    have hz1 : ¬ z.toInt = 1 := lv_neT hc1 (by decide)
    have hz2 : ¬ z.toInt = 2 := lv_neT hc2 (by decide)
    have hz3 : ¬ z.toInt = 3 := lv_neT hc3 (by decide)
    have hz4 : ¬ z.toInt = 4 := lv_neT hc4 (by decide)
    have hz5 : ¬ z.toInt = 5 := lv_neT hc5 (by decide)
    have hz6 : ¬ z.toInt = 6 := lv_neT hc6 (by decide)
    have hz7 : ¬ z.toInt = 7 := lv_neT hc7 (by decide)
    have hz8 : ¬ z.toInt = 8 := lv_neT hc8 (by decide)
    have hz9 : ¬ z.toInt = 9 := lv_neT hc9 (by decide)
    have hz10 : ¬ z.toInt = 10 := lv_neT hc10 (by decide)
    have hz11 : ¬ z.toInt = 11 := lv_neT hc11 (by decide)
    have hz12 : ¬ z.toInt = 12 := lv_neT hc12 (by decide)
    have hz13 : ¬ z.toInt = 13 := lv_neT hc13 (by decide)
    have hz14 : ¬ z.toInt = 14 := lv_neT hc14 (by decide)
    have hz15 : ¬ z.toInt = 15 := lv_neT hc15 (by decide)
    have hz16 : ¬ z.toInt = 16 := lv_neT hc16 (by decide)
    have hz17 : ¬ z.toInt = 17 := lv_neT hc17 (by decide)
    have hz18 : ¬ z.toInt = 18 := lv_neT hc18 (by decide)
    refine lv_tableOut (tgt := 633) hx hb d_law_32 (by omega) rfl ?_
    exact back _ _ _ _ _ _ _ _ _ _ _ (h_none k μ δ ν hk5 hJ) I ⟨by omega, by omega⟩ hl
