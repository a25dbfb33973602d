/-! THE CLAIM OUT OF ONE WALK OF THE LAW'S BODY. Your part is whole_start (and what it stands on); all else here is the same for every law, but numbers. -/
def R_law : String := "MirrorLaneLaw"
def lw_P (b : Addr) (xs : List Int32) (args : Array Value) (s : State) : Prop := args = #[.ref b] ∧ s.IntsAt b xs ∧ xs.length ≤ 4096 ∧ (Jvm.Cond.and given_1 narrow_1).before args s = true
def lw_Q (_ : Array Value) (s : State) (o : Outcome) (t : State) : Prop := o = .returned (some (.int 1)) ∧ Framed s o t [] 600000 7302249
def lw_Z (below : List Frame) (a : Array Value) (s : State) : State → Prop := fun t => ∃ o, t.status = .running ∧ Ended t below o ∧ lw_Q a s o t
/-- the law's own end, with 1 on the stack, nothing written that was there before, its room as the claim has it -/
theorem lw_ret {p : Program} {l : Launch} {e : Env} {s : State} {m : MethodId} {below : List Frame} {meth : Method} {c : Code} {b : Nat} (hx : p.tables.exec = Jvm.exec) (hb : c.code = code) (hr : meth.sig.returnType = ret) (hlocks : meth.locks = false) {pc : Nat} {H : Heap} {ls : Array Slot} (hdg : decode code pc = .ok (.ireturn, 1)) : W p l e room_1 s m #[Value.ref b] below meth c H [] 600000 7302249 (lw_Z below #[Value.ref b] s) (F0 m pc ls [.int 1]) := by
  intro T hT X
  obtain ⟨fs, hret, hrun, hended, hW, hframe⟩ := X.leave (v := some (.int 1)) (hlocks := hlocks) (fun h => by rw [hr] at h; cases h)
  have hmeth' : T.vm.method? m = some meth := X.method'
  refine ⟨T.setFrames fs, ?_, .returned (some (.int 1)), hrun, hended, rfl, ⟨_, rfl⟩, hW, hframe⟩
  jvm_step X.here [X.here.top, hx, hb, hdg, hmeth', hr, ret, narrow_b1]
  (try refine ⟨rfl, ?_⟩); (try refine ⟨rfl, ?_⟩)
  first | (intro acts; rw [hret _ acts rfl rfl rfl]) | rw [hret _ _ rfl rfl rfl]
  exact Steps.refl _
/-- what holds at the law's entry: the machine, the code, the tables' words (any of lw_tbl by 'hts w (by decide +kernel)'), the script of L ints xs at the cell b, what the Statement gives of the start (any of its parts by flat_of_before) -/
def lw_At (p : Program) (s : State) (m : MethodId) (meth : Method) (c : Code) (b L : Nat) (xs : Nat → Int32) : Prop :=
  p.tables.exec = Jvm.exec ∧ c.code = code ∧ meth.sig.returnType = ret ∧ c.maxLocals = 4 ∧ s.vm.findClass R_law = some m.cls ∧ (∀ w ∈ lw_tbl, w.before #[Value.ref b] s = true) ∧ va_X b L xs s s.heap ∧ b < s.heap.size ∧ meth.locks = false ∧ (Jvm.Cond.and given_1 narrow_1).before #[Value.ref b] s = true
def lw_S (s : State) (base b : Nat) (L : Int) (xs : Nat → Int32) (Q : Int → Int) : Prop := va_X b L.toNat xs s s.heap ∧ b < s.heap.size ∧ b ≤ base ∧ (0 ≤ L ∧ L ≤ 100000 ∧ s.heap.size = base + 1) ∧ I32 L ∧ (∀ i, I32 (Q i)) ∧ ∀ i : Int, 0 ≤ i → Int32.ofInt (Q i) = xs i.toNat
section MLW
variable {p : Program} {l : Launch} {e : Env} {R : Room} {s : State} {m : MethodId} {args : Array Value} {below : List Frame} {meth : Method} {c : Code} {Qs : State → Prop} {base b : Nat} {D : va_G} {cA : Nat → ClassId} {kc ks rr n : Nat} {σ : ml_St} {cc : ByteArray} {nL pc : Nat} {own : String} {rt : Option FieldType} {ls : Array Slot} {rest : List Value} {L : Int} {xs : Nat → Int32} {Q : Int → Int}
theorem ml_sld (X : ml_X p s m c meth args D cA cc nL own rt) (hn : lw_S s base b L xs Q) {i : Int} (h0 : 0 ≤ i) (h1 : i < L) (d : decode cc pc = .ok (.iaload, 1)) (kk : ml_V p l e R s m args below meth c Qs base D cA kc ks rr n σ (F0 m (pc + 1) ls (.int (Int32.ofInt (Q i)) :: rest))) : ml_V p l e R s m args below meth c Qs base D cA kc ks rr n σ (F0 m pc ls (.int (Int32.ofInt i) :: .ref b :: rest)) := by
  intro H locs h1' h2 h3 h4
  obtain ⟨g1, g2, g3, g4, g5, g6, g7⟩ := hn
  refine va_sld X.1 X.2.1 g1 g2 (fun q => by have q : base < b := q; omega) h2 (ml_vin (N := L.toNat) h0 (by omega) (by omega)) d ?_
  rw [ml_cl h0 (by omega), ← g7 i h0]
  exact kk H locs h1' h2 h3 h4
theorem ml_slen (X : ml_X p s m c meth args D cA cc nL own rt) (hn : lw_S s base b L xs Q) (d : decode cc pc = .ok (.arraylength, 1)) (kk : ml_V p l e R s m args below meth c Qs base D cA kc ks rr n σ (F0 m (pc + 1) ls (.int (Int32.ofInt L) :: rest))) : ml_V p l e R s m args below meth c Qs base D cA kc ks rr n σ (F0 m pc ls (.ref b :: rest)) := by
  intro H locs h1' h2 h3 h4
  obtain ⟨g1, g2, g3, g4, g5, g6, g7⟩ := hn
  refine va_slen X.1 X.2.1 g1 g2 (fun q => by have q : base < b := q; omega) h2 d ?_
  have e : Int32.ofNat L.toNat = Int32.ofInt L := by
    have : ((L.toNat : Nat) : Int) = L := by omega
    rw [← this]
    rfl
  rw [e]
  exact kk H locs h1' h2 h3 h4
theorem ml_lawret (X : ml_X p s m c meth #[Value.ref b] D cA cL_law nL RL ret) (hn : lw_S s base b L xs Q) (d : decode cL_law pc = .ok (.ireturn, 1)) (hkc : kc ≤ 600000 := by decide) (hks : ks ≤ 7302249 := by decide) : ml_V p l e room_1 s m #[Value.ref b] below meth c (lw_Z below #[Value.ref b] s) base D cA kc ks rr n σ (F0 m pc ls [.int (Int32.ofInt 1)]) := by
  intro H locs h1' h2 h3 h4
  refine va_forget (fun q hq => ?_) ?_
  · have h5 : base < q.base := h2.2.2 q hq
    have h6 := hn.2.2.2.1.2.2
    rw [h6]
    exact h5
  · exact W.widen (k := 600000) (n := 7302249) hkc hks (lw_ret X.1 X.2.1 X.2.2.2.2.2.2.2 X.2.2.2.2.2.2.1 d)
end MLW
theorem dL_law_0 : decode cL_law 0 = .ok (.new 7, 3) := by decide +kernel
theorem dL_law_3 : decode cL_law 3 = .ok (.dup, 1) := by decide +kernel
theorem dL_law_4 : decode cL_law 4 = .ok (.invokespecial 9, 3) := by decide +kernel
theorem dL_law_7 : decode cL_law 7 = .ok (.astore_n 1, 1) := by decide +kernel
theorem dL_law_8 : decode cL_law 8 = .ok (.new 10, 3) := by decide +kernel
theorem dL_law_11 : decode cL_law 11 = .ok (.dup, 1) := by decide +kernel
theorem dL_law_12 : decode cL_law 12 = .ok (.invokespecial 12, 3) := by decide +kernel
theorem dL_law_15 : decode cL_law 15 = .ok (.astore_n 2, 1) := by decide +kernel
theorem dL_law_16 : decode cL_law 16 = .ok (.iconst 0, 1) := by decide +kernel
theorem dL_law_17 : decode cL_law 17 = .ok (.istore_n 3, 1) := by decide +kernel
theorem dL_law_18 : decode cL_law 18 = .ok (.iload_n 3, 1) := by decide +kernel
theorem dL_law_19 : decode cL_law 19 = .ok (.aload_n 0, 1) := by decide +kernel
theorem dL_law_20 : decode cL_law 20 = .ok (.arraylength, 1) := by decide +kernel
theorem dL_law_21 : decode cL_law 21 = .ok (.bipush 8, 2) := by decide +kernel
theorem dL_law_23 : decode cL_law 23 = .ok (.isub, 1) := by decide +kernel
theorem dL_law_24 : decode cL_law 24 = .ok (.if_icmp .gt 1164, 3) := by decide +kernel
theorem dL_law_27 : decode cL_law 27 = .ok (.aload_n 0, 1) := by decide +kernel
theorem dL_law_28 : decode cL_law 28 = .ok (.iload_n 3, 1) := by decide +kernel
theorem dL_law_29 : decode cL_law 29 = .ok (.iaload, 1) := by decide +kernel
theorem dL_law_30 : decode cL_law 30 = .ok (.bipush 31, 2) := by decide +kernel
theorem dL_law_32 : decode cL_law 32 = .ok (.iand, 1) := by decide +kernel
theorem dL_law_33 : decode cL_law 33 = .ok (.tableswitch 1149 0 26 #[123, 146, 209, 232, 265, 278, 291, 314, 347, 380, 414, 447, 480, 543, 690, 753, 796, 829, 872, 895, 938, 971, 1014, 1037, 1060, 1103, 1126], 123) := by decide +kernel
theorem dL_law_156 : decode cL_law 156 = .ok (.aload_n 1, 1) := by decide +kernel
theorem dL_law_157 : decode cL_law 157 = .ok (.aload_n 0, 1) := by decide +kernel
theorem dL_law_158 : decode cL_law 158 = .ok (.iload_n 3, 1) := by decide +kernel
theorem dL_law_159 : decode cL_law 159 = .ok (.iconst 1, 1) := by decide +kernel
theorem dL_law_160 : decode cL_law 160 = .ok (.iadd, 1) := by decide +kernel
theorem dL_law_161 : decode cL_law 161 = .ok (.iaload, 1) := by decide +kernel
theorem dL_law_162 : decode cL_law 162 = .ok (.invokevirtual 13, 3) := by decide +kernel
theorem dL_law_165 : decode cL_law 165 = .ok (.pop, 1) := by decide +kernel
theorem dL_law_166 : decode cL_law 166 = .ok (.aload_n 2, 1) := by decide +kernel
theorem dL_law_167 : decode cL_law 167 = .ok (.aload_n 0, 1) := by decide +kernel
theorem dL_law_168 : decode cL_law 168 = .ok (.iload_n 3, 1) := by decide +kernel
theorem dL_law_169 : decode cL_law 169 = .ok (.iconst 1, 1) := by decide +kernel
theorem dL_law_170 : decode cL_law 170 = .ok (.iadd, 1) := by decide +kernel
theorem dL_law_171 : decode cL_law 171 = .ok (.iaload, 1) := by decide +kernel
theorem dL_law_172 : decode cL_law 172 = .ok (.invokevirtual 17, 3) := by decide +kernel
theorem dL_law_175 : decode cL_law 175 = .ok (.pop, 1) := by decide +kernel
theorem dL_law_176 : decode cL_law 176 = .ok (.goto 1006, 3) := by decide +kernel
theorem dL_law_179 : decode cL_law 179 = .ok (.aload_n 1, 1) := by decide +kernel
theorem dL_law_180 : decode cL_law 180 = .ok (.aload_n 0, 1) := by decide +kernel
theorem dL_law_181 : decode cL_law 181 = .ok (.iload_n 3, 1) := by decide +kernel
theorem dL_law_182 : decode cL_law 182 = .ok (.iconst 1, 1) := by decide +kernel
theorem dL_law_183 : decode cL_law 183 = .ok (.iadd, 1) := by decide +kernel
theorem dL_law_184 : decode cL_law 184 = .ok (.iaload, 1) := by decide +kernel
theorem dL_law_185 : decode cL_law 185 = .ok (.aload_n 0, 1) := by decide +kernel
theorem dL_law_186 : decode cL_law 186 = .ok (.iload_n 3, 1) := by decide +kernel
theorem dL_law_187 : decode cL_law 187 = .ok (.iconst 2, 1) := by decide +kernel
theorem dL_law_188 : decode cL_law 188 = .ok (.iadd, 1) := by decide +kernel
theorem dL_law_189 : decode cL_law 189 = .ok (.iaload, 1) := by decide +kernel
theorem dL_law_190 : decode cL_law 190 = .ok (.aload_n 0, 1) := by decide +kernel
theorem dL_law_191 : decode cL_law 191 = .ok (.iload_n 3, 1) := by decide +kernel
theorem dL_law_192 : decode cL_law 192 = .ok (.iconst 3, 1) := by decide +kernel
theorem dL_law_193 : decode cL_law 193 = .ok (.iadd, 1) := by decide +kernel
theorem dL_law_194 : decode cL_law 194 = .ok (.iaload, 1) := by decide +kernel
theorem dL_law_195 : decode cL_law 195 = .ok (.aload_n 0, 1) := by decide +kernel
theorem dL_law_196 : decode cL_law 196 = .ok (.iload_n 3, 1) := by decide +kernel
theorem dL_law_197 : decode cL_law 197 = .ok (.iconst 4, 1) := by decide +kernel
theorem dL_law_198 : decode cL_law 198 = .ok (.iadd, 1) := by decide +kernel
theorem dL_law_199 : decode cL_law 199 = .ok (.iaload, 1) := by decide +kernel
theorem dL_law_200 : decode cL_law 200 = .ok (.aload_n 0, 1) := by decide +kernel
theorem dL_law_201 : decode cL_law 201 = .ok (.iload_n 3, 1) := by decide +kernel
theorem dL_law_202 : decode cL_law 202 = .ok (.iconst 5, 1) := by decide +kernel
theorem dL_law_203 : decode cL_law 203 = .ok (.iadd, 1) := by decide +kernel
theorem dL_law_204 : decode cL_law 204 = .ok (.iaload, 1) := by decide +kernel
theorem dL_law_205 : decode cL_law 205 = .ok (.invokevirtual 18, 3) := by decide +kernel
theorem dL_law_208 : decode cL_law 208 = .ok (.pop, 1) := by decide +kernel
theorem dL_law_209 : decode cL_law 209 = .ok (.aload_n 2, 1) := by decide +kernel
theorem dL_law_210 : decode cL_law 210 = .ok (.aload_n 0, 1) := by decide +kernel
theorem dL_law_211 : decode cL_law 211 = .ok (.iload_n 3, 1) := by decide +kernel
theorem dL_law_212 : decode cL_law 212 = .ok (.iconst 1, 1) := by decide +kernel
theorem dL_law_213 : decode cL_law 213 = .ok (.iadd, 1) := by decide +kernel
theorem dL_law_214 : decode cL_law 214 = .ok (.iaload, 1) := by decide +kernel
theorem dL_law_215 : decode cL_law 215 = .ok (.aload_n 0, 1) := by decide +kernel
theorem dL_law_216 : decode cL_law 216 = .ok (.iload_n 3, 1) := by decide +kernel
theorem dL_law_217 : decode cL_law 217 = .ok (.iconst 2, 1) := by decide +kernel
theorem dL_law_218 : decode cL_law 218 = .ok (.iadd, 1) := by decide +kernel
theorem dL_law_219 : decode cL_law 219 = .ok (.iaload, 1) := by decide +kernel
theorem dL_law_220 : decode cL_law 220 = .ok (.aload_n 0, 1) := by decide +kernel
theorem dL_law_221 : decode cL_law 221 = .ok (.iload_n 3, 1) := by decide +kernel
theorem dL_law_222 : decode cL_law 222 = .ok (.iconst 3, 1) := by decide +kernel
theorem dL_law_223 : decode cL_law 223 = .ok (.iadd, 1) := by decide +kernel
theorem dL_law_224 : decode cL_law 224 = .ok (.iaload, 1) := by decide +kernel
theorem dL_law_225 : decode cL_law 225 = .ok (.aload_n 0, 1) := by decide +kernel
theorem dL_law_226 : decode cL_law 226 = .ok (.iload_n 3, 1) := by decide +kernel
theorem dL_law_227 : decode cL_law 227 = .ok (.iconst 4, 1) := by decide +kernel
theorem dL_law_228 : decode cL_law 228 = .ok (.iadd, 1) := by decide +kernel
theorem dL_law_229 : decode cL_law 229 = .ok (.iaload, 1) := by decide +kernel
theorem dL_law_230 : decode cL_law 230 = .ok (.aload_n 0, 1) := by decide +kernel
theorem dL_law_231 : decode cL_law 231 = .ok (.iload_n 3, 1) := by decide +kernel
theorem dL_law_232 : decode cL_law 232 = .ok (.iconst 5, 1) := by decide +kernel
theorem dL_law_233 : decode cL_law 233 = .ok (.iadd, 1) := by decide +kernel
theorem dL_law_234 : decode cL_law 234 = .ok (.iaload, 1) := by decide +kernel
theorem dL_law_235 : decode cL_law 235 = .ok (.invokevirtual 22, 3) := by decide +kernel
theorem dL_law_238 : decode cL_law 238 = .ok (.pop, 1) := by decide +kernel
theorem dL_law_239 : decode cL_law 239 = .ok (.goto 943, 3) := by decide +kernel
theorem dL_law_242 : decode cL_law 242 = .ok (.aload_n 1, 1) := by decide +kernel
theorem dL_law_243 : decode cL_law 243 = .ok (.aload_n 0, 1) := by decide +kernel
theorem dL_law_244 : decode cL_law 244 = .ok (.iload_n 3, 1) := by decide +kernel
theorem dL_law_245 : decode cL_law 245 = .ok (.iconst 1, 1) := by decide +kernel
theorem dL_law_246 : decode cL_law 246 = .ok (.iadd, 1) := by decide +kernel
theorem dL_law_247 : decode cL_law 247 = .ok (.iaload, 1) := by decide +kernel
theorem dL_law_248 : decode cL_law 248 = .ok (.invokevirtual 23, 3) := by decide +kernel
theorem dL_law_251 : decode cL_law 251 = .ok (.pop, 1) := by decide +kernel
theorem dL_law_252 : decode cL_law 252 = .ok (.aload_n 2, 1) := by decide +kernel
theorem dL_law_253 : decode cL_law 253 = .ok (.aload_n 0, 1) := by decide +kernel
theorem dL_law_254 : decode cL_law 254 = .ok (.iload_n 3, 1) := by decide +kernel
theorem dL_law_255 : decode cL_law 255 = .ok (.iconst 1, 1) := by decide +kernel
theorem dL_law_256 : decode cL_law 256 = .ok (.iadd, 1) := by decide +kernel
theorem dL_law_257 : decode cL_law 257 = .ok (.iaload, 1) := by decide +kernel
theorem dL_law_258 : decode cL_law 258 = .ok (.invokevirtual 27, 3) := by decide +kernel
theorem dL_law_261 : decode cL_law 261 = .ok (.pop, 1) := by decide +kernel
theorem dL_law_262 : decode cL_law 262 = .ok (.goto 920, 3) := by decide +kernel
theorem dL_law_265 : decode cL_law 265 = .ok (.aload_n 1, 1) := by decide +kernel
theorem dL_law_266 : decode cL_law 266 = .ok (.aload_n 0, 1) := by decide +kernel
theorem dL_law_267 : decode cL_law 267 = .ok (.iload_n 3, 1) := by decide +kernel
theorem dL_law_268 : decode cL_law 268 = .ok (.iconst 1, 1) := by decide +kernel
theorem dL_law_269 : decode cL_law 269 = .ok (.iadd, 1) := by decide +kernel
theorem dL_law_270 : decode cL_law 270 = .ok (.iaload, 1) := by decide +kernel
theorem dL_law_271 : decode cL_law 271 = .ok (.aload_n 0, 1) := by decide +kernel
theorem dL_law_272 : decode cL_law 272 = .ok (.iload_n 3, 1) := by decide +kernel
theorem dL_law_273 : decode cL_law 273 = .ok (.iconst 2, 1) := by decide +kernel
theorem dL_law_274 : decode cL_law 274 = .ok (.iadd, 1) := by decide +kernel
theorem dL_law_275 : decode cL_law 275 = .ok (.iaload, 1) := by decide +kernel
theorem dL_law_276 : decode cL_law 276 = .ok (.invokevirtual 28, 3) := by decide +kernel
theorem dL_law_279 : decode cL_law 279 = .ok (.pop, 1) := by decide +kernel
theorem dL_law_280 : decode cL_law 280 = .ok (.aload_n 2, 1) := by decide +kernel
theorem dL_law_281 : decode cL_law 281 = .ok (.aload_n 0, 1) := by decide +kernel
theorem dL_law_282 : decode cL_law 282 = .ok (.iload_n 3, 1) := by decide +kernel
theorem dL_law_283 : decode cL_law 283 = .ok (.iconst 1, 1) := by decide +kernel
theorem dL_law_284 : decode cL_law 284 = .ok (.iadd, 1) := by decide +kernel
theorem dL_law_285 : decode cL_law 285 = .ok (.iaload, 1) := by decide +kernel
theorem dL_law_286 : decode cL_law 286 = .ok (.aload_n 0, 1) := by decide +kernel
theorem dL_law_287 : decode cL_law 287 = .ok (.iload_n 3, 1) := by decide +kernel
theorem dL_law_288 : decode cL_law 288 = .ok (.iconst 2, 1) := by decide +kernel
theorem dL_law_289 : decode cL_law 289 = .ok (.iadd, 1) := by decide +kernel
theorem dL_law_290 : decode cL_law 290 = .ok (.iaload, 1) := by decide +kernel
theorem dL_law_291 : decode cL_law 291 = .ok (.invokevirtual 32, 3) := by decide +kernel
theorem dL_law_294 : decode cL_law 294 = .ok (.pop, 1) := by decide +kernel
theorem dL_law_295 : decode cL_law 295 = .ok (.goto 887, 3) := by decide +kernel
theorem dL_law_298 : decode cL_law 298 = .ok (.aload_n 1, 1) := by decide +kernel
theorem dL_law_299 : decode cL_law 299 = .ok (.invokevirtual 33, 3) := by decide +kernel
theorem dL_law_302 : decode cL_law 302 = .ok (.pop, 1) := by decide +kernel
theorem dL_law_303 : decode cL_law 303 = .ok (.aload_n 2, 1) := by decide +kernel
theorem dL_law_304 : decode cL_law 304 = .ok (.invokevirtual 37, 3) := by decide +kernel
theorem dL_law_307 : decode cL_law 307 = .ok (.pop, 1) := by decide +kernel
theorem dL_law_308 : decode cL_law 308 = .ok (.goto 874, 3) := by decide +kernel
theorem dL_law_311 : decode cL_law 311 = .ok (.aload_n 1, 1) := by decide +kernel
theorem dL_law_312 : decode cL_law 312 = .ok (.invokevirtual 38, 3) := by decide +kernel
theorem dL_law_315 : decode cL_law 315 = .ok (.pop, 1) := by decide +kernel
theorem dL_law_316 : decode cL_law 316 = .ok (.aload_n 2, 1) := by decide +kernel
theorem dL_law_317 : decode cL_law 317 = .ok (.invokevirtual 41, 3) := by decide +kernel
theorem dL_law_320 : decode cL_law 320 = .ok (.pop, 1) := by decide +kernel
theorem dL_law_321 : decode cL_law 321 = .ok (.goto 861, 3) := by decide +kernel
theorem dL_law_324 : decode cL_law 324 = .ok (.aload_n 1, 1) := by decide +kernel
theorem dL_law_325 : decode cL_law 325 = .ok (.aload_n 0, 1) := by decide +kernel
theorem dL_law_326 : decode cL_law 326 = .ok (.iload_n 3, 1) := by decide +kernel
theorem dL_law_327 : decode cL_law 327 = .ok (.iconst 1, 1) := by decide +kernel
theorem dL_law_328 : decode cL_law 328 = .ok (.iadd, 1) := by decide +kernel
theorem dL_law_329 : decode cL_law 329 = .ok (.iaload, 1) := by decide +kernel
theorem dL_law_330 : decode cL_law 330 = .ok (.invokevirtual 42, 3) := by decide +kernel
theorem dL_law_333 : decode cL_law 333 = .ok (.pop2, 1) := by decide +kernel
theorem dL_law_334 : decode cL_law 334 = .ok (.aload_n 2, 1) := by decide +kernel
theorem dL_law_335 : decode cL_law 335 = .ok (.aload_n 0, 1) := by decide +kernel
theorem dL_law_336 : decode cL_law 336 = .ok (.iload_n 3, 1) := by decide +kernel
theorem dL_law_337 : decode cL_law 337 = .ok (.iconst 1, 1) := by decide +kernel
theorem dL_law_338 : decode cL_law 338 = .ok (.iadd, 1) := by decide +kernel
theorem dL_law_339 : decode cL_law 339 = .ok (.iaload, 1) := by decide +kernel
theorem dL_law_340 : decode cL_law 340 = .ok (.invokevirtual 46, 3) := by decide +kernel
theorem dL_law_343 : decode cL_law 343 = .ok (.pop2, 1) := by decide +kernel
theorem dL_law_344 : decode cL_law 344 = .ok (.goto 838, 3) := by decide +kernel
theorem dL_law_347 : decode cL_law 347 = .ok (.aload_n 1, 1) := by decide +kernel
theorem dL_law_348 : decode cL_law 348 = .ok (.aload_n 0, 1) := by decide +kernel
theorem dL_law_349 : decode cL_law 349 = .ok (.iload_n 3, 1) := by decide +kernel
theorem dL_law_350 : decode cL_law 350 = .ok (.iconst 1, 1) := by decide +kernel
theorem dL_law_351 : decode cL_law 351 = .ok (.iadd, 1) := by decide +kernel
theorem dL_law_352 : decode cL_law 352 = .ok (.iaload, 1) := by decide +kernel
theorem dL_law_353 : decode cL_law 353 = .ok (.aload_n 0, 1) := by decide +kernel
theorem dL_law_354 : decode cL_law 354 = .ok (.iload_n 3, 1) := by decide +kernel
theorem dL_law_355 : decode cL_law 355 = .ok (.iconst 2, 1) := by decide +kernel
theorem dL_law_356 : decode cL_law 356 = .ok (.iadd, 1) := by decide +kernel
theorem dL_law_357 : decode cL_law 357 = .ok (.iaload, 1) := by decide +kernel
theorem dL_law_358 : decode cL_law 358 = .ok (.invokevirtual 47, 3) := by decide +kernel
theorem dL_law_361 : decode cL_law 361 = .ok (.pop, 1) := by decide +kernel
theorem dL_law_362 : decode cL_law 362 = .ok (.aload_n 2, 1) := by decide +kernel
theorem dL_law_363 : decode cL_law 363 = .ok (.aload_n 0, 1) := by decide +kernel
theorem dL_law_364 : decode cL_law 364 = .ok (.iload_n 3, 1) := by decide +kernel
theorem dL_law_365 : decode cL_law 365 = .ok (.iconst 1, 1) := by decide +kernel
theorem dL_law_366 : decode cL_law 366 = .ok (.iadd, 1) := by decide +kernel
theorem dL_law_367 : decode cL_law 367 = .ok (.iaload, 1) := by decide +kernel
theorem dL_law_368 : decode cL_law 368 = .ok (.aload_n 0, 1) := by decide +kernel
theorem dL_law_369 : decode cL_law 369 = .ok (.iload_n 3, 1) := by decide +kernel
theorem dL_law_370 : decode cL_law 370 = .ok (.iconst 2, 1) := by decide +kernel
theorem dL_law_371 : decode cL_law 371 = .ok (.iadd, 1) := by decide +kernel
theorem dL_law_372 : decode cL_law 372 = .ok (.iaload, 1) := by decide +kernel
theorem dL_law_373 : decode cL_law 373 = .ok (.invokevirtual 50, 3) := by decide +kernel
theorem dL_law_376 : decode cL_law 376 = .ok (.pop, 1) := by decide +kernel
theorem dL_law_377 : decode cL_law 377 = .ok (.goto 805, 3) := by decide +kernel
theorem dL_law_380 : decode cL_law 380 = .ok (.aload_n 1, 1) := by decide +kernel
theorem dL_law_381 : decode cL_law 381 = .ok (.aload_n 0, 1) := by decide +kernel
theorem dL_law_382 : decode cL_law 382 = .ok (.iload_n 3, 1) := by decide +kernel
theorem dL_law_383 : decode cL_law 383 = .ok (.iconst 1, 1) := by decide +kernel
theorem dL_law_384 : decode cL_law 384 = .ok (.iadd, 1) := by decide +kernel
theorem dL_law_385 : decode cL_law 385 = .ok (.iaload, 1) := by decide +kernel
theorem dL_law_386 : decode cL_law 386 = .ok (.aload_n 0, 1) := by decide +kernel
theorem dL_law_387 : decode cL_law 387 = .ok (.iload_n 3, 1) := by decide +kernel
theorem dL_law_388 : decode cL_law 388 = .ok (.iconst 2, 1) := by decide +kernel
theorem dL_law_389 : decode cL_law 389 = .ok (.iadd, 1) := by decide +kernel
theorem dL_law_390 : decode cL_law 390 = .ok (.iaload, 1) := by decide +kernel
theorem dL_law_391 : decode cL_law 391 = .ok (.invokevirtual 51, 3) := by decide +kernel
theorem dL_law_394 : decode cL_law 394 = .ok (.pop2, 1) := by decide +kernel
theorem dL_law_395 : decode cL_law 395 = .ok (.aload_n 2, 1) := by decide +kernel
theorem dL_law_396 : decode cL_law 396 = .ok (.aload_n 0, 1) := by decide +kernel
theorem dL_law_397 : decode cL_law 397 = .ok (.iload_n 3, 1) := by decide +kernel
theorem dL_law_398 : decode cL_law 398 = .ok (.iconst 1, 1) := by decide +kernel
theorem dL_law_399 : decode cL_law 399 = .ok (.iadd, 1) := by decide +kernel
theorem dL_law_400 : decode cL_law 400 = .ok (.iaload, 1) := by decide +kernel
theorem dL_law_401 : decode cL_law 401 = .ok (.aload_n 0, 1) := by decide +kernel
theorem dL_law_402 : decode cL_law 402 = .ok (.iload_n 3, 1) := by decide +kernel
theorem dL_law_403 : decode cL_law 403 = .ok (.iconst 2, 1) := by decide +kernel
theorem dL_law_404 : decode cL_law 404 = .ok (.iadd, 1) := by decide +kernel
theorem dL_law_405 : decode cL_law 405 = .ok (.iaload, 1) := by decide +kernel
theorem dL_law_406 : decode cL_law 406 = .ok (.invokevirtual 55, 3) := by decide +kernel
theorem dL_law_409 : decode cL_law 409 = .ok (.pop2, 1) := by decide +kernel
theorem dL_law_410 : decode cL_law 410 = .ok (.goto 772, 3) := by decide +kernel
theorem dL_law_413 : decode cL_law 413 = .ok (.aload_n 1, 1) := by decide +kernel
theorem dL_law_414 : decode cL_law 414 = .ok (.aload_n 0, 1) := by decide +kernel
theorem dL_law_415 : decode cL_law 415 = .ok (.iload_n 3, 1) := by decide +kernel
theorem dL_law_416 : decode cL_law 416 = .ok (.iconst 1, 1) := by decide +kernel
theorem dL_law_417 : decode cL_law 417 = .ok (.iadd, 1) := by decide +kernel
theorem dL_law_418 : decode cL_law 418 = .ok (.iaload, 1) := by decide +kernel
theorem dL_law_419 : decode cL_law 419 = .ok (.aload_n 0, 1) := by decide +kernel
theorem dL_law_420 : decode cL_law 420 = .ok (.iload_n 3, 1) := by decide +kernel
theorem dL_law_421 : decode cL_law 421 = .ok (.iconst 2, 1) := by decide +kernel
theorem dL_law_422 : decode cL_law 422 = .ok (.iadd, 1) := by decide +kernel
theorem dL_law_423 : decode cL_law 423 = .ok (.iaload, 1) := by decide +kernel
theorem dL_law_424 : decode cL_law 424 = .ok (.invokevirtual 56, 3) := by decide +kernel
theorem dL_law_427 : decode cL_law 427 = .ok (.aload_n 2, 1) := by decide +kernel
theorem dL_law_428 : decode cL_law 428 = .ok (.aload_n 0, 1) := by decide +kernel
theorem dL_law_429 : decode cL_law 429 = .ok (.iload_n 3, 1) := by decide +kernel
theorem dL_law_430 : decode cL_law 430 = .ok (.iconst 1, 1) := by decide +kernel
theorem dL_law_431 : decode cL_law 431 = .ok (.iadd, 1) := by decide +kernel
theorem dL_law_432 : decode cL_law 432 = .ok (.iaload, 1) := by decide +kernel
theorem dL_law_433 : decode cL_law 433 = .ok (.aload_n 0, 1) := by decide +kernel
theorem dL_law_434 : decode cL_law 434 = .ok (.iload_n 3, 1) := by decide +kernel
theorem dL_law_435 : decode cL_law 435 = .ok (.iconst 2, 1) := by decide +kernel
theorem dL_law_436 : decode cL_law 436 = .ok (.iadd, 1) := by decide +kernel
theorem dL_law_437 : decode cL_law 437 = .ok (.iaload, 1) := by decide +kernel
theorem dL_law_438 : decode cL_law 438 = .ok (.invokevirtual 59, 3) := by decide +kernel
theorem dL_law_441 : decode cL_law 441 = .ok (.lcmp, 1) := by decide +kernel
theorem dL_law_442 : decode cL_law 442 = .ok (.ifCond .eq 740, 3) := by decide +kernel
theorem dL_law_445 : decode cL_law 445 = .ok (.iconst 0, 1) := by decide +kernel
theorem dL_law_446 : decode cL_law 446 = .ok (.ireturn, 1) := by decide +kernel
theorem dL_law_447 : decode cL_law 447 = .ok (.aload_n 1, 1) := by decide +kernel
theorem dL_law_448 : decode cL_law 448 = .ok (.aload_n 0, 1) := by decide +kernel
theorem dL_law_449 : decode cL_law 449 = .ok (.iload_n 3, 1) := by decide +kernel
theorem dL_law_450 : decode cL_law 450 = .ok (.iconst 1, 1) := by decide +kernel
theorem dL_law_451 : decode cL_law 451 = .ok (.iadd, 1) := by decide +kernel
theorem dL_law_452 : decode cL_law 452 = .ok (.iaload, 1) := by decide +kernel
theorem dL_law_453 : decode cL_law 453 = .ok (.aload_n 0, 1) := by decide +kernel
theorem dL_law_454 : decode cL_law 454 = .ok (.iload_n 3, 1) := by decide +kernel
theorem dL_law_455 : decode cL_law 455 = .ok (.iconst 2, 1) := by decide +kernel
theorem dL_law_456 : decode cL_law 456 = .ok (.iadd, 1) := by decide +kernel
theorem dL_law_457 : decode cL_law 457 = .ok (.iaload, 1) := by decide +kernel
theorem dL_law_458 : decode cL_law 458 = .ok (.invokevirtual 60, 3) := by decide +kernel
theorem dL_law_461 : decode cL_law 461 = .ok (.pop, 1) := by decide +kernel
theorem dL_law_462 : decode cL_law 462 = .ok (.aload_n 2, 1) := by decide +kernel
theorem dL_law_463 : decode cL_law 463 = .ok (.aload_n 0, 1) := by decide +kernel
theorem dL_law_464 : decode cL_law 464 = .ok (.iload_n 3, 1) := by decide +kernel
theorem dL_law_465 : decode cL_law 465 = .ok (.iconst 1, 1) := by decide +kernel
theorem dL_law_466 : decode cL_law 466 = .ok (.iadd, 1) := by decide +kernel
theorem dL_law_467 : decode cL_law 467 = .ok (.iaload, 1) := by decide +kernel
theorem dL_law_468 : decode cL_law 468 = .ok (.aload_n 0, 1) := by decide +kernel
theorem dL_law_469 : decode cL_law 469 = .ok (.iload_n 3, 1) := by decide +kernel
theorem dL_law_470 : decode cL_law 470 = .ok (.iconst 2, 1) := by decide +kernel
theorem dL_law_471 : decode cL_law 471 = .ok (.iadd, 1) := by decide +kernel
theorem dL_law_472 : decode cL_law 472 = .ok (.iaload, 1) := by decide +kernel
theorem dL_law_473 : decode cL_law 473 = .ok (.invokevirtual 63, 3) := by decide +kernel
theorem dL_law_476 : decode cL_law 476 = .ok (.pop, 1) := by decide +kernel
theorem dL_law_477 : decode cL_law 477 = .ok (.goto 705, 3) := by decide +kernel
theorem dL_law_480 : decode cL_law 480 = .ok (.aload_n 1, 1) := by decide +kernel
theorem dL_law_481 : decode cL_law 481 = .ok (.aload_n 0, 1) := by decide +kernel
theorem dL_law_482 : decode cL_law 482 = .ok (.iload_n 3, 1) := by decide +kernel
theorem dL_law_483 : decode cL_law 483 = .ok (.iconst 1, 1) := by decide +kernel
theorem dL_law_484 : decode cL_law 484 = .ok (.iadd, 1) := by decide +kernel
theorem dL_law_485 : decode cL_law 485 = .ok (.iaload, 1) := by decide +kernel
theorem dL_law_486 : decode cL_law 486 = .ok (.aload_n 0, 1) := by decide +kernel
theorem dL_law_487 : decode cL_law 487 = .ok (.iload_n 3, 1) := by decide +kernel
theorem dL_law_488 : decode cL_law 488 = .ok (.iconst 2, 1) := by decide +kernel
theorem dL_law_489 : decode cL_law 489 = .ok (.iadd, 1) := by decide +kernel
theorem dL_law_490 : decode cL_law 490 = .ok (.iaload, 1) := by decide +kernel
theorem dL_law_491 : decode cL_law 491 = .ok (.invokevirtual 64, 3) := by decide +kernel
theorem dL_law_494 : decode cL_law 494 = .ok (.pop2, 1) := by decide +kernel
theorem dL_law_495 : decode cL_law 495 = .ok (.aload_n 2, 1) := by decide +kernel
theorem dL_law_496 : decode cL_law 496 = .ok (.aload_n 0, 1) := by decide +kernel
theorem dL_law_497 : decode cL_law 497 = .ok (.iload_n 3, 1) := by decide +kernel
theorem dL_law_498 : decode cL_law 498 = .ok (.iconst 1, 1) := by decide +kernel
theorem dL_law_499 : decode cL_law 499 = .ok (.iadd, 1) := by decide +kernel
theorem dL_law_500 : decode cL_law 500 = .ok (.iaload, 1) := by decide +kernel
theorem dL_law_501 : decode cL_law 501 = .ok (.aload_n 0, 1) := by decide +kernel
theorem dL_law_502 : decode cL_law 502 = .ok (.iload_n 3, 1) := by decide +kernel
theorem dL_law_503 : decode cL_law 503 = .ok (.iconst 2, 1) := by decide +kernel
theorem dL_law_504 : decode cL_law 504 = .ok (.iadd, 1) := by decide +kernel
theorem dL_law_505 : decode cL_law 505 = .ok (.iaload, 1) := by decide +kernel
theorem dL_law_506 : decode cL_law 506 = .ok (.invokevirtual 67, 3) := by decide +kernel
theorem dL_law_509 : decode cL_law 509 = .ok (.pop2, 1) := by decide +kernel
theorem dL_law_510 : decode cL_law 510 = .ok (.goto 672, 3) := by decide +kernel
theorem dL_law_513 : decode cL_law 513 = .ok (.aload_n 1, 1) := by decide +kernel
theorem dL_law_514 : decode cL_law 514 = .ok (.aload_n 0, 1) := by decide +kernel
theorem dL_law_515 : decode cL_law 515 = .ok (.iload_n 3, 1) := by decide +kernel
theorem dL_law_516 : decode cL_law 516 = .ok (.iconst 1, 1) := by decide +kernel
theorem dL_law_517 : decode cL_law 517 = .ok (.iadd, 1) := by decide +kernel
theorem dL_law_518 : decode cL_law 518 = .ok (.iaload, 1) := by decide +kernel
theorem dL_law_519 : decode cL_law 519 = .ok (.aload_n 0, 1) := by decide +kernel
theorem dL_law_520 : decode cL_law 520 = .ok (.iload_n 3, 1) := by decide +kernel
theorem dL_law_521 : decode cL_law 521 = .ok (.iconst 2, 1) := by decide +kernel
theorem dL_law_522 : decode cL_law 522 = .ok (.iadd, 1) := by decide +kernel
theorem dL_law_523 : decode cL_law 523 = .ok (.iaload, 1) := by decide +kernel
theorem dL_law_524 : decode cL_law 524 = .ok (.i2l, 1) := by decide +kernel
theorem dL_law_525 : decode cL_law 525 = .ok (.bipush 32, 2) := by decide +kernel
theorem dL_law_527 : decode cL_law 527 = .ok (.lshl, 1) := by decide +kernel
theorem dL_law_528 : decode cL_law 528 = .ok (.aload_n 0, 1) := by decide +kernel
theorem dL_law_529 : decode cL_law 529 = .ok (.iload_n 3, 1) := by decide +kernel
theorem dL_law_530 : decode cL_law 530 = .ok (.iconst 3, 1) := by decide +kernel
theorem dL_law_531 : decode cL_law 531 = .ok (.iadd, 1) := by decide +kernel
theorem dL_law_532 : decode cL_law 532 = .ok (.iaload, 1) := by decide +kernel
theorem dL_law_533 : decode cL_law 533 = .ok (.i2l, 1) := by decide +kernel
theorem dL_law_534 : decode cL_law 534 = .ok (.ldc2_w 68, 3) := by decide +kernel
theorem dL_law_537 : decode cL_law 537 = .ok (.land, 1) := by decide +kernel
theorem dL_law_538 : decode cL_law 538 = .ok (.lor, 1) := by decide +kernel
theorem dL_law_539 : decode cL_law 539 = .ok (.invokevirtual 70, 3) := by decide +kernel
theorem dL_law_542 : decode cL_law 542 = .ok (.pop2, 1) := by decide +kernel
theorem dL_law_543 : decode cL_law 543 = .ok (.aload_n 2, 1) := by decide +kernel
theorem dL_law_544 : decode cL_law 544 = .ok (.aload_n 0, 1) := by decide +kernel
theorem dL_law_545 : decode cL_law 545 = .ok (.iload_n 3, 1) := by decide +kernel
theorem dL_law_546 : decode cL_law 546 = .ok (.iconst 1, 1) := by decide +kernel
theorem dL_law_547 : decode cL_law 547 = .ok (.iadd, 1) := by decide +kernel
theorem dL_law_548 : decode cL_law 548 = .ok (.iaload, 1) := by decide +kernel
theorem dL_law_549 : decode cL_law 549 = .ok (.aload_n 0, 1) := by decide +kernel
theorem dL_law_550 : decode cL_law 550 = .ok (.iload_n 3, 1) := by decide +kernel
theorem dL_law_551 : decode cL_law 551 = .ok (.iconst 2, 1) := by decide +kernel
theorem dL_law_552 : decode cL_law 552 = .ok (.iadd, 1) := by decide +kernel
theorem dL_law_553 : decode cL_law 553 = .ok (.iaload, 1) := by decide +kernel
theorem dL_law_554 : decode cL_law 554 = .ok (.i2l, 1) := by decide +kernel
theorem dL_law_555 : decode cL_law 555 = .ok (.bipush 32, 2) := by decide +kernel
theorem dL_law_557 : decode cL_law 557 = .ok (.lshl, 1) := by decide +kernel
theorem dL_law_558 : decode cL_law 558 = .ok (.aload_n 0, 1) := by decide +kernel
theorem dL_law_559 : decode cL_law 559 = .ok (.iload_n 3, 1) := by decide +kernel
theorem dL_law_560 : decode cL_law 560 = .ok (.iconst 3, 1) := by decide +kernel
theorem dL_law_561 : decode cL_law 561 = .ok (.iadd, 1) := by decide +kernel
theorem dL_law_562 : decode cL_law 562 = .ok (.iaload, 1) := by decide +kernel
theorem dL_law_563 : decode cL_law 563 = .ok (.i2l, 1) := by decide +kernel
theorem dL_law_564 : decode cL_law 564 = .ok (.ldc2_w 68, 3) := by decide +kernel
theorem dL_law_567 : decode cL_law 567 = .ok (.land, 1) := by decide +kernel
theorem dL_law_568 : decode cL_law 568 = .ok (.lor, 1) := by decide +kernel
theorem dL_law_569 : decode cL_law 569 = .ok (.invokevirtual 74, 3) := by decide +kernel
theorem dL_law_572 : decode cL_law 572 = .ok (.pop2, 1) := by decide +kernel
theorem dL_law_573 : decode cL_law 573 = .ok (.goto 609, 3) := by decide +kernel
theorem dL_law_576 : decode cL_law 576 = .ok (.aload_n 1, 1) := by decide +kernel
theorem dL_law_577 : decode cL_law 577 = .ok (.aload_n 0, 1) := by decide +kernel
theorem dL_law_578 : decode cL_law 578 = .ok (.iload_n 3, 1) := by decide +kernel
theorem dL_law_579 : decode cL_law 579 = .ok (.iconst 1, 1) := by decide +kernel
theorem dL_law_580 : decode cL_law 580 = .ok (.iadd, 1) := by decide +kernel
theorem dL_law_581 : decode cL_law 581 = .ok (.iaload, 1) := by decide +kernel
theorem dL_law_582 : decode cL_law 582 = .ok (.aload_n 0, 1) := by decide +kernel
theorem dL_law_583 : decode cL_law 583 = .ok (.iload_n 3, 1) := by decide +kernel
theorem dL_law_584 : decode cL_law 584 = .ok (.iconst 2, 1) := by decide +kernel
theorem dL_law_585 : decode cL_law 585 = .ok (.iadd, 1) := by decide +kernel
theorem dL_law_586 : decode cL_law 586 = .ok (.iaload, 1) := by decide +kernel
theorem dL_law_587 : decode cL_law 587 = .ok (.i2l, 1) := by decide +kernel
theorem dL_law_588 : decode cL_law 588 = .ok (.bipush 32, 2) := by decide +kernel
theorem dL_law_590 : decode cL_law 590 = .ok (.lshl, 1) := by decide +kernel
theorem dL_law_591 : decode cL_law 591 = .ok (.aload_n 0, 1) := by decide +kernel
theorem dL_law_592 : decode cL_law 592 = .ok (.iload_n 3, 1) := by decide +kernel
theorem dL_law_593 : decode cL_law 593 = .ok (.iconst 3, 1) := by decide +kernel
theorem dL_law_594 : decode cL_law 594 = .ok (.iadd, 1) := by decide +kernel
theorem dL_law_595 : decode cL_law 595 = .ok (.iaload, 1) := by decide +kernel
theorem dL_law_596 : decode cL_law 596 = .ok (.i2l, 1) := by decide +kernel
theorem dL_law_597 : decode cL_law 597 = .ok (.ldc2_w 68, 3) := by decide +kernel
theorem dL_law_600 : decode cL_law 600 = .ok (.land, 1) := by decide +kernel
theorem dL_law_601 : decode cL_law 601 = .ok (.lor, 1) := by decide +kernel
theorem dL_law_602 : decode cL_law 602 = .ok (.aload_n 0, 1) := by decide +kernel
theorem dL_law_603 : decode cL_law 603 = .ok (.iload_n 3, 1) := by decide +kernel
theorem dL_law_604 : decode cL_law 604 = .ok (.iconst 4, 1) := by decide +kernel
theorem dL_law_605 : decode cL_law 605 = .ok (.iadd, 1) := by decide +kernel
theorem dL_law_606 : decode cL_law 606 = .ok (.iaload, 1) := by decide +kernel
theorem dL_law_607 : decode cL_law 607 = .ok (.i2l, 1) := by decide +kernel
theorem dL_law_608 : decode cL_law 608 = .ok (.bipush 32, 2) := by decide +kernel
theorem dL_law_610 : decode cL_law 610 = .ok (.lshl, 1) := by decide +kernel
theorem dL_law_611 : decode cL_law 611 = .ok (.aload_n 0, 1) := by decide +kernel
theorem dL_law_612 : decode cL_law 612 = .ok (.iload_n 3, 1) := by decide +kernel
theorem dL_law_613 : decode cL_law 613 = .ok (.iconst 5, 1) := by decide +kernel
theorem dL_law_614 : decode cL_law 614 = .ok (.iadd, 1) := by decide +kernel
theorem dL_law_615 : decode cL_law 615 = .ok (.iaload, 1) := by decide +kernel
theorem dL_law_616 : decode cL_law 616 = .ok (.i2l, 1) := by decide +kernel
theorem dL_law_617 : decode cL_law 617 = .ok (.ldc2_w 68, 3) := by decide +kernel
theorem dL_law_620 : decode cL_law 620 = .ok (.land, 1) := by decide +kernel
theorem dL_law_621 : decode cL_law 621 = .ok (.lor, 1) := by decide +kernel
theorem dL_law_622 : decode cL_law 622 = .ok (.aload_n 0, 1) := by decide +kernel
theorem dL_law_623 : decode cL_law 623 = .ok (.iload_n 3, 1) := by decide +kernel
theorem dL_law_624 : decode cL_law 624 = .ok (.bipush 6, 2) := by decide +kernel
theorem dL_law_626 : decode cL_law 626 = .ok (.iadd, 1) := by decide +kernel
theorem dL_law_627 : decode cL_law 627 = .ok (.iaload, 1) := by decide +kernel
theorem dL_law_628 : decode cL_law 628 = .ok (.i2l, 1) := by decide +kernel
theorem dL_law_629 : decode cL_law 629 = .ok (.bipush 32, 2) := by decide +kernel
theorem dL_law_631 : decode cL_law 631 = .ok (.lshl, 1) := by decide +kernel
theorem dL_law_632 : decode cL_law 632 = .ok (.aload_n 0, 1) := by decide +kernel
theorem dL_law_633 : decode cL_law 633 = .ok (.iload_n 3, 1) := by decide +kernel
theorem dL_law_634 : decode cL_law 634 = .ok (.bipush 7, 2) := by decide +kernel
theorem dL_law_636 : decode cL_law 636 = .ok (.iadd, 1) := by decide +kernel
theorem dL_law_637 : decode cL_law 637 = .ok (.iaload, 1) := by decide +kernel
theorem dL_law_638 : decode cL_law 638 = .ok (.i2l, 1) := by decide +kernel
theorem dL_law_639 : decode cL_law 639 = .ok (.ldc2_w 68, 3) := by decide +kernel
theorem dL_law_642 : decode cL_law 642 = .ok (.land, 1) := by decide +kernel
theorem dL_law_643 : decode cL_law 643 = .ok (.lor, 1) := by decide +kernel
theorem dL_law_644 : decode cL_law 644 = .ok (.invokevirtual 75, 3) := by decide +kernel
theorem dL_law_647 : decode cL_law 647 = .ok (.pop2, 1) := by decide +kernel
theorem dL_law_648 : decode cL_law 648 = .ok (.aload_n 2, 1) := by decide +kernel
theorem dL_law_649 : decode cL_law 649 = .ok (.aload_n 0, 1) := by decide +kernel
theorem dL_law_650 : decode cL_law 650 = .ok (.iload_n 3, 1) := by decide +kernel
theorem dL_law_651 : decode cL_law 651 = .ok (.iconst 1, 1) := by decide +kernel
theorem dL_law_652 : decode cL_law 652 = .ok (.iadd, 1) := by decide +kernel
theorem dL_law_653 : decode cL_law 653 = .ok (.iaload, 1) := by decide +kernel
theorem dL_law_654 : decode cL_law 654 = .ok (.aload_n 0, 1) := by decide +kernel
theorem dL_law_655 : decode cL_law 655 = .ok (.iload_n 3, 1) := by decide +kernel
theorem dL_law_656 : decode cL_law 656 = .ok (.iconst 2, 1) := by decide +kernel
theorem dL_law_657 : decode cL_law 657 = .ok (.iadd, 1) := by decide +kernel
theorem dL_law_658 : decode cL_law 658 = .ok (.iaload, 1) := by decide +kernel
theorem dL_law_659 : decode cL_law 659 = .ok (.i2l, 1) := by decide +kernel
theorem dL_law_660 : decode cL_law 660 = .ok (.bipush 32, 2) := by decide +kernel
theorem dL_law_662 : decode cL_law 662 = .ok (.lshl, 1) := by decide +kernel
theorem dL_law_663 : decode cL_law 663 = .ok (.aload_n 0, 1) := by decide +kernel
theorem dL_law_664 : decode cL_law 664 = .ok (.iload_n 3, 1) := by decide +kernel
theorem dL_law_665 : decode cL_law 665 = .ok (.iconst 3, 1) := by decide +kernel
theorem dL_law_666 : decode cL_law 666 = .ok (.iadd, 1) := by decide +kernel
theorem dL_law_667 : decode cL_law 667 = .ok (.iaload, 1) := by decide +kernel
theorem dL_law_668 : decode cL_law 668 = .ok (.i2l, 1) := by decide +kernel
theorem dL_law_669 : decode cL_law 669 = .ok (.ldc2_w 68, 3) := by decide +kernel
theorem dL_law_672 : decode cL_law 672 = .ok (.land, 1) := by decide +kernel
theorem dL_law_673 : decode cL_law 673 = .ok (.lor, 1) := by decide +kernel
theorem dL_law_674 : decode cL_law 674 = .ok (.aload_n 0, 1) := by decide +kernel
theorem dL_law_675 : decode cL_law 675 = .ok (.iload_n 3, 1) := by decide +kernel
theorem dL_law_676 : decode cL_law 676 = .ok (.iconst 4, 1) := by decide +kernel
theorem dL_law_677 : decode cL_law 677 = .ok (.iadd, 1) := by decide +kernel
theorem dL_law_678 : decode cL_law 678 = .ok (.iaload, 1) := by decide +kernel
theorem dL_law_679 : decode cL_law 679 = .ok (.i2l, 1) := by decide +kernel
theorem dL_law_680 : decode cL_law 680 = .ok (.bipush 32, 2) := by decide +kernel
theorem dL_law_682 : decode cL_law 682 = .ok (.lshl, 1) := by decide +kernel
theorem dL_law_683 : decode cL_law 683 = .ok (.aload_n 0, 1) := by decide +kernel
theorem dL_law_684 : decode cL_law 684 = .ok (.iload_n 3, 1) := by decide +kernel
theorem dL_law_685 : decode cL_law 685 = .ok (.iconst 5, 1) := by decide +kernel
theorem dL_law_686 : decode cL_law 686 = .ok (.iadd, 1) := by decide +kernel
theorem dL_law_687 : decode cL_law 687 = .ok (.iaload, 1) := by decide +kernel
theorem dL_law_688 : decode cL_law 688 = .ok (.i2l, 1) := by decide +kernel
theorem dL_law_689 : decode cL_law 689 = .ok (.ldc2_w 68, 3) := by decide +kernel
theorem dL_law_692 : decode cL_law 692 = .ok (.land, 1) := by decide +kernel
theorem dL_law_693 : decode cL_law 693 = .ok (.lor, 1) := by decide +kernel
theorem dL_law_694 : decode cL_law 694 = .ok (.aload_n 0, 1) := by decide +kernel
theorem dL_law_695 : decode cL_law 695 = .ok (.iload_n 3, 1) := by decide +kernel
theorem dL_law_696 : decode cL_law 696 = .ok (.bipush 6, 2) := by decide +kernel
theorem dL_law_698 : decode cL_law 698 = .ok (.iadd, 1) := by decide +kernel
theorem dL_law_699 : decode cL_law 699 = .ok (.iaload, 1) := by decide +kernel
theorem dL_law_700 : decode cL_law 700 = .ok (.i2l, 1) := by decide +kernel
theorem dL_law_701 : decode cL_law 701 = .ok (.bipush 32, 2) := by decide +kernel
theorem dL_law_703 : decode cL_law 703 = .ok (.lshl, 1) := by decide +kernel
theorem dL_law_704 : decode cL_law 704 = .ok (.aload_n 0, 1) := by decide +kernel
theorem dL_law_705 : decode cL_law 705 = .ok (.iload_n 3, 1) := by decide +kernel
theorem dL_law_706 : decode cL_law 706 = .ok (.bipush 7, 2) := by decide +kernel
theorem dL_law_708 : decode cL_law 708 = .ok (.iadd, 1) := by decide +kernel
theorem dL_law_709 : decode cL_law 709 = .ok (.iaload, 1) := by decide +kernel
theorem dL_law_710 : decode cL_law 710 = .ok (.i2l, 1) := by decide +kernel
theorem dL_law_711 : decode cL_law 711 = .ok (.ldc2_w 68, 3) := by decide +kernel
theorem dL_law_714 : decode cL_law 714 = .ok (.land, 1) := by decide +kernel
theorem dL_law_715 : decode cL_law 715 = .ok (.lor, 1) := by decide +kernel
theorem dL_law_716 : decode cL_law 716 = .ok (.invokevirtual 79, 3) := by decide +kernel
theorem dL_law_719 : decode cL_law 719 = .ok (.pop2, 1) := by decide +kernel
theorem dL_law_720 : decode cL_law 720 = .ok (.goto 462, 3) := by decide +kernel
theorem dL_law_723 : decode cL_law 723 = .ok (.aload_n 1, 1) := by decide +kernel
theorem dL_law_724 : decode cL_law 724 = .ok (.aload_n 0, 1) := by decide +kernel
theorem dL_law_725 : decode cL_law 725 = .ok (.iload_n 3, 1) := by decide +kernel
theorem dL_law_726 : decode cL_law 726 = .ok (.iconst 1, 1) := by decide +kernel
theorem dL_law_727 : decode cL_law 727 = .ok (.iadd, 1) := by decide +kernel
theorem dL_law_728 : decode cL_law 728 = .ok (.iaload, 1) := by decide +kernel
theorem dL_law_729 : decode cL_law 729 = .ok (.aload_n 0, 1) := by decide +kernel
theorem dL_law_730 : decode cL_law 730 = .ok (.iload_n 3, 1) := by decide +kernel
theorem dL_law_731 : decode cL_law 731 = .ok (.iconst 2, 1) := by decide +kernel
theorem dL_law_732 : decode cL_law 732 = .ok (.iadd, 1) := by decide +kernel
theorem dL_law_733 : decode cL_law 733 = .ok (.iaload, 1) := by decide +kernel
theorem dL_law_734 : decode cL_law 734 = .ok (.i2l, 1) := by decide +kernel
theorem dL_law_735 : decode cL_law 735 = .ok (.bipush 32, 2) := by decide +kernel
theorem dL_law_737 : decode cL_law 737 = .ok (.lshl, 1) := by decide +kernel
theorem dL_law_738 : decode cL_law 738 = .ok (.aload_n 0, 1) := by decide +kernel
theorem dL_law_739 : decode cL_law 739 = .ok (.iload_n 3, 1) := by decide +kernel
theorem dL_law_740 : decode cL_law 740 = .ok (.iconst 3, 1) := by decide +kernel
theorem dL_law_741 : decode cL_law 741 = .ok (.iadd, 1) := by decide +kernel
theorem dL_law_742 : decode cL_law 742 = .ok (.iaload, 1) := by decide +kernel
theorem dL_law_743 : decode cL_law 743 = .ok (.i2l, 1) := by decide +kernel
theorem dL_law_744 : decode cL_law 744 = .ok (.ldc2_w 68, 3) := by decide +kernel
theorem dL_law_747 : decode cL_law 747 = .ok (.land, 1) := by decide +kernel
theorem dL_law_748 : decode cL_law 748 = .ok (.lor, 1) := by decide +kernel
theorem dL_law_749 : decode cL_law 749 = .ok (.invokevirtual 80, 3) := by decide +kernel
theorem dL_law_752 : decode cL_law 752 = .ok (.pop2, 1) := by decide +kernel
theorem dL_law_753 : decode cL_law 753 = .ok (.aload_n 2, 1) := by decide +kernel
theorem dL_law_754 : decode cL_law 754 = .ok (.aload_n 0, 1) := by decide +kernel
theorem dL_law_755 : decode cL_law 755 = .ok (.iload_n 3, 1) := by decide +kernel
theorem dL_law_756 : decode cL_law 756 = .ok (.iconst 1, 1) := by decide +kernel
theorem dL_law_757 : decode cL_law 757 = .ok (.iadd, 1) := by decide +kernel
theorem dL_law_758 : decode cL_law 758 = .ok (.iaload, 1) := by decide +kernel
theorem dL_law_759 : decode cL_law 759 = .ok (.aload_n 0, 1) := by decide +kernel
theorem dL_law_760 : decode cL_law 760 = .ok (.iload_n 3, 1) := by decide +kernel
theorem dL_law_761 : decode cL_law 761 = .ok (.iconst 2, 1) := by decide +kernel
theorem dL_law_762 : decode cL_law 762 = .ok (.iadd, 1) := by decide +kernel
theorem dL_law_763 : decode cL_law 763 = .ok (.iaload, 1) := by decide +kernel
theorem dL_law_764 : decode cL_law 764 = .ok (.i2l, 1) := by decide +kernel
theorem dL_law_765 : decode cL_law 765 = .ok (.bipush 32, 2) := by decide +kernel
theorem dL_law_767 : decode cL_law 767 = .ok (.lshl, 1) := by decide +kernel
theorem dL_law_768 : decode cL_law 768 = .ok (.aload_n 0, 1) := by decide +kernel
theorem dL_law_769 : decode cL_law 769 = .ok (.iload_n 3, 1) := by decide +kernel
theorem dL_law_770 : decode cL_law 770 = .ok (.iconst 3, 1) := by decide +kernel
theorem dL_law_771 : decode cL_law 771 = .ok (.iadd, 1) := by decide +kernel
theorem dL_law_772 : decode cL_law 772 = .ok (.iaload, 1) := by decide +kernel
theorem dL_law_773 : decode cL_law 773 = .ok (.i2l, 1) := by decide +kernel
theorem dL_law_774 : decode cL_law 774 = .ok (.ldc2_w 68, 3) := by decide +kernel
theorem dL_law_777 : decode cL_law 777 = .ok (.land, 1) := by decide +kernel
theorem dL_law_778 : decode cL_law 778 = .ok (.lor, 1) := by decide +kernel
theorem dL_law_779 : decode cL_law 779 = .ok (.invokevirtual 83, 3) := by decide +kernel
theorem dL_law_782 : decode cL_law 782 = .ok (.pop2, 1) := by decide +kernel
theorem dL_law_783 : decode cL_law 783 = .ok (.goto 399, 3) := by decide +kernel
theorem dL_law_786 : decode cL_law 786 = .ok (.aload_n 1, 1) := by decide +kernel
theorem dL_law_787 : decode cL_law 787 = .ok (.aload_n 0, 1) := by decide +kernel
theorem dL_law_788 : decode cL_law 788 = .ok (.iload_n 3, 1) := by decide +kernel
theorem dL_law_789 : decode cL_law 789 = .ok (.iconst 1, 1) := by decide +kernel
theorem dL_law_790 : decode cL_law 790 = .ok (.iadd, 1) := by decide +kernel
theorem dL_law_791 : decode cL_law 791 = .ok (.iaload, 1) := by decide +kernel
theorem dL_law_792 : decode cL_law 792 = .ok (.aload_n 0, 1) := by decide +kernel
theorem dL_law_793 : decode cL_law 793 = .ok (.iload_n 3, 1) := by decide +kernel
theorem dL_law_794 : decode cL_law 794 = .ok (.iconst 2, 1) := by decide +kernel
theorem dL_law_795 : decode cL_law 795 = .ok (.iadd, 1) := by decide +kernel
theorem dL_law_796 : decode cL_law 796 = .ok (.iaload, 1) := by decide +kernel
theorem dL_law_797 : decode cL_law 797 = .ok (.aload_n 0, 1) := by decide +kernel
theorem dL_law_798 : decode cL_law 798 = .ok (.iload_n 3, 1) := by decide +kernel
theorem dL_law_799 : decode cL_law 799 = .ok (.iconst 3, 1) := by decide +kernel
theorem dL_law_800 : decode cL_law 800 = .ok (.iadd, 1) := by decide +kernel
theorem dL_law_801 : decode cL_law 801 = .ok (.iaload, 1) := by decide +kernel
theorem dL_law_802 : decode cL_law 802 = .ok (.invokevirtual 84, 3) := by decide +kernel
theorem dL_law_805 : decode cL_law 805 = .ok (.pop, 1) := by decide +kernel
theorem dL_law_806 : decode cL_law 806 = .ok (.aload_n 2, 1) := by decide +kernel
theorem dL_law_807 : decode cL_law 807 = .ok (.aload_n 0, 1) := by decide +kernel
theorem dL_law_808 : decode cL_law 808 = .ok (.iload_n 3, 1) := by decide +kernel
theorem dL_law_809 : decode cL_law 809 = .ok (.iconst 1, 1) := by decide +kernel
theorem dL_law_810 : decode cL_law 810 = .ok (.iadd, 1) := by decide +kernel
theorem dL_law_811 : decode cL_law 811 = .ok (.iaload, 1) := by decide +kernel
theorem dL_law_812 : decode cL_law 812 = .ok (.aload_n 0, 1) := by decide +kernel
theorem dL_law_813 : decode cL_law 813 = .ok (.iload_n 3, 1) := by decide +kernel
theorem dL_law_814 : decode cL_law 814 = .ok (.iconst 2, 1) := by decide +kernel
theorem dL_law_815 : decode cL_law 815 = .ok (.iadd, 1) := by decide +kernel
theorem dL_law_816 : decode cL_law 816 = .ok (.iaload, 1) := by decide +kernel
theorem dL_law_817 : decode cL_law 817 = .ok (.aload_n 0, 1) := by decide +kernel
theorem dL_law_818 : decode cL_law 818 = .ok (.iload_n 3, 1) := by decide +kernel
theorem dL_law_819 : decode cL_law 819 = .ok (.iconst 3, 1) := by decide +kernel
theorem dL_law_820 : decode cL_law 820 = .ok (.iadd, 1) := by decide +kernel
theorem dL_law_821 : decode cL_law 821 = .ok (.iaload, 1) := by decide +kernel
theorem dL_law_822 : decode cL_law 822 = .ok (.invokevirtual 88, 3) := by decide +kernel
theorem dL_law_825 : decode cL_law 825 = .ok (.pop, 1) := by decide +kernel
theorem dL_law_826 : decode cL_law 826 = .ok (.goto 356, 3) := by decide +kernel
theorem dL_law_829 : decode cL_law 829 = .ok (.aload_n 1, 1) := by decide +kernel
theorem dL_law_830 : decode cL_law 830 = .ok (.aload_n 0, 1) := by decide +kernel
theorem dL_law_831 : decode cL_law 831 = .ok (.iload_n 3, 1) := by decide +kernel
theorem dL_law_832 : decode cL_law 832 = .ok (.iconst 1, 1) := by decide +kernel
theorem dL_law_833 : decode cL_law 833 = .ok (.iadd, 1) := by decide +kernel
theorem dL_law_834 : decode cL_law 834 = .ok (.iaload, 1) := by decide +kernel
theorem dL_law_835 : decode cL_law 835 = .ok (.aload_n 0, 1) := by decide +kernel
theorem dL_law_836 : decode cL_law 836 = .ok (.iload_n 3, 1) := by decide +kernel
theorem dL_law_837 : decode cL_law 837 = .ok (.iconst 2, 1) := by decide +kernel
theorem dL_law_838 : decode cL_law 838 = .ok (.iadd, 1) := by decide +kernel
theorem dL_law_839 : decode cL_law 839 = .ok (.iaload, 1) := by decide +kernel
theorem dL_law_840 : decode cL_law 840 = .ok (.invokevirtual 89, 3) := by decide +kernel
theorem dL_law_843 : decode cL_law 843 = .ok (.pop, 1) := by decide +kernel
theorem dL_law_844 : decode cL_law 844 = .ok (.aload_n 2, 1) := by decide +kernel
theorem dL_law_845 : decode cL_law 845 = .ok (.aload_n 0, 1) := by decide +kernel
theorem dL_law_846 : decode cL_law 846 = .ok (.iload_n 3, 1) := by decide +kernel
theorem dL_law_847 : decode cL_law 847 = .ok (.iconst 1, 1) := by decide +kernel
theorem dL_law_848 : decode cL_law 848 = .ok (.iadd, 1) := by decide +kernel
theorem dL_law_849 : decode cL_law 849 = .ok (.iaload, 1) := by decide +kernel
theorem dL_law_850 : decode cL_law 850 = .ok (.aload_n 0, 1) := by decide +kernel
theorem dL_law_851 : decode cL_law 851 = .ok (.iload_n 3, 1) := by decide +kernel
theorem dL_law_852 : decode cL_law 852 = .ok (.iconst 2, 1) := by decide +kernel
theorem dL_law_853 : decode cL_law 853 = .ok (.iadd, 1) := by decide +kernel
theorem dL_law_854 : decode cL_law 854 = .ok (.iaload, 1) := by decide +kernel
theorem dL_law_855 : decode cL_law 855 = .ok (.invokevirtual 92, 3) := by decide +kernel
theorem dL_law_858 : decode cL_law 858 = .ok (.pop, 1) := by decide +kernel
theorem dL_law_859 : decode cL_law 859 = .ok (.goto 323, 3) := by decide +kernel
theorem dL_law_862 : decode cL_law 862 = .ok (.aload_n 1, 1) := by decide +kernel
theorem dL_law_863 : decode cL_law 863 = .ok (.aload_n 0, 1) := by decide +kernel
theorem dL_law_864 : decode cL_law 864 = .ok (.iload_n 3, 1) := by decide +kernel
theorem dL_law_865 : decode cL_law 865 = .ok (.iconst 1, 1) := by decide +kernel
theorem dL_law_866 : decode cL_law 866 = .ok (.iadd, 1) := by decide +kernel
theorem dL_law_867 : decode cL_law 867 = .ok (.iaload, 1) := by decide +kernel
theorem dL_law_868 : decode cL_law 868 = .ok (.aload_n 0, 1) := by decide +kernel
theorem dL_law_869 : decode cL_law 869 = .ok (.iload_n 3, 1) := by decide +kernel
theorem dL_law_870 : decode cL_law 870 = .ok (.iconst 2, 1) := by decide +kernel
theorem dL_law_871 : decode cL_law 871 = .ok (.iadd, 1) := by decide +kernel
theorem dL_law_872 : decode cL_law 872 = .ok (.iaload, 1) := by decide +kernel
theorem dL_law_873 : decode cL_law 873 = .ok (.aload_n 0, 1) := by decide +kernel
theorem dL_law_874 : decode cL_law 874 = .ok (.iload_n 3, 1) := by decide +kernel
theorem dL_law_875 : decode cL_law 875 = .ok (.iconst 3, 1) := by decide +kernel
theorem dL_law_876 : decode cL_law 876 = .ok (.iadd, 1) := by decide +kernel
theorem dL_law_877 : decode cL_law 877 = .ok (.iaload, 1) := by decide +kernel
theorem dL_law_878 : decode cL_law 878 = .ok (.invokevirtual 93, 3) := by decide +kernel
theorem dL_law_881 : decode cL_law 881 = .ok (.pop, 1) := by decide +kernel
theorem dL_law_882 : decode cL_law 882 = .ok (.aload_n 2, 1) := by decide +kernel
theorem dL_law_883 : decode cL_law 883 = .ok (.aload_n 0, 1) := by decide +kernel
theorem dL_law_884 : decode cL_law 884 = .ok (.iload_n 3, 1) := by decide +kernel
theorem dL_law_885 : decode cL_law 885 = .ok (.iconst 1, 1) := by decide +kernel
theorem dL_law_886 : decode cL_law 886 = .ok (.iadd, 1) := by decide +kernel
theorem dL_law_887 : decode cL_law 887 = .ok (.iaload, 1) := by decide +kernel
theorem dL_law_888 : decode cL_law 888 = .ok (.aload_n 0, 1) := by decide +kernel
theorem dL_law_889 : decode cL_law 889 = .ok (.iload_n 3, 1) := by decide +kernel
theorem dL_law_890 : decode cL_law 890 = .ok (.iconst 2, 1) := by decide +kernel
theorem dL_law_891 : decode cL_law 891 = .ok (.iadd, 1) := by decide +kernel
theorem dL_law_892 : decode cL_law 892 = .ok (.iaload, 1) := by decide +kernel
theorem dL_law_893 : decode cL_law 893 = .ok (.aload_n 0, 1) := by decide +kernel
theorem dL_law_894 : decode cL_law 894 = .ok (.iload_n 3, 1) := by decide +kernel
theorem dL_law_895 : decode cL_law 895 = .ok (.iconst 3, 1) := by decide +kernel
theorem dL_law_896 : decode cL_law 896 = .ok (.iadd, 1) := by decide +kernel
theorem dL_law_897 : decode cL_law 897 = .ok (.iaload, 1) := by decide +kernel
theorem dL_law_898 : decode cL_law 898 = .ok (.invokevirtual 96, 3) := by decide +kernel
theorem dL_law_901 : decode cL_law 901 = .ok (.pop, 1) := by decide +kernel
theorem dL_law_902 : decode cL_law 902 = .ok (.goto 280, 3) := by decide +kernel
theorem dL_law_905 : decode cL_law 905 = .ok (.aload_n 1, 1) := by decide +kernel
theorem dL_law_906 : decode cL_law 906 = .ok (.aload_n 0, 1) := by decide +kernel
theorem dL_law_907 : decode cL_law 907 = .ok (.iload_n 3, 1) := by decide +kernel
theorem dL_law_908 : decode cL_law 908 = .ok (.iconst 1, 1) := by decide +kernel
theorem dL_law_909 : decode cL_law 909 = .ok (.iadd, 1) := by decide +kernel
theorem dL_law_910 : decode cL_law 910 = .ok (.iaload, 1) := by decide +kernel
theorem dL_law_911 : decode cL_law 911 = .ok (.invokevirtual 97, 3) := by decide +kernel
theorem dL_law_914 : decode cL_law 914 = .ok (.pop, 1) := by decide +kernel
theorem dL_law_915 : decode cL_law 915 = .ok (.aload_n 2, 1) := by decide +kernel
theorem dL_law_916 : decode cL_law 916 = .ok (.aload_n 0, 1) := by decide +kernel
theorem dL_law_917 : decode cL_law 917 = .ok (.iload_n 3, 1) := by decide +kernel
theorem dL_law_918 : decode cL_law 918 = .ok (.iconst 1, 1) := by decide +kernel
theorem dL_law_919 : decode cL_law 919 = .ok (.iadd, 1) := by decide +kernel
theorem dL_law_920 : decode cL_law 920 = .ok (.iaload, 1) := by decide +kernel
theorem dL_law_921 : decode cL_law 921 = .ok (.invokevirtual 100, 3) := by decide +kernel
theorem dL_law_924 : decode cL_law 924 = .ok (.pop, 1) := by decide +kernel
theorem dL_law_925 : decode cL_law 925 = .ok (.goto 257, 3) := by decide +kernel
theorem dL_law_928 : decode cL_law 928 = .ok (.aload_n 1, 1) := by decide +kernel
theorem dL_law_929 : decode cL_law 929 = .ok (.aload_n 0, 1) := by decide +kernel
theorem dL_law_930 : decode cL_law 930 = .ok (.iload_n 3, 1) := by decide +kernel
theorem dL_law_931 : decode cL_law 931 = .ok (.iconst 1, 1) := by decide +kernel
theorem dL_law_932 : decode cL_law 932 = .ok (.iadd, 1) := by decide +kernel
theorem dL_law_933 : decode cL_law 933 = .ok (.iaload, 1) := by decide +kernel
theorem dL_law_934 : decode cL_law 934 = .ok (.aload_n 0, 1) := by decide +kernel
theorem dL_law_935 : decode cL_law 935 = .ok (.iload_n 3, 1) := by decide +kernel
theorem dL_law_936 : decode cL_law 936 = .ok (.iconst 2, 1) := by decide +kernel
theorem dL_law_937 : decode cL_law 937 = .ok (.iadd, 1) := by decide +kernel
theorem dL_law_938 : decode cL_law 938 = .ok (.iaload, 1) := by decide +kernel
theorem dL_law_939 : decode cL_law 939 = .ok (.aload_n 0, 1) := by decide +kernel
theorem dL_law_940 : decode cL_law 940 = .ok (.iload_n 3, 1) := by decide +kernel
theorem dL_law_941 : decode cL_law 941 = .ok (.iconst 3, 1) := by decide +kernel
theorem dL_law_942 : decode cL_law 942 = .ok (.iadd, 1) := by decide +kernel
theorem dL_law_943 : decode cL_law 943 = .ok (.iaload, 1) := by decide +kernel
theorem dL_law_944 : decode cL_law 944 = .ok (.invokevirtual 101, 3) := by decide +kernel
theorem dL_law_947 : decode cL_law 947 = .ok (.pop, 1) := by decide +kernel
theorem dL_law_948 : decode cL_law 948 = .ok (.aload_n 2, 1) := by decide +kernel
theorem dL_law_949 : decode cL_law 949 = .ok (.aload_n 0, 1) := by decide +kernel
theorem dL_law_950 : decode cL_law 950 = .ok (.iload_n 3, 1) := by decide +kernel
theorem dL_law_951 : decode cL_law 951 = .ok (.iconst 1, 1) := by decide +kernel
theorem dL_law_952 : decode cL_law 952 = .ok (.iadd, 1) := by decide +kernel
theorem dL_law_953 : decode cL_law 953 = .ok (.iaload, 1) := by decide +kernel
theorem dL_law_954 : decode cL_law 954 = .ok (.aload_n 0, 1) := by decide +kernel
theorem dL_law_955 : decode cL_law 955 = .ok (.iload_n 3, 1) := by decide +kernel
theorem dL_law_956 : decode cL_law 956 = .ok (.iconst 2, 1) := by decide +kernel
theorem dL_law_957 : decode cL_law 957 = .ok (.iadd, 1) := by decide +kernel
theorem dL_law_958 : decode cL_law 958 = .ok (.iaload, 1) := by decide +kernel
theorem dL_law_959 : decode cL_law 959 = .ok (.aload_n 0, 1) := by decide +kernel
theorem dL_law_960 : decode cL_law 960 = .ok (.iload_n 3, 1) := by decide +kernel
theorem dL_law_961 : decode cL_law 961 = .ok (.iconst 3, 1) := by decide +kernel
theorem dL_law_962 : decode cL_law 962 = .ok (.iadd, 1) := by decide +kernel
theorem dL_law_963 : decode cL_law 963 = .ok (.iaload, 1) := by decide +kernel
theorem dL_law_964 : decode cL_law 964 = .ok (.invokevirtual 104, 3) := by decide +kernel
theorem dL_law_967 : decode cL_law 967 = .ok (.pop, 1) := by decide +kernel
theorem dL_law_968 : decode cL_law 968 = .ok (.goto 214, 3) := by decide +kernel
theorem dL_law_971 : decode cL_law 971 = .ok (.aload_n 1, 1) := by decide +kernel
theorem dL_law_972 : decode cL_law 972 = .ok (.aload_n 0, 1) := by decide +kernel
theorem dL_law_973 : decode cL_law 973 = .ok (.iload_n 3, 1) := by decide +kernel
theorem dL_law_974 : decode cL_law 974 = .ok (.iconst 1, 1) := by decide +kernel
theorem dL_law_975 : decode cL_law 975 = .ok (.iadd, 1) := by decide +kernel
theorem dL_law_976 : decode cL_law 976 = .ok (.iaload, 1) := by decide +kernel
theorem dL_law_977 : decode cL_law 977 = .ok (.aload_n 0, 1) := by decide +kernel
theorem dL_law_978 : decode cL_law 978 = .ok (.iload_n 3, 1) := by decide +kernel
theorem dL_law_979 : decode cL_law 979 = .ok (.iconst 2, 1) := by decide +kernel
theorem dL_law_980 : decode cL_law 980 = .ok (.iadd, 1) := by decide +kernel
theorem dL_law_981 : decode cL_law 981 = .ok (.iaload, 1) := by decide +kernel
theorem dL_law_982 : decode cL_law 982 = .ok (.invokevirtual 105, 3) := by decide +kernel
theorem dL_law_985 : decode cL_law 985 = .ok (.pop, 1) := by decide +kernel
theorem dL_law_986 : decode cL_law 986 = .ok (.aload_n 2, 1) := by decide +kernel
theorem dL_law_987 : decode cL_law 987 = .ok (.aload_n 0, 1) := by decide +kernel
theorem dL_law_988 : decode cL_law 988 = .ok (.iload_n 3, 1) := by decide +kernel
theorem dL_law_989 : decode cL_law 989 = .ok (.iconst 1, 1) := by decide +kernel
theorem dL_law_990 : decode cL_law 990 = .ok (.iadd, 1) := by decide +kernel
theorem dL_law_991 : decode cL_law 991 = .ok (.iaload, 1) := by decide +kernel
theorem dL_law_992 : decode cL_law 992 = .ok (.aload_n 0, 1) := by decide +kernel
theorem dL_law_993 : decode cL_law 993 = .ok (.iload_n 3, 1) := by decide +kernel
theorem dL_law_994 : decode cL_law 994 = .ok (.iconst 2, 1) := by decide +kernel
theorem dL_law_995 : decode cL_law 995 = .ok (.iadd, 1) := by decide +kernel
theorem dL_law_996 : decode cL_law 996 = .ok (.iaload, 1) := by decide +kernel
theorem dL_law_997 : decode cL_law 997 = .ok (.invokevirtual 109, 3) := by decide +kernel
theorem dL_law_1000 : decode cL_law 1000 = .ok (.pop, 1) := by decide +kernel
theorem dL_law_1001 : decode cL_law 1001 = .ok (.goto 181, 3) := by decide +kernel
theorem dL_law_1004 : decode cL_law 1004 = .ok (.aload_n 1, 1) := by decide +kernel
theorem dL_law_1005 : decode cL_law 1005 = .ok (.aload_n 0, 1) := by decide +kernel
theorem dL_law_1006 : decode cL_law 1006 = .ok (.iload_n 3, 1) := by decide +kernel
theorem dL_law_1007 : decode cL_law 1007 = .ok (.iconst 1, 1) := by decide +kernel
theorem dL_law_1008 : decode cL_law 1008 = .ok (.iadd, 1) := by decide +kernel
theorem dL_law_1009 : decode cL_law 1009 = .ok (.iaload, 1) := by decide +kernel
theorem dL_law_1010 : decode cL_law 1010 = .ok (.aload_n 0, 1) := by decide +kernel
theorem dL_law_1011 : decode cL_law 1011 = .ok (.iload_n 3, 1) := by decide +kernel
theorem dL_law_1012 : decode cL_law 1012 = .ok (.iconst 2, 1) := by decide +kernel
theorem dL_law_1013 : decode cL_law 1013 = .ok (.iadd, 1) := by decide +kernel
theorem dL_law_1014 : decode cL_law 1014 = .ok (.iaload, 1) := by decide +kernel
theorem dL_law_1015 : decode cL_law 1015 = .ok (.aload_n 0, 1) := by decide +kernel
theorem dL_law_1016 : decode cL_law 1016 = .ok (.iload_n 3, 1) := by decide +kernel
theorem dL_law_1017 : decode cL_law 1017 = .ok (.iconst 3, 1) := by decide +kernel
theorem dL_law_1018 : decode cL_law 1018 = .ok (.iadd, 1) := by decide +kernel
theorem dL_law_1019 : decode cL_law 1019 = .ok (.iaload, 1) := by decide +kernel
theorem dL_law_1020 : decode cL_law 1020 = .ok (.invokevirtual 110, 3) := by decide +kernel
theorem dL_law_1023 : decode cL_law 1023 = .ok (.pop, 1) := by decide +kernel
theorem dL_law_1024 : decode cL_law 1024 = .ok (.aload_n 2, 1) := by decide +kernel
theorem dL_law_1025 : decode cL_law 1025 = .ok (.aload_n 0, 1) := by decide +kernel
theorem dL_law_1026 : decode cL_law 1026 = .ok (.iload_n 3, 1) := by decide +kernel
theorem dL_law_1027 : decode cL_law 1027 = .ok (.iconst 1, 1) := by decide +kernel
theorem dL_law_1028 : decode cL_law 1028 = .ok (.iadd, 1) := by decide +kernel
theorem dL_law_1029 : decode cL_law 1029 = .ok (.iaload, 1) := by decide +kernel
theorem dL_law_1030 : decode cL_law 1030 = .ok (.aload_n 0, 1) := by decide +kernel
theorem dL_law_1031 : decode cL_law 1031 = .ok (.iload_n 3, 1) := by decide +kernel
theorem dL_law_1032 : decode cL_law 1032 = .ok (.iconst 2, 1) := by decide +kernel
theorem dL_law_1033 : decode cL_law 1033 = .ok (.iadd, 1) := by decide +kernel
theorem dL_law_1034 : decode cL_law 1034 = .ok (.iaload, 1) := by decide +kernel
theorem dL_law_1035 : decode cL_law 1035 = .ok (.aload_n 0, 1) := by decide +kernel
theorem dL_law_1036 : decode cL_law 1036 = .ok (.iload_n 3, 1) := by decide +kernel
theorem dL_law_1037 : decode cL_law 1037 = .ok (.iconst 3, 1) := by decide +kernel
theorem dL_law_1038 : decode cL_law 1038 = .ok (.iadd, 1) := by decide +kernel
theorem dL_law_1039 : decode cL_law 1039 = .ok (.iaload, 1) := by decide +kernel
theorem dL_law_1040 : decode cL_law 1040 = .ok (.invokevirtual 113, 3) := by decide +kernel
theorem dL_law_1043 : decode cL_law 1043 = .ok (.pop, 1) := by decide +kernel
theorem dL_law_1044 : decode cL_law 1044 = .ok (.goto 138, 3) := by decide +kernel
theorem dL_law_1047 : decode cL_law 1047 = .ok (.aload_n 1, 1) := by decide +kernel
theorem dL_law_1048 : decode cL_law 1048 = .ok (.aload_n 0, 1) := by decide +kernel
theorem dL_law_1049 : decode cL_law 1049 = .ok (.iload_n 3, 1) := by decide +kernel
theorem dL_law_1050 : decode cL_law 1050 = .ok (.iconst 1, 1) := by decide +kernel
theorem dL_law_1051 : decode cL_law 1051 = .ok (.iadd, 1) := by decide +kernel
theorem dL_law_1052 : decode cL_law 1052 = .ok (.iaload, 1) := by decide +kernel
theorem dL_law_1053 : decode cL_law 1053 = .ok (.invokevirtual 114, 3) := by decide +kernel
theorem dL_law_1056 : decode cL_law 1056 = .ok (.pop, 1) := by decide +kernel
theorem dL_law_1057 : decode cL_law 1057 = .ok (.aload_n 2, 1) := by decide +kernel
theorem dL_law_1058 : decode cL_law 1058 = .ok (.aload_n 0, 1) := by decide +kernel
theorem dL_law_1059 : decode cL_law 1059 = .ok (.iload_n 3, 1) := by decide +kernel
theorem dL_law_1060 : decode cL_law 1060 = .ok (.iconst 1, 1) := by decide +kernel
theorem dL_law_1061 : decode cL_law 1061 = .ok (.iadd, 1) := by decide +kernel
theorem dL_law_1062 : decode cL_law 1062 = .ok (.iaload, 1) := by decide +kernel
theorem dL_law_1063 : decode cL_law 1063 = .ok (.invokevirtual 117, 3) := by decide +kernel
theorem dL_law_1066 : decode cL_law 1066 = .ok (.pop, 1) := by decide +kernel
theorem dL_law_1067 : decode cL_law 1067 = .ok (.goto 115, 3) := by decide +kernel
theorem dL_law_1070 : decode cL_law 1070 = .ok (.aload_n 1, 1) := by decide +kernel
theorem dL_law_1071 : decode cL_law 1071 = .ok (.aload_n 0, 1) := by decide +kernel
theorem dL_law_1072 : decode cL_law 1072 = .ok (.iload_n 3, 1) := by decide +kernel
theorem dL_law_1073 : decode cL_law 1073 = .ok (.iconst 1, 1) := by decide +kernel
theorem dL_law_1074 : decode cL_law 1074 = .ok (.iadd, 1) := by decide +kernel
theorem dL_law_1075 : decode cL_law 1075 = .ok (.iaload, 1) := by decide +kernel
theorem dL_law_1076 : decode cL_law 1076 = .ok (.invokevirtual 118, 3) := by decide +kernel
theorem dL_law_1079 : decode cL_law 1079 = .ok (.pop, 1) := by decide +kernel
theorem dL_law_1080 : decode cL_law 1080 = .ok (.aload_n 2, 1) := by decide +kernel
theorem dL_law_1081 : decode cL_law 1081 = .ok (.aload_n 0, 1) := by decide +kernel
theorem dL_law_1082 : decode cL_law 1082 = .ok (.iload_n 3, 1) := by decide +kernel
theorem dL_law_1083 : decode cL_law 1083 = .ok (.iconst 1, 1) := by decide +kernel
theorem dL_law_1084 : decode cL_law 1084 = .ok (.iadd, 1) := by decide +kernel
theorem dL_law_1085 : decode cL_law 1085 = .ok (.iaload, 1) := by decide +kernel
theorem dL_law_1086 : decode cL_law 1086 = .ok (.invokevirtual 121, 3) := by decide +kernel
theorem dL_law_1089 : decode cL_law 1089 = .ok (.pop, 1) := by decide +kernel
theorem dL_law_1090 : decode cL_law 1090 = .ok (.goto 92, 3) := by decide +kernel
theorem dL_law_1093 : decode cL_law 1093 = .ok (.aload_n 1, 1) := by decide +kernel
theorem dL_law_1094 : decode cL_law 1094 = .ok (.aload_n 0, 1) := by decide +kernel
theorem dL_law_1095 : decode cL_law 1095 = .ok (.iload_n 3, 1) := by decide +kernel
theorem dL_law_1096 : decode cL_law 1096 = .ok (.iconst 1, 1) := by decide +kernel
theorem dL_law_1097 : decode cL_law 1097 = .ok (.iadd, 1) := by decide +kernel
theorem dL_law_1098 : decode cL_law 1098 = .ok (.iaload, 1) := by decide +kernel
theorem dL_law_1099 : decode cL_law 1099 = .ok (.aload_n 0, 1) := by decide +kernel
theorem dL_law_1100 : decode cL_law 1100 = .ok (.iload_n 3, 1) := by decide +kernel
theorem dL_law_1101 : decode cL_law 1101 = .ok (.iconst 2, 1) := by decide +kernel
theorem dL_law_1102 : decode cL_law 1102 = .ok (.iadd, 1) := by decide +kernel
theorem dL_law_1103 : decode cL_law 1103 = .ok (.iaload, 1) := by decide +kernel
theorem dL_law_1104 : decode cL_law 1104 = .ok (.aload_n 0, 1) := by decide +kernel
theorem dL_law_1105 : decode cL_law 1105 = .ok (.iload_n 3, 1) := by decide +kernel
theorem dL_law_1106 : decode cL_law 1106 = .ok (.iconst 3, 1) := by decide +kernel
theorem dL_law_1107 : decode cL_law 1107 = .ok (.iadd, 1) := by decide +kernel
theorem dL_law_1108 : decode cL_law 1108 = .ok (.iaload, 1) := by decide +kernel
theorem dL_law_1109 : decode cL_law 1109 = .ok (.invokevirtual 122, 3) := by decide +kernel
theorem dL_law_1112 : decode cL_law 1112 = .ok (.pop, 1) := by decide +kernel
theorem dL_law_1113 : decode cL_law 1113 = .ok (.aload_n 2, 1) := by decide +kernel
theorem dL_law_1114 : decode cL_law 1114 = .ok (.aload_n 0, 1) := by decide +kernel
theorem dL_law_1115 : decode cL_law 1115 = .ok (.iload_n 3, 1) := by decide +kernel
theorem dL_law_1116 : decode cL_law 1116 = .ok (.iconst 1, 1) := by decide +kernel
theorem dL_law_1117 : decode cL_law 1117 = .ok (.iadd, 1) := by decide +kernel
theorem dL_law_1118 : decode cL_law 1118 = .ok (.iaload, 1) := by decide +kernel
theorem dL_law_1119 : decode cL_law 1119 = .ok (.aload_n 0, 1) := by decide +kernel
theorem dL_law_1120 : decode cL_law 1120 = .ok (.iload_n 3, 1) := by decide +kernel
theorem dL_law_1121 : decode cL_law 1121 = .ok (.iconst 2, 1) := by decide +kernel
theorem dL_law_1122 : decode cL_law 1122 = .ok (.iadd, 1) := by decide +kernel
theorem dL_law_1123 : decode cL_law 1123 = .ok (.iaload, 1) := by decide +kernel
theorem dL_law_1124 : decode cL_law 1124 = .ok (.aload_n 0, 1) := by decide +kernel
theorem dL_law_1125 : decode cL_law 1125 = .ok (.iload_n 3, 1) := by decide +kernel
theorem dL_law_1126 : decode cL_law 1126 = .ok (.iconst 3, 1) := by decide +kernel
theorem dL_law_1127 : decode cL_law 1127 = .ok (.iadd, 1) := by decide +kernel
theorem dL_law_1128 : decode cL_law 1128 = .ok (.iaload, 1) := by decide +kernel
theorem dL_law_1129 : decode cL_law 1129 = .ok (.invokevirtual 125, 3) := by decide +kernel
theorem dL_law_1132 : decode cL_law 1132 = .ok (.pop, 1) := by decide +kernel
theorem dL_law_1133 : decode cL_law 1133 = .ok (.goto 49, 3) := by decide +kernel
theorem dL_law_1136 : decode cL_law 1136 = .ok (.aload_n 1, 1) := by decide +kernel
theorem dL_law_1137 : decode cL_law 1137 = .ok (.aload_n 0, 1) := by decide +kernel
theorem dL_law_1138 : decode cL_law 1138 = .ok (.iload_n 3, 1) := by decide +kernel
theorem dL_law_1139 : decode cL_law 1139 = .ok (.iconst 1, 1) := by decide +kernel
theorem dL_law_1140 : decode cL_law 1140 = .ok (.iadd, 1) := by decide +kernel
theorem dL_law_1141 : decode cL_law 1141 = .ok (.iaload, 1) := by decide +kernel
theorem dL_law_1142 : decode cL_law 1142 = .ok (.invokevirtual 126, 3) := by decide +kernel
theorem dL_law_1145 : decode cL_law 1145 = .ok (.pop, 1) := by decide +kernel
theorem dL_law_1146 : decode cL_law 1146 = .ok (.aload_n 2, 1) := by decide +kernel
theorem dL_law_1147 : decode cL_law 1147 = .ok (.aload_n 0, 1) := by decide +kernel
theorem dL_law_1148 : decode cL_law 1148 = .ok (.iload_n 3, 1) := by decide +kernel
theorem dL_law_1149 : decode cL_law 1149 = .ok (.iconst 1, 1) := by decide +kernel
theorem dL_law_1150 : decode cL_law 1150 = .ok (.iadd, 1) := by decide +kernel
theorem dL_law_1151 : decode cL_law 1151 = .ok (.iaload, 1) := by decide +kernel
theorem dL_law_1152 : decode cL_law 1152 = .ok (.invokevirtual 129, 3) := by decide +kernel
theorem dL_law_1155 : decode cL_law 1155 = .ok (.pop, 1) := by decide +kernel
theorem dL_law_1156 : decode cL_law 1156 = .ok (.goto 26, 3) := by decide +kernel
theorem dL_law_1159 : decode cL_law 1159 = .ok (.aload_n 1, 1) := by decide +kernel
theorem dL_law_1160 : decode cL_law 1160 = .ok (.aload_n 0, 1) := by decide +kernel
theorem dL_law_1161 : decode cL_law 1161 = .ok (.iload_n 3, 1) := by decide +kernel
theorem dL_law_1162 : decode cL_law 1162 = .ok (.iconst 1, 1) := by decide +kernel
theorem dL_law_1163 : decode cL_law 1163 = .ok (.iadd, 1) := by decide +kernel
theorem dL_law_1164 : decode cL_law 1164 = .ok (.iaload, 1) := by decide +kernel
theorem dL_law_1165 : decode cL_law 1165 = .ok (.invokevirtual 130, 3) := by decide +kernel
theorem dL_law_1168 : decode cL_law 1168 = .ok (.pop, 1) := by decide +kernel
theorem dL_law_1169 : decode cL_law 1169 = .ok (.aload_n 2, 1) := by decide +kernel
theorem dL_law_1170 : decode cL_law 1170 = .ok (.aload_n 0, 1) := by decide +kernel
theorem dL_law_1171 : decode cL_law 1171 = .ok (.iload_n 3, 1) := by decide +kernel
theorem dL_law_1172 : decode cL_law 1172 = .ok (.iconst 1, 1) := by decide +kernel
theorem dL_law_1173 : decode cL_law 1173 = .ok (.iadd, 1) := by decide +kernel
theorem dL_law_1174 : decode cL_law 1174 = .ok (.iaload, 1) := by decide +kernel
theorem dL_law_1175 : decode cL_law 1175 = .ok (.invokevirtual 133, 3) := by decide +kernel
theorem dL_law_1178 : decode cL_law 1178 = .ok (.pop, 1) := by decide +kernel
theorem dL_law_1179 : decode cL_law 1179 = .ok (.goto 3, 3) := by decide +kernel
theorem dL_law_1182 : decode cL_law 1182 = .ok (.iinc 3 8, 3) := by decide +kernel
theorem dL_law_1185 : decode cL_law 1185 = .ok (.goto (-1167), 3) := by decide +kernel
theorem dL_law_1188 : decode cL_law 1188 = .ok (.iconst 1, 1) := by decide +kernel
theorem dL_law_1189 : decode cL_law 1189 = .ok (.ireturn, 1) := by decide +kernel
def f_L_law_u1182 (Q : Int → Int) (K18 : ml_St → Int → Prop) (L : Int) (σ : ml_St) (x3 : Int) : Prop :=
I32 (x3 + 8) ∧
∀ y1 : Int, y1 = x3 + 8 →
K18 σ y1
def f_L_law_u18 (Q : Int → Int) (K445 : ml_St → Prop) (K1188 : ml_St → Prop) (L : Int) : Nat → ml_St → Int → Prop
| 0, _, _ => False
| N + 1, σ, x3 =>
I32 (L - 8) ∧
((L - 8) < x3 →
K1188 σ) ∧
(¬ ((L - 8) < x3) →
(0 : Int) ≤ x3 ∧ (x3 : Int) < L ∧
((b_and (Q x3) 31) = 0 →
I32 (x3 + 1) ∧
(0 : Int) ≤ (x3 + 1) ∧ ((x3 + 1) : Int) < L ∧
f_X11_rails σ (Q (x3 + 1)) (fun r7 σ7 => ∀ _ : ml_B r7,
I32 (x3 + 1) ∧
(0 : Int) ≤ (x3 + 1) ∧ ((x3 + 1) : Int) < L ∧
f_X12_rails σ7 (Q (x3 + 1)) (fun r10 σ10 => ∀ _ : ml_B r10,
f_L_law_u1182 Q (f_L_law_u18 Q K445 K1188 L N) L σ10 x3))) ∧
((b_and (Q x3) 31) = 1 →
I32 (x3 + 1) ∧
(0 : Int) ≤ (x3 + 1) ∧ ((x3 + 1) : Int) < L ∧
I32 (x3 + 2) ∧
(0 : Int) ≤ (x3 + 2) ∧ ((x3 + 2) : Int) < L ∧
I32 (x3 + 3) ∧
(0 : Int) ≤ (x3 + 3) ∧ ((x3 + 3) : Int) < L ∧
I32 (x3 + 4) ∧
(0 : Int) ≤ (x3 + 4) ∧ ((x3 + 4) : Int) < L ∧
I32 (x3 + 5) ∧
(0 : Int) ≤ (x3 + 5) ∧ ((x3 + 5) : Int) < L ∧
f_X11_feed σ (Q (x3 + 1)) (Q (x3 + 2)) (Q (x3 + 3)) (Q (x3 + 4)) (Q (x3 + 5)) (fun r21 σ21 => ∀ _ : I32 r21,
I32 (x3 + 1) ∧
(0 : Int) ≤ (x3 + 1) ∧ ((x3 + 1) : Int) < L ∧
I32 (x3 + 2) ∧
(0 : Int) ≤ (x3 + 2) ∧ ((x3 + 2) : Int) < L ∧
I32 (x3 + 3) ∧
(0 : Int) ≤ (x3 + 3) ∧ ((x3 + 3) : Int) < L ∧
I32 (x3 + 4) ∧
(0 : Int) ≤ (x3 + 4) ∧ ((x3 + 4) : Int) < L ∧
I32 (x3 + 5) ∧
(0 : Int) ≤ (x3 + 5) ∧ ((x3 + 5) : Int) < L ∧
f_X12_feed σ21 (Q (x3 + 1)) (Q (x3 + 2)) (Q (x3 + 3)) (Q (x3 + 4)) (Q (x3 + 5)) (fun r32 σ32 => ∀ _ : I32 r32,
f_L_law_u1182 Q (f_L_law_u18 Q K445 K1188 L N) L σ32 x3))) ∧
((b_and (Q x3) 31) = 2 →
I32 (x3 + 1) ∧
(0 : Int) ≤ (x3 + 1) ∧ ((x3 + 1) : Int) < L ∧
f_X11_word σ (Q (x3 + 1)) (fun r35 σ35 => ∀ _ : I32 r35,
I32 (x3 + 1) ∧
(0 : Int) ≤ (x3 + 1) ∧ ((x3 + 1) : Int) < L ∧
f_X12_word σ35 (Q (x3 + 1)) (fun r38 σ38 => ∀ _ : I32 r38,
f_L_law_u1182 Q (f_L_law_u18 Q K445 K1188 L N) L σ38 x3))) ∧
((b_and (Q x3) 31) = 3 →
I32 (x3 + 1) ∧
(0 : Int) ≤ (x3 + 1) ∧ ((x3 + 1) : Int) < L ∧
I32 (x3 + 2) ∧
(0 : Int) ≤ (x3 + 2) ∧ ((x3 + 2) : Int) < L ∧
f_X11_change σ (Q (x3 + 1)) (Q (x3 + 2)) (fun r43 σ43 => ∀ _ : I32 r43,
I32 (x3 + 1) ∧
(0 : Int) ≤ (x3 + 1) ∧ ((x3 + 1) : Int) < L ∧
I32 (x3 + 2) ∧
(0 : Int) ≤ (x3 + 2) ∧ ((x3 + 2) : Int) < L ∧
f_X12_change σ43 (Q (x3 + 1)) (Q (x3 + 2)) (fun r48 σ48 => ∀ _ : I32 r48,
f_L_law_u1182 Q (f_L_law_u18 Q K445 K1188 L N) L σ48 x3))) ∧
((b_and (Q x3) 31) = 4 →
f_X11_round σ (fun r49 σ49 => ∀ _ : ml_B r49,
f_X12_round σ49 (fun r50 σ50 => ∀ _ : ml_B r50,
f_L_law_u1182 Q (f_L_law_u18 Q K445 K1188 L N) L σ50 x3))) ∧
((b_and (Q x3) 31) = 5 →
f_X11_caps σ (fun r51 σ51 => ∀ _ : ml_B r51,
f_X12_caps σ51 (fun r52 σ52 => ∀ _ : ml_B r52,
f_L_law_u1182 Q (f_L_law_u18 Q K445 K1188 L N) L σ52 x3))) ∧
((b_and (Q x3) 31) = 6 →
I32 (x3 + 1) ∧
(0 : Int) ≤ (x3 + 1) ∧ ((x3 + 1) : Int) < L ∧
f_X11_signs σ (Q (x3 + 1)) (fun r55 σ55 => ∀ _ : I64 r55,
I32 (x3 + 1) ∧
(0 : Int) ≤ (x3 + 1) ∧ ((x3 + 1) : Int) < L ∧
f_X12_signs σ55 (Q (x3 + 1)) (fun r58 σ58 => ∀ _ : I64 r58,
f_L_law_u1182 Q (f_L_law_u18 Q K445 K1188 L N) L σ58 x3))) ∧
((b_and (Q x3) 31) = 7 →
I32 (x3 + 1) ∧
(0 : Int) ≤ (x3 + 1) ∧ ((x3 + 1) : Int) < L ∧
I32 (x3 + 2) ∧
(0 : Int) ≤ (x3 + 2) ∧ ((x3 + 2) : Int) < L ∧
f_X11_joined σ (Q (x3 + 1)) (Q (x3 + 2)) (fun r63 σ63 => ∀ _ : I32 r63,
I32 (x3 + 1) ∧
(0 : Int) ≤ (x3 + 1) ∧ ((x3 + 1) : Int) < L ∧
I32 (x3 + 2) ∧
(0 : Int) ≤ (x3 + 2) ∧ ((x3 + 2) : Int) < L ∧
f_X12_joined σ63 (Q (x3 + 1)) (Q (x3 + 2)) (fun r68 σ68 => ∀ _ : I32 r68,
f_L_law_u1182 Q (f_L_law_u18 Q K445 K1188 L N) L σ68 x3))) ∧
((b_and (Q x3) 31) = 8 →
I32 (x3 + 1) ∧
(0 : Int) ≤ (x3 + 1) ∧ ((x3 + 1) : Int) < L ∧
I32 (x3 + 2) ∧
(0 : Int) ≤ (x3 + 2) ∧ ((x3 + 2) : Int) < L ∧
f_X11_length σ (Q (x3 + 1)) (Q (x3 + 2)) (fun r73 σ73 => ∀ _ : I64 r73,
I32 (x3 + 1) ∧
(0 : Int) ≤ (x3 + 1) ∧ ((x3 + 1) : Int) < L ∧
I32 (x3 + 2) ∧
(0 : Int) ≤ (x3 + 2) ∧ ((x3 + 2) : Int) < L ∧
f_X12_length σ73 (Q (x3 + 1)) (Q (x3 + 2)) (fun r78 σ78 => ∀ _ : I64 r78,
f_L_law_u1182 Q (f_L_law_u18 Q K445 K1188 L N) L σ78 x3))) ∧
((b_and (Q x3) 31) = 9 →
I32 (x3 + 1) ∧
(0 : Int) ≤ (x3 + 1) ∧ ((x3 + 1) : Int) < L ∧
I32 (x3 + 2) ∧
(0 : Int) ≤ (x3 + 2) ∧ ((x3 + 2) : Int) < L ∧
f_X11_loops σ (Q (x3 + 1)) (Q (x3 + 2)) (fun r83 σ83 => ∀ _ : I64 r83,
I32 (x3 + 1) ∧
(0 : Int) ≤ (x3 + 1) ∧ ((x3 + 1) : Int) < L ∧
I32 (x3 + 2) ∧
(0 : Int) ≤ (x3 + 2) ∧ ((x3 + 2) : Int) < L ∧
f_X12_loops σ83 (Q (x3 + 1)) (Q (x3 + 2)) (fun r88 σ88 => ∀ _ : I64 r88,
(r83 = r88 →
f_L_law_u1182 Q (f_L_law_u18 Q K445 K1188 L N) L σ88 x3) ∧
(r83 ≠ r88 →
K445 σ88)))) ∧
((b_and (Q x3) 31) = 10 →
I32 (x3 + 1) ∧
(0 : Int) ≤ (x3 + 1) ∧ ((x3 + 1) : Int) < L ∧
I32 (x3 + 2) ∧
(0 : Int) ≤ (x3 + 2) ∧ ((x3 + 2) : Int) < L ∧
f_X11_power σ (Q (x3 + 1)) (Q (x3 + 2)) (fun r94 σ94 => ∀ _ : I32 r94,
I32 (x3 + 1) ∧
(0 : Int) ≤ (x3 + 1) ∧ ((x3 + 1) : Int) < L ∧
I32 (x3 + 2) ∧
(0 : Int) ≤ (x3 + 2) ∧ ((x3 + 2) : Int) < L ∧
f_X12_power σ94 (Q (x3 + 1)) (Q (x3 + 2)) (fun r99 σ99 => ∀ _ : I32 r99,
f_L_law_u1182 Q (f_L_law_u18 Q K445 K1188 L N) L σ99 x3))) ∧
((b_and (Q x3) 31) = 11 →
I32 (x3 + 1) ∧
(0 : Int) ≤ (x3 + 1) ∧ ((x3 + 1) : Int) < L ∧
I32 (x3 + 2) ∧
(0 : Int) ≤ (x3 + 2) ∧ ((x3 + 2) : Int) < L ∧
f_X11_rule σ (Q (x3 + 1)) (Q (x3 + 2)) (fun r104 σ104 => ∀ _ : I64 r104,
I32 (x3 + 1) ∧
(0 : Int) ≤ (x3 + 1) ∧ ((x3 + 1) : Int) < L ∧
I32 (x3 + 2) ∧
(0 : Int) ≤ (x3 + 2) ∧ ((x3 + 2) : Int) < L ∧
f_X12_rule σ104 (Q (x3 + 1)) (Q (x3 + 2)) (fun r109 σ109 => ∀ _ : I64 r109,
f_L_law_u1182 Q (f_L_law_u18 Q K445 K1188 L N) L σ109 x3))) ∧
((b_and (Q x3) 31) = 12 →
I32 (x3 + 1) ∧
(0 : Int) ≤ (x3 + 1) ∧ ((x3 + 1) : Int) < L ∧
I32 (x3 + 2) ∧
(0 : Int) ≤ (x3 + 2) ∧ ((x3 + 2) : Int) < L ∧
I32 (x3 + 3) ∧
(0 : Int) ≤ (x3 + 3) ∧ ((x3 + 3) : Int) < L ∧
f_X11_left σ (Q (x3 + 1)) (b_lor (b_lshl (Q (x3 + 2)) 32) (b_land (Q (x3 + 3)) 4294967295)) (fun r116 σ116 => ∀ _ : I64 r116,
I32 (x3 + 1) ∧
(0 : Int) ≤ (x3 + 1) ∧ ((x3 + 1) : Int) < L ∧
I32 (x3 + 2) ∧
(0 : Int) ≤ (x3 + 2) ∧ ((x3 + 2) : Int) < L ∧
I32 (x3 + 3) ∧
(0 : Int) ≤ (x3 + 3) ∧ ((x3 + 3) : Int) < L ∧
f_X12_left σ116 (Q (x3 + 1)) (b_lor (b_lshl (Q (x3 + 2)) 32) (b_land (Q (x3 + 3)) 4294967295)) (fun r123 σ123 => ∀ _ : I64 r123,
f_L_law_u1182 Q (f_L_law_u18 Q K445 K1188 L N) L σ123 x3))) ∧
((b_and (Q x3) 31) = 13 →
I32 (x3 + 1) ∧
(0 : Int) ≤ (x3 + 1) ∧ ((x3 + 1) : Int) < L ∧
I32 (x3 + 2) ∧
(0 : Int) ≤ (x3 + 2) ∧ ((x3 + 2) : Int) < L ∧
I32 (x3 + 3) ∧
(0 : Int) ≤ (x3 + 3) ∧ ((x3 + 3) : Int) < L ∧
I32 (x3 + 4) ∧
(0 : Int) ≤ (x3 + 4) ∧ ((x3 + 4) : Int) < L ∧
I32 (x3 + 5) ∧
(0 : Int) ≤ (x3 + 5) ∧ ((x3 + 5) : Int) < L ∧
I32 (x3 + 6) ∧
(0 : Int) ≤ (x3 + 6) ∧ ((x3 + 6) : Int) < L ∧
I32 (x3 + 7) ∧
(0 : Int) ≤ (x3 + 7) ∧ ((x3 + 7) : Int) < L ∧
f_X11_those σ (Q (x3 + 1)) (b_lor (b_lshl (Q (x3 + 2)) 32) (b_land (Q (x3 + 3)) 4294967295)) (b_lor (b_lshl (Q (x3 + 4)) 32) (b_land (Q (x3 + 5)) 4294967295)) (b_lor (b_lshl (Q (x3 + 6)) 32) (b_land (Q (x3 + 7)) 4294967295)) (fun r138 σ138 => ∀ _ : I64 r138,
I32 (x3 + 1) ∧
(0 : Int) ≤ (x3 + 1) ∧ ((x3 + 1) : Int) < L ∧
I32 (x3 + 2) ∧
(0 : Int) ≤ (x3 + 2) ∧ ((x3 + 2) : Int) < L ∧
I32 (x3 + 3) ∧
(0 : Int) ≤ (x3 + 3) ∧ ((x3 + 3) : Int) < L ∧
I32 (x3 + 4) ∧
(0 : Int) ≤ (x3 + 4) ∧ ((x3 + 4) : Int) < L ∧
I32 (x3 + 5) ∧
(0 : Int) ≤ (x3 + 5) ∧ ((x3 + 5) : Int) < L ∧
I32 (x3 + 6) ∧
(0 : Int) ≤ (x3 + 6) ∧ ((x3 + 6) : Int) < L ∧
I32 (x3 + 7) ∧
(0 : Int) ≤ (x3 + 7) ∧ ((x3 + 7) : Int) < L ∧
f_X12_those σ138 (Q (x3 + 1)) (b_lor (b_lshl (Q (x3 + 2)) 32) (b_land (Q (x3 + 3)) 4294967295)) (b_lor (b_lshl (Q (x3 + 4)) 32) (b_land (Q (x3 + 5)) 4294967295)) (b_lor (b_lshl (Q (x3 + 6)) 32) (b_land (Q (x3 + 7)) 4294967295)) (fun r153 σ153 => ∀ _ : I64 r153,
f_L_law_u1182 Q (f_L_law_u18 Q K445 K1188 L N) L σ153 x3))) ∧
((b_and (Q x3) 31) = 14 →
I32 (x3 + 1) ∧
(0 : Int) ≤ (x3 + 1) ∧ ((x3 + 1) : Int) < L ∧
I32 (x3 + 2) ∧
(0 : Int) ≤ (x3 + 2) ∧ ((x3 + 2) : Int) < L ∧
I32 (x3 + 3) ∧
(0 : Int) ≤ (x3 + 3) ∧ ((x3 + 3) : Int) < L ∧
f_X11_first σ (Q (x3 + 1)) (b_lor (b_lshl (Q (x3 + 2)) 32) (b_land (Q (x3 + 3)) 4294967295)) (fun r160 σ160 => ∀ _ : I64 r160,
I32 (x3 + 1) ∧
(0 : Int) ≤ (x3 + 1) ∧ ((x3 + 1) : Int) < L ∧
I32 (x3 + 2) ∧
(0 : Int) ≤ (x3 + 2) ∧ ((x3 + 2) : Int) < L ∧
I32 (x3 + 3) ∧
(0 : Int) ≤ (x3 + 3) ∧ ((x3 + 3) : Int) < L ∧
f_X12_first σ160 (Q (x3 + 1)) (b_lor (b_lshl (Q (x3 + 2)) 32) (b_land (Q (x3 + 3)) 4294967295)) (fun r167 σ167 => ∀ _ : I64 r167,
f_L_law_u1182 Q (f_L_law_u18 Q K445 K1188 L N) L σ167 x3))) ∧
((b_and (Q x3) 31) = 15 →
I32 (x3 + 1) ∧
(0 : Int) ≤ (x3 + 1) ∧ ((x3 + 1) : Int) < L ∧
I32 (x3 + 2) ∧
(0 : Int) ≤ (x3 + 2) ∧ ((x3 + 2) : Int) < L ∧
I32 (x3 + 3) ∧
(0 : Int) ≤ (x3 + 3) ∧ ((x3 + 3) : Int) < L ∧
f_X11_both σ (Q (x3 + 1)) (Q (x3 + 2)) (Q (x3 + 3)) (fun r174 σ174 => ∀ _ : I32 r174,
I32 (x3 + 1) ∧
(0 : Int) ≤ (x3 + 1) ∧ ((x3 + 1) : Int) < L ∧
I32 (x3 + 2) ∧
(0 : Int) ≤ (x3 + 2) ∧ ((x3 + 2) : Int) < L ∧
I32 (x3 + 3) ∧
(0 : Int) ≤ (x3 + 3) ∧ ((x3 + 3) : Int) < L ∧
f_X12_both σ174 (Q (x3 + 1)) (Q (x3 + 2)) (Q (x3 + 3)) (fun r181 σ181 => ∀ _ : I32 r181,
f_L_law_u1182 Q (f_L_law_u18 Q K445 K1188 L N) L σ181 x3))) ∧
((b_and (Q x3) 31) = 16 →
I32 (x3 + 1) ∧
(0 : Int) ≤ (x3 + 1) ∧ ((x3 + 1) : Int) < L ∧
I32 (x3 + 2) ∧
(0 : Int) ≤ (x3 + 2) ∧ ((x3 + 2) : Int) < L ∧
f_X11_is σ (Q (x3 + 1)) (Q (x3 + 2)) (fun r186 σ186 => ∀ _ : I32 r186,
I32 (x3 + 1) ∧
(0 : Int) ≤ (x3 + 1) ∧ ((x3 + 1) : Int) < L ∧
I32 (x3 + 2) ∧
(0 : Int) ≤ (x3 + 2) ∧ ((x3 + 2) : Int) < L ∧
f_X12_is σ186 (Q (x3 + 1)) (Q (x3 + 2)) (fun r191 σ191 => ∀ _ : I32 r191,
f_L_law_u1182 Q (f_L_law_u18 Q K445 K1188 L N) L σ191 x3))) ∧
((b_and (Q x3) 31) = 17 →
I32 (x3 + 1) ∧
(0 : Int) ≤ (x3 + 1) ∧ ((x3 + 1) : Int) < L ∧
I32 (x3 + 2) ∧
(0 : Int) ≤ (x3 + 2) ∧ ((x3 + 2) : Int) < L ∧
I32 (x3 + 3) ∧
(0 : Int) ≤ (x3 + 3) ∧ ((x3 + 3) : Int) < L ∧
f_X11_many σ (Q (x3 + 1)) (Q (x3 + 2)) (Q (x3 + 3)) (fun r198 σ198 => ∀ _ : I32 r198,
I32 (x3 + 1) ∧
(0 : Int) ≤ (x3 + 1) ∧ ((x3 + 1) : Int) < L ∧
I32 (x3 + 2) ∧
(0 : Int) ≤ (x3 + 2) ∧ ((x3 + 2) : Int) < L ∧
I32 (x3 + 3) ∧
(0 : Int) ≤ (x3 + 3) ∧ ((x3 + 3) : Int) < L ∧
f_X12_many σ198 (Q (x3 + 1)) (Q (x3 + 2)) (Q (x3 + 3)) (fun r205 σ205 => ∀ _ : I32 r205,
f_L_law_u1182 Q (f_L_law_u18 Q K445 K1188 L N) L σ205 x3))) ∧
((b_and (Q x3) 31) = 18 →
I32 (x3 + 1) ∧
(0 : Int) ≤ (x3 + 1) ∧ ((x3 + 1) : Int) < L ∧
f_X11_made σ (Q (x3 + 1)) (fun r208 σ208 => ∀ _ : I32 r208,
I32 (x3 + 1) ∧
(0 : Int) ≤ (x3 + 1) ∧ ((x3 + 1) : Int) < L ∧
f_X12_made σ208 (Q (x3 + 1)) (fun r211 σ211 => ∀ _ : I32 r211,
f_L_law_u1182 Q (f_L_law_u18 Q K445 K1188 L N) L σ211 x3))) ∧
((b_and (Q x3) 31) = 19 →
I32 (x3 + 1) ∧
(0 : Int) ≤ (x3 + 1) ∧ ((x3 + 1) : Int) < L ∧
I32 (x3 + 2) ∧
(0 : Int) ≤ (x3 + 2) ∧ ((x3 + 2) : Int) < L ∧
I32 (x3 + 3) ∧
(0 : Int) ≤ (x3 + 3) ∧ ((x3 + 3) : Int) < L ∧
f_X11_shortest σ (Q (x3 + 1)) (Q (x3 + 2)) (Q (x3 + 3)) (fun r218 σ218 => ∀ _ : I32 r218,
I32 (x3 + 1) ∧
(0 : Int) ≤ (x3 + 1) ∧ ((x3 + 1) : Int) < L ∧
I32 (x3 + 2) ∧
(0 : Int) ≤ (x3 + 2) ∧ ((x3 + 2) : Int) < L ∧
I32 (x3 + 3) ∧
(0 : Int) ≤ (x3 + 3) ∧ ((x3 + 3) : Int) < L ∧
f_X12_shortest σ218 (Q (x3 + 1)) (Q (x3 + 2)) (Q (x3 + 3)) (fun r225 σ225 => ∀ _ : I32 r225,
f_L_law_u1182 Q (f_L_law_u18 Q K445 K1188 L N) L σ225 x3))) ∧
((b_and (Q x3) 31) = 20 →
I32 (x3 + 1) ∧
(0 : Int) ≤ (x3 + 1) ∧ ((x3 + 1) : Int) < L ∧
I32 (x3 + 2) ∧
(0 : Int) ≤ (x3 + 2) ∧ ((x3 + 2) : Int) < L ∧
f_X11_cost σ (Q (x3 + 1)) (Q (x3 + 2)) (fun r230 σ230 => ∀ _ : ml_B r230,
I32 (x3 + 1) ∧
(0 : Int) ≤ (x3 + 1) ∧ ((x3 + 1) : Int) < L ∧
I32 (x3 + 2) ∧
(0 : Int) ≤ (x3 + 2) ∧ ((x3 + 2) : Int) < L ∧
f_X12_cost σ230 (Q (x3 + 1)) (Q (x3 + 2)) (fun r235 σ235 => ∀ _ : ml_B r235,
f_L_law_u1182 Q (f_L_law_u18 Q K445 K1188 L N) L σ235 x3))) ∧
((b_and (Q x3) 31) = 21 →
I32 (x3 + 1) ∧
(0 : Int) ≤ (x3 + 1) ∧ ((x3 + 1) : Int) < L ∧
I32 (x3 + 2) ∧
(0 : Int) ≤ (x3 + 2) ∧ ((x3 + 2) : Int) < L ∧
I32 (x3 + 3) ∧
(0 : Int) ≤ (x3 + 3) ∧ ((x3 + 3) : Int) < L ∧
f_X11_cheapest σ (Q (x3 + 1)) (Q (x3 + 2)) (Q (x3 + 3)) (fun r242 σ242 => ∀ _ : I32 r242,
I32 (x3 + 1) ∧
(0 : Int) ≤ (x3 + 1) ∧ ((x3 + 1) : Int) < L ∧
I32 (x3 + 2) ∧
(0 : Int) ≤ (x3 + 2) ∧ ((x3 + 2) : Int) < L ∧
I32 (x3 + 3) ∧
(0 : Int) ≤ (x3 + 3) ∧ ((x3 + 3) : Int) < L ∧
f_X12_cheapest σ242 (Q (x3 + 1)) (Q (x3 + 2)) (Q (x3 + 3)) (fun r249 σ249 => ∀ _ : I32 r249,
f_L_law_u1182 Q (f_L_law_u18 Q K445 K1188 L N) L σ249 x3))) ∧
((b_and (Q x3) 31) = 22 →
I32 (x3 + 1) ∧
(0 : Int) ≤ (x3 + 1) ∧ ((x3 + 1) : Int) < L ∧
f_X11_mend σ (Q (x3 + 1)) (fun r252 σ252 => ∀ _ : I32 r252,
I32 (x3 + 1) ∧
(0 : Int) ≤ (x3 + 1) ∧ ((x3 + 1) : Int) < L ∧
f_X12_mend σ252 (Q (x3 + 1)) (fun r255 σ255 => ∀ _ : I32 r255,
f_L_law_u1182 Q (f_L_law_u18 Q K445 K1188 L N) L σ255 x3))) ∧
((b_and (Q x3) 31) = 23 →
I32 (x3 + 1) ∧
(0 : Int) ≤ (x3 + 1) ∧ ((x3 + 1) : Int) < L ∧
f_X11_back σ (Q (x3 + 1)) (fun r258 σ258 => ∀ _ : I32 r258,
I32 (x3 + 1) ∧
(0 : Int) ≤ (x3 + 1) ∧ ((x3 + 1) : Int) < L ∧
f_X12_back σ258 (Q (x3 + 1)) (fun r261 σ261 => ∀ _ : I32 r261,
f_L_law_u1182 Q (f_L_law_u18 Q K445 K1188 L N) L σ261 x3))) ∧
((b_and (Q x3) 31) = 24 →
I32 (x3 + 1) ∧
(0 : Int) ≤ (x3 + 1) ∧ ((x3 + 1) : Int) < L ∧
I32 (x3 + 2) ∧
(0 : Int) ≤ (x3 + 2) ∧ ((x3 + 2) : Int) < L ∧
I32 (x3 + 3) ∧
(0 : Int) ≤ (x3 + 3) ∧ ((x3 + 3) : Int) < L ∧
f_X11_walk σ (Q (x3 + 1)) (Q (x3 + 2)) (Q (x3 + 3)) (fun r268 σ268 => ∀ _ : I32 r268,
I32 (x3 + 1) ∧
(0 : Int) ≤ (x3 + 1) ∧ ((x3 + 1) : Int) < L ∧
I32 (x3 + 2) ∧
(0 : Int) ≤ (x3 + 2) ∧ ((x3 + 2) : Int) < L ∧
I32 (x3 + 3) ∧
(0 : Int) ≤ (x3 + 3) ∧ ((x3 + 3) : Int) < L ∧
f_X12_walk σ268 (Q (x3 + 1)) (Q (x3 + 2)) (Q (x3 + 3)) (fun r275 σ275 => ∀ _ : I32 r275,
f_L_law_u1182 Q (f_L_law_u18 Q K445 K1188 L N) L σ275 x3))) ∧
((b_and (Q x3) 31) = 25 →
I32 (x3 + 1) ∧
(0 : Int) ≤ (x3 + 1) ∧ ((x3 + 1) : Int) < L ∧
f_X11_check σ (Q (x3 + 1)) (fun r278 σ278 => ∀ _ : I32 r278,
I32 (x3 + 1) ∧
(0 : Int) ≤ (x3 + 1) ∧ ((x3 + 1) : Int) < L ∧
f_X12_check σ278 (Q (x3 + 1)) (fun r281 σ281 => ∀ _ : I32 r281,
f_L_law_u1182 Q (f_L_law_u18 Q K445 K1188 L N) L σ281 x3))) ∧
((b_and (Q x3) 31) = 26 →
I32 (x3 + 1) ∧
(0 : Int) ≤ (x3 + 1) ∧ ((x3 + 1) : Int) < L ∧
f_X11_count σ (Q (x3 + 1)) (fun r284 σ284 => ∀ _ : I32 r284,
I32 (x3 + 1) ∧
(0 : Int) ≤ (x3 + 1) ∧ ((x3 + 1) : Int) < L ∧
f_X12_count σ284 (Q (x3 + 1)) (fun r287 σ287 => ∀ _ : I32 r287,
f_L_law_u1182 Q (f_L_law_u18 Q K445 K1188 L N) L σ287 x3))) ∧
((b_and (Q x3) 31) < 0 ∨ 26 < (b_and (Q x3) 31) →
f_L_law_u1182 Q (f_L_law_u18 Q K445 K1188 L N) L σ x3))
def f_L_law_u445 (Q : Int → Int) (L : Int) (σ : ml_St) : Prop :=
False
def f_L_law_u1188 (Q : Int → Int) (L : Int) (σ : ml_St) : Prop :=
True
def f_L_law_u0 (Q : Int → Int) (L : Int) (σ : ml_St) : Prop :=
(∀ j : Int, σ 1 j = 0) ∧
f_X11_init σ (fun σ2 =>
(∀ j : Int, σ2 215 j = 0) ∧
f_X12_init σ2 (fun σ4 =>
ml_RO 256 σ4 ∧
∃ N1, f_L_law_u18 Q (f_L_law_u445 Q L) (f_L_law_u1188 Q L) L N1 σ4 0))
set_option maxRecDepth 100000 in
set_option maxHeartbeats 8000000 in
theorem u_L_law_1182 {p : Program} {e : Env} {s : State} {m : MethodId} {below : List Frame} {meth : Method} {c : Code} {base : Nat} {D : va_G} {cA : Nat → ClassId} {l : Launch} {b : Nat} {L : Int} {xs : Nat → Int32} {Q : Int → Int} {K18 : ml_St → Int → Prop} (X : ml_X p s m c meth #[Value.ref b] D cA cL_law 4 RL ret) (hn : lw_S s base b L xs Q) (hK18 : ∀ (σ : ml_St) (x3 : Int) (h_x3 : I32 x3) (ls : Array Slot), lv_has ls 4 [(0, .ref b), (1, .ref (base + (1 : Int).toNat)), (2, .ref (base + (215 : Int).toNat)), (3, .int (Int32.ofInt x3))] → K18 σ x3 → ml_V p l e room_1 s m #[Value.ref b] below meth c (lw_Z below #[Value.ref b] s) base D cA 256 163205 256 (256) σ (F0 m 18 ls [])) (σ : ml_St) (x3 : Int) (h_x3 : I32 x3) (ls : Array Slot) (hl : lv_has ls 4 [(0, .ref b), (1, .ref (base + (1 : Int).toNat)), (2, .ref (base + (215 : Int).toNat)), (3, .int (Int32.ofInt x3))]) (hw : f_L_law_u1182 Q K18 L σ x3) : ml_V p l e room_1 s m #[Value.ref b] below meth c (lw_Z below #[Value.ref b] s) base D cA 256 163205 256 (256) σ (F0 m 1182 ls []) := by
  unfold f_L_law_u1182 at hw
  obtain ⟨v1, hw⟩ := hw
  obtain ⟨y1, e1⟩ : ∃ y : Int, y = x3 + 8 := ⟨_, rfl⟩
  have hw := hw y1 e1
  rw [← e1] at v1
  refine ml_iinc (pc := 1182) X e1 hl 3 rfl (by decide) (lst' := [(3, .int (Int32.ofInt y1)), (0, .ref b), (1, .ref (base + (1 : Int).toNat)), (2, .ref (base + (215 : Int).toNat))]) rfl dL_law_1182 (fun ls hl => ?_)
  refine ml_goto (pc := 1185) (tgt := 18) X dL_law_1185 (by decide) ?_
  exact hK18 σ y1 v1 _ (lv_sub hl [1, 2, 3, 0] rfl) hw
set_option maxRecDepth 100000 in
set_option maxHeartbeats 8000000 in
theorem u_L_law_18 {p : Program} {e : Env} {s : State} {m : MethodId} {below : List Frame} {meth : Method} {c : Code} {base : Nat} {D : va_G} {cA : Nat → ClassId} {l : Launch} {b : Nat} {L : Int} {xs : Nat → Int32} {Q : Int → Int} {K445 : ml_St → Prop} {K1188 : ml_St → Prop} (X : ml_X p s m c meth #[Value.ref b] D cA cL_law 4 RL ret) (hn : lw_S s base b L xs Q) (hK445 : ∀ (σ : ml_St) (ls : Array Slot), lv_has ls 4 [] → K445 σ → ml_V p l e room_1 s m #[Value.ref b] below meth c (lw_Z below #[Value.ref b] s) base D cA 256 163205 256 (256) σ (F0 m 445 ls [])) (hK1188 : ∀ (σ : ml_St) (ls : Array Slot), lv_has ls 4 [] → K1188 σ → ml_V p l e room_1 s m #[Value.ref b] below meth c (lw_Z below #[Value.ref b] s) base D cA 256 163205 256 (256) σ (F0 m 1188 ls [])) : ∀ (N : Nat) (σ : ml_St) (x3 : Int) (h_x3 : I32 x3) (ls : Array Slot), lv_has ls 4 [(0, .ref b), (1, .ref (base + (1 : Int).toNat)), (2, .ref (base + (215 : Int).toNat)), (3, .int (Int32.ofInt x3))] → f_L_law_u18 Q K445 K1188 L N σ x3 → ml_V p l e room_1 s m #[Value.ref b] below meth c (lw_Z below #[Value.ref b] s) base D cA 256 163205 256 (256) σ (F0 m 18 ls []) := by
  intro N
  induction N with
  | zero => intro σ x3 h_x3 ls hl hw; exact False.elim hw
  | succ N ih =>
    intro σ x3 h_x3 ls hl hw
    unfold f_L_law_u18 at hw
    refine ml_iload_n (pc := 18) X hl 3 rfl rfl dL_law_18 ?_
    refine ml_aload_n (pc := 19) X hl 0 rfl rfl dL_law_19 ?_
    refine ml_slen (pc := 20) X hn dL_law_20 ?_
    refine ml_bipush (pc := 21) X dL_law_21 (by decide) ?_
    obtain ⟨v1, hw⟩ := hw
    refine ml_isub (pc := 23) X dL_law_23 ?_
    refine ml_icmp_gt (pc := 24) (tgt := 1188) X h_x3 v1 dL_law_24 (by decide) (fun c2 => ?_) (fun c2 => ?_)
    · have hw := hw.1 c2
      exact hK1188 σ   _ (lv_sub hl [] rfl) hw
    · have hw := hw.2 c2
      refine ml_aload_n (pc := 27) X hl 0 rfl rfl dL_law_27 ?_
      refine ml_iload_n (pc := 28) X hl 3 rfl rfl dL_law_28 ?_
      obtain ⟨a3, b3, hw⟩ := hw
      refine ml_sld (pc := 29) (i := x3) X hn a3 b3 dL_law_29 ?_
      refine ml_bipush (pc := 30) X dL_law_30 (by decide) ?_
      refine ml_iand (pc := 32) X dL_law_32 ?_
      rcases (show (b_and (Q x3) 31) = 0 ∨ (b_and (Q x3) 31) = 1 ∨ (b_and (Q x3) 31) = 2 ∨ (b_and (Q x3) 31) = 3 ∨ (b_and (Q x3) 31) = 4 ∨ (b_and (Q x3) 31) = 5 ∨ (b_and (Q x3) 31) = 6 ∨ (b_and (Q x3) 31) = 7 ∨ (b_and (Q x3) 31) = 8 ∨ (b_and (Q x3) 31) = 9 ∨ (b_and (Q x3) 31) = 10 ∨ (b_and (Q x3) 31) = 11 ∨ (b_and (Q x3) 31) = 12 ∨ (b_and (Q x3) 31) = 13 ∨ (b_and (Q x3) 31) = 14 ∨ (b_and (Q x3) 31) = 15 ∨ (b_and (Q x3) 31) = 16 ∨ (b_and (Q x3) 31) = 17 ∨ (b_and (Q x3) 31) = 18 ∨ (b_and (Q x3) 31) = 19 ∨ (b_and (Q x3) 31) = 20 ∨ (b_and (Q x3) 31) = 21 ∨ (b_and (Q x3) 31) = 22 ∨ (b_and (Q x3) 31) = 23 ∨ (b_and (Q x3) 31) = 24 ∨ (b_and (Q x3) 31) = 25 ∨ (b_and (Q x3) 31) = 26 ∨ ((b_and (Q x3) 31) < 0 ∨ 26 < (b_and (Q x3) 31)) by omega) with c4 | c4 | c4 | c4 | c4 | c4 | c4 | c4 | c4 | c4 | c4 | c4 | c4 | c4 | c4 | c4 | c4 | c4 | c4 | c4 | c4 | c4 | c4 | c4 | c4 | c4 | c4 | c4
      · have hw := hw.1 c4
        refine ml_tIn (pc := 33) (off := 123) (tgt := 156) X c4 dL_law_33 (by decide) (by decide) (by decide +kernel) (by decide) ?_
        refine ml_aload_n (pc := 156) X hl 1 rfl rfl dL_law_156 ?_
        refine ml_aload_n (pc := 157) X hl 0 rfl rfl dL_law_157 ?_
        refine ml_iload_n (pc := 158) X hl 3 rfl rfl dL_law_158 ?_
        refine ml_iconst (pc := 159) X dL_law_159 ?_
        obtain ⟨v5, hw⟩ := hw
        refine ml_iadd (pc := 160) X dL_law_160 ?_
        obtain ⟨a6, b6, hw⟩ := hw
        refine ml_sld (pc := 161) (i := x3 + 1) X hn a6 b6 dL_law_161 ?_
        refine ml_callzV (pc := 162) (rest := []) X [.int (Int32.ofInt (Q (x3 + 1)))] (by decide) rfl (ml_k1 (by decide)) (c_X11_rails l base D cA 256 (by decide) σ (Q (x3 + 1)) (hn.2.2.2.2.2.1 _) _ hw) cv_L_13 ⟨rfl, rfl⟩ ⟨by decide, by decide⟩ rfl rfl hl (Nat.le_of_ble_eq_true rfl) ⟨by decide, by decide⟩ dL_law_162 (fun r7 σ7 t7 hw => ?_)
        have hw := hw t7
        refine ml_pop (pc := 165) X dL_law_165 rfl ?_
        refine ml_aload_n (pc := 166) X hl 2 rfl rfl dL_law_166 ?_
        refine ml_aload_n (pc := 167) X hl 0 rfl rfl dL_law_167 ?_
        refine ml_iload_n (pc := 168) X hl 3 rfl rfl dL_law_168 ?_
        refine ml_iconst (pc := 169) X dL_law_169 ?_
        obtain ⟨v8, hw⟩ := hw
        refine ml_iadd (pc := 170) X dL_law_170 ?_
        obtain ⟨a9, b9, hw⟩ := hw
        refine ml_sld (pc := 171) (i := x3 + 1) X hn a9 b9 dL_law_171 ?_
        refine ml_callzV (pc := 172) (rest := []) X [.int (Int32.ofInt (Q (x3 + 1)))] (by decide) rfl (ml_k215 (by decide)) (c_X12_rails l base D cA 256 (by decide) σ7 (Q (x3 + 1)) (hn.2.2.2.2.2.1 _) _ hw) cv_L_17 ⟨rfl, rfl⟩ ⟨by decide, by decide⟩ rfl rfl hl (Nat.le_of_ble_eq_true rfl) ⟨by decide, by decide⟩ dL_law_172 (fun r10 σ10 t10 hw => ?_)
        have hw := hw t10
        refine ml_pop (pc := 175) X dL_law_175 rfl ?_
        refine ml_goto (pc := 176) (tgt := 1182) X dL_law_176 (by decide) ?_
        exact u_L_law_1182 X hn ih σ10 x3 h_x3 _ (lv_sub hl [0, 1, 2, 3] rfl) hw
      · have hw := hw.2.1 c4
        refine ml_tIn (pc := 33) (off := 146) (tgt := 179) X c4 dL_law_33 (by decide) (by decide) (by decide +kernel) (by decide) ?_
        refine ml_aload_n (pc := 179) X hl 1 rfl rfl dL_law_179 ?_
        refine ml_aload_n (pc := 180) X hl 0 rfl rfl dL_law_180 ?_
        refine ml_iload_n (pc := 181) X hl 3 rfl rfl dL_law_181 ?_
        refine ml_iconst (pc := 182) X dL_law_182 ?_
        obtain ⟨v11, hw⟩ := hw
        refine ml_iadd (pc := 183) X dL_law_183 ?_
        obtain ⟨a12, b12, hw⟩ := hw
        refine ml_sld (pc := 184) (i := x3 + 1) X hn a12 b12 dL_law_184 ?_
        refine ml_aload_n (pc := 185) X hl 0 rfl rfl dL_law_185 ?_
        refine ml_iload_n (pc := 186) X hl 3 rfl rfl dL_law_186 ?_
        refine ml_iconst (pc := 187) X dL_law_187 ?_
        obtain ⟨v13, hw⟩ := hw
        refine ml_iadd (pc := 188) X dL_law_188 ?_
        obtain ⟨a14, b14, hw⟩ := hw
        refine ml_sld (pc := 189) (i := x3 + 2) X hn a14 b14 dL_law_189 ?_
        refine ml_aload_n (pc := 190) X hl 0 rfl rfl dL_law_190 ?_
        refine ml_iload_n (pc := 191) X hl 3 rfl rfl dL_law_191 ?_
        refine ml_iconst (pc := 192) X dL_law_192 ?_
        obtain ⟨v15, hw⟩ := hw
        refine ml_iadd (pc := 193) X dL_law_193 ?_
        obtain ⟨a16, b16, hw⟩ := hw
        refine ml_sld (pc := 194) (i := x3 + 3) X hn a16 b16 dL_law_194 ?_
        refine ml_aload_n (pc := 195) X hl 0 rfl rfl dL_law_195 ?_
        refine ml_iload_n (pc := 196) X hl 3 rfl rfl dL_law_196 ?_
        refine ml_iconst (pc := 197) X dL_law_197 ?_
        obtain ⟨v17, hw⟩ := hw
        refine ml_iadd (pc := 198) X dL_law_198 ?_
        obtain ⟨a18, b18, hw⟩ := hw
        refine ml_sld (pc := 199) (i := x3 + 4) X hn a18 b18 dL_law_199 ?_
        refine ml_aload_n (pc := 200) X hl 0 rfl rfl dL_law_200 ?_
        refine ml_iload_n (pc := 201) X hl 3 rfl rfl dL_law_201 ?_
        refine ml_iconst (pc := 202) X dL_law_202 ?_
        obtain ⟨v19, hw⟩ := hw
        refine ml_iadd (pc := 203) X dL_law_203 ?_
        obtain ⟨a20, b20, hw⟩ := hw
        refine ml_sld (pc := 204) (i := x3 + 5) X hn a20 b20 dL_law_204 ?_
        refine ml_calliV (pc := 205) (rest := []) X [.int (Int32.ofInt (Q (x3 + 1))), .int (Int32.ofInt (Q (x3 + 2))), .int (Int32.ofInt (Q (x3 + 3))), .int (Int32.ofInt (Q (x3 + 4))), .int (Int32.ofInt (Q (x3 + 5)))] (by decide) rfl (ml_k1 (by decide)) (c_X11_feed l base D cA 256 (by decide) σ (Q (x3 + 1)) (Q (x3 + 2)) (Q (x3 + 3)) (Q (x3 + 4)) (Q (x3 + 5)) (hn.2.2.2.2.2.1 _) (hn.2.2.2.2.2.1 _) (hn.2.2.2.2.2.1 _) (hn.2.2.2.2.2.1 _) (hn.2.2.2.2.2.1 _) _ hw) cv_L_18 ⟨rfl, rfl⟩ ⟨by decide, by decide⟩ rfl rfl hl (Nat.le_of_ble_eq_true rfl) ⟨by decide, by decide⟩ dL_law_205 (fun r21 σ21 t21 hw => ?_)
        have hw := hw t21
        refine ml_pop (pc := 208) X dL_law_208 rfl ?_
        refine ml_aload_n (pc := 209) X hl 2 rfl rfl dL_law_209 ?_
        refine ml_aload_n (pc := 210) X hl 0 rfl rfl dL_law_210 ?_
        refine ml_iload_n (pc := 211) X hl 3 rfl rfl dL_law_211 ?_
        refine ml_iconst (pc := 212) X dL_law_212 ?_
        obtain ⟨v22, hw⟩ := hw
        refine ml_iadd (pc := 213) X dL_law_213 ?_
        obtain ⟨a23, b23, hw⟩ := hw
        refine ml_sld (pc := 214) (i := x3 + 1) X hn a23 b23 dL_law_214 ?_
        refine ml_aload_n (pc := 215) X hl 0 rfl rfl dL_law_215 ?_
        refine ml_iload_n (pc := 216) X hl 3 rfl rfl dL_law_216 ?_
        refine ml_iconst (pc := 217) X dL_law_217 ?_
        obtain ⟨v24, hw⟩ := hw
        refine ml_iadd (pc := 218) X dL_law_218 ?_
        obtain ⟨a25, b25, hw⟩ := hw
        refine ml_sld (pc := 219) (i := x3 + 2) X hn a25 b25 dL_law_219 ?_
        refine ml_aload_n (pc := 220) X hl 0 rfl rfl dL_law_220 ?_
        refine ml_iload_n (pc := 221) X hl 3 rfl rfl dL_law_221 ?_
        refine ml_iconst (pc := 222) X dL_law_222 ?_
        obtain ⟨v26, hw⟩ := hw
        refine ml_iadd (pc := 223) X dL_law_223 ?_
        obtain ⟨a27, b27, hw⟩ := hw
        refine ml_sld (pc := 224) (i := x3 + 3) X hn a27 b27 dL_law_224 ?_
        refine ml_aload_n (pc := 225) X hl 0 rfl rfl dL_law_225 ?_
        refine ml_iload_n (pc := 226) X hl 3 rfl rfl dL_law_226 ?_
        refine ml_iconst (pc := 227) X dL_law_227 ?_
        obtain ⟨v28, hw⟩ := hw
        refine ml_iadd (pc := 228) X dL_law_228 ?_
        obtain ⟨a29, b29, hw⟩ := hw
        refine ml_sld (pc := 229) (i := x3 + 4) X hn a29 b29 dL_law_229 ?_
        refine ml_aload_n (pc := 230) X hl 0 rfl rfl dL_law_230 ?_
        refine ml_iload_n (pc := 231) X hl 3 rfl rfl dL_law_231 ?_
        refine ml_iconst (pc := 232) X dL_law_232 ?_
        obtain ⟨v30, hw⟩ := hw
        refine ml_iadd (pc := 233) X dL_law_233 ?_
        obtain ⟨a31, b31, hw⟩ := hw
        refine ml_sld (pc := 234) (i := x3 + 5) X hn a31 b31 dL_law_234 ?_
        refine ml_calliV (pc := 235) (rest := []) X [.int (Int32.ofInt (Q (x3 + 1))), .int (Int32.ofInt (Q (x3 + 2))), .int (Int32.ofInt (Q (x3 + 3))), .int (Int32.ofInt (Q (x3 + 4))), .int (Int32.ofInt (Q (x3 + 5)))] (by decide) rfl (ml_k215 (by decide)) (c_X12_feed l base D cA 256 (by decide) σ21 (Q (x3 + 1)) (Q (x3 + 2)) (Q (x3 + 3)) (Q (x3 + 4)) (Q (x3 + 5)) (hn.2.2.2.2.2.1 _) (hn.2.2.2.2.2.1 _) (hn.2.2.2.2.2.1 _) (hn.2.2.2.2.2.1 _) (hn.2.2.2.2.2.1 _) _ hw) cv_L_22 ⟨rfl, rfl⟩ ⟨by decide, by decide⟩ rfl rfl hl (Nat.le_of_ble_eq_true rfl) ⟨by decide, by decide⟩ dL_law_235 (fun r32 σ32 t32 hw => ?_)
        have hw := hw t32
        refine ml_pop (pc := 238) X dL_law_238 rfl ?_
        refine ml_goto (pc := 239) (tgt := 1182) X dL_law_239 (by decide) ?_
        exact u_L_law_1182 X hn ih σ32 x3 h_x3 _ (lv_sub hl [0, 1, 2, 3] rfl) hw
      · have hw := hw.2.2.1 c4
        refine ml_tIn (pc := 33) (off := 209) (tgt := 242) X c4 dL_law_33 (by decide) (by decide) (by decide +kernel) (by decide) ?_
        refine ml_aload_n (pc := 242) X hl 1 rfl rfl dL_law_242 ?_
        refine ml_aload_n (pc := 243) X hl 0 rfl rfl dL_law_243 ?_
        refine ml_iload_n (pc := 244) X hl 3 rfl rfl dL_law_244 ?_
        refine ml_iconst (pc := 245) X dL_law_245 ?_
        obtain ⟨v33, hw⟩ := hw
        refine ml_iadd (pc := 246) X dL_law_246 ?_
        obtain ⟨a34, b34, hw⟩ := hw
        refine ml_sld (pc := 247) (i := x3 + 1) X hn a34 b34 dL_law_247 ?_
        refine ml_calliV (pc := 248) (rest := []) X [.int (Int32.ofInt (Q (x3 + 1)))] (by decide) rfl (ml_k1 (by decide)) (c_X11_word l base D cA 256 (by decide) σ (Q (x3 + 1)) (hn.2.2.2.2.2.1 _) _ hw) cv_L_23 ⟨rfl, rfl⟩ ⟨by decide, by decide⟩ rfl rfl hl (Nat.le_of_ble_eq_true rfl) ⟨by decide, by decide⟩ dL_law_248 (fun r35 σ35 t35 hw => ?_)
        have hw := hw t35
        refine ml_pop (pc := 251) X dL_law_251 rfl ?_
        refine ml_aload_n (pc := 252) X hl 2 rfl rfl dL_law_252 ?_
        refine ml_aload_n (pc := 253) X hl 0 rfl rfl dL_law_253 ?_
        refine ml_iload_n (pc := 254) X hl 3 rfl rfl dL_law_254 ?_
        refine ml_iconst (pc := 255) X dL_law_255 ?_
        obtain ⟨v36, hw⟩ := hw
        refine ml_iadd (pc := 256) X dL_law_256 ?_
        obtain ⟨a37, b37, hw⟩ := hw
        refine ml_sld (pc := 257) (i := x3 + 1) X hn a37 b37 dL_law_257 ?_
        refine ml_calliV (pc := 258) (rest := []) X [.int (Int32.ofInt (Q (x3 + 1)))] (by decide) rfl (ml_k215 (by decide)) (c_X12_word l base D cA 256 (by decide) σ35 (Q (x3 + 1)) (hn.2.2.2.2.2.1 _) _ hw) cv_L_27 ⟨rfl, rfl⟩ ⟨by decide, by decide⟩ rfl rfl hl (Nat.le_of_ble_eq_true rfl) ⟨by decide, by decide⟩ dL_law_258 (fun r38 σ38 t38 hw => ?_)
        have hw := hw t38
        refine ml_pop (pc := 261) X dL_law_261 rfl ?_
        refine ml_goto (pc := 262) (tgt := 1182) X dL_law_262 (by decide) ?_
        exact u_L_law_1182 X hn ih σ38 x3 h_x3 _ (lv_sub hl [0, 1, 2, 3] rfl) hw
      · have hw := hw.2.2.2.1 c4
        refine ml_tIn (pc := 33) (off := 232) (tgt := 265) X c4 dL_law_33 (by decide) (by decide) (by decide +kernel) (by decide) ?_
        refine ml_aload_n (pc := 265) X hl 1 rfl rfl dL_law_265 ?_
        refine ml_aload_n (pc := 266) X hl 0 rfl rfl dL_law_266 ?_
        refine ml_iload_n (pc := 267) X hl 3 rfl rfl dL_law_267 ?_
        refine ml_iconst (pc := 268) X dL_law_268 ?_
        obtain ⟨v39, hw⟩ := hw
        refine ml_iadd (pc := 269) X dL_law_269 ?_
        obtain ⟨a40, b40, hw⟩ := hw
        refine ml_sld (pc := 270) (i := x3 + 1) X hn a40 b40 dL_law_270 ?_
        refine ml_aload_n (pc := 271) X hl 0 rfl rfl dL_law_271 ?_
        refine ml_iload_n (pc := 272) X hl 3 rfl rfl dL_law_272 ?_
        refine ml_iconst (pc := 273) X dL_law_273 ?_
        obtain ⟨v41, hw⟩ := hw
        refine ml_iadd (pc := 274) X dL_law_274 ?_
        obtain ⟨a42, b42, hw⟩ := hw
        refine ml_sld (pc := 275) (i := x3 + 2) X hn a42 b42 dL_law_275 ?_
        refine ml_calliV (pc := 276) (rest := []) X [.int (Int32.ofInt (Q (x3 + 1))), .int (Int32.ofInt (Q (x3 + 2)))] (by decide) rfl (ml_k1 (by decide)) (c_X11_change l base D cA 256 (by decide) σ (Q (x3 + 1)) (Q (x3 + 2)) (hn.2.2.2.2.2.1 _) (hn.2.2.2.2.2.1 _) _ hw) cv_L_28 ⟨rfl, rfl⟩ ⟨by decide, by decide⟩ rfl rfl hl (Nat.le_of_ble_eq_true rfl) ⟨by decide, by decide⟩ dL_law_276 (fun r43 σ43 t43 hw => ?_)
        have hw := hw t43
        refine ml_pop (pc := 279) X dL_law_279 rfl ?_
        refine ml_aload_n (pc := 280) X hl 2 rfl rfl dL_law_280 ?_
        refine ml_aload_n (pc := 281) X hl 0 rfl rfl dL_law_281 ?_
        refine ml_iload_n (pc := 282) X hl 3 rfl rfl dL_law_282 ?_
        refine ml_iconst (pc := 283) X dL_law_283 ?_
        obtain ⟨v44, hw⟩ := hw
        refine ml_iadd (pc := 284) X dL_law_284 ?_
        obtain ⟨a45, b45, hw⟩ := hw
        refine ml_sld (pc := 285) (i := x3 + 1) X hn a45 b45 dL_law_285 ?_
        refine ml_aload_n (pc := 286) X hl 0 rfl rfl dL_law_286 ?_
        refine ml_iload_n (pc := 287) X hl 3 rfl rfl dL_law_287 ?_
        refine ml_iconst (pc := 288) X dL_law_288 ?_
        obtain ⟨v46, hw⟩ := hw
        refine ml_iadd (pc := 289) X dL_law_289 ?_
        obtain ⟨a47, b47, hw⟩ := hw
        refine ml_sld (pc := 290) (i := x3 + 2) X hn a47 b47 dL_law_290 ?_
        refine ml_calliV (pc := 291) (rest := []) X [.int (Int32.ofInt (Q (x3 + 1))), .int (Int32.ofInt (Q (x3 + 2)))] (by decide) rfl (ml_k215 (by decide)) (c_X12_change l base D cA 256 (by decide) σ43 (Q (x3 + 1)) (Q (x3 + 2)) (hn.2.2.2.2.2.1 _) (hn.2.2.2.2.2.1 _) _ hw) cv_L_32 ⟨rfl, rfl⟩ ⟨by decide, by decide⟩ rfl rfl hl (Nat.le_of_ble_eq_true rfl) ⟨by decide, by decide⟩ dL_law_291 (fun r48 σ48 t48 hw => ?_)
        have hw := hw t48
        refine ml_pop (pc := 294) X dL_law_294 rfl ?_
        refine ml_goto (pc := 295) (tgt := 1182) X dL_law_295 (by decide) ?_
        exact u_L_law_1182 X hn ih σ48 x3 h_x3 _ (lv_sub hl [0, 1, 2, 3] rfl) hw
      · have hw := hw.2.2.2.2.1 c4
        refine ml_tIn (pc := 33) (off := 265) (tgt := 298) X c4 dL_law_33 (by decide) (by decide) (by decide +kernel) (by decide) ?_
        refine ml_aload_n (pc := 298) X hl 1 rfl rfl dL_law_298 ?_
        refine ml_callzV (pc := 299) (rest := []) X [] (by decide) rfl (ml_k1 (by decide)) (c_X11_round l base D cA 256 (by decide) σ _ hw) cv_L_33 ⟨rfl, rfl⟩ ⟨by decide, by decide⟩ rfl rfl hl (Nat.le_of_ble_eq_true rfl) ⟨by decide, by decide⟩ dL_law_299 (fun r49 σ49 t49 hw => ?_)
        have hw := hw t49
        refine ml_pop (pc := 302) X dL_law_302 rfl ?_
        refine ml_aload_n (pc := 303) X hl 2 rfl rfl dL_law_303 ?_
        refine ml_callzV (pc := 304) (rest := []) X [] (by decide) rfl (ml_k215 (by decide)) (c_X12_round l base D cA 256 (by decide) σ49 _ hw) cv_L_37 ⟨rfl, rfl⟩ ⟨by decide, by decide⟩ rfl rfl hl (Nat.le_of_ble_eq_true rfl) ⟨by decide, by decide⟩ dL_law_304 (fun r50 σ50 t50 hw => ?_)
        have hw := hw t50
        refine ml_pop (pc := 307) X dL_law_307 rfl ?_
        refine ml_goto (pc := 308) (tgt := 1182) X dL_law_308 (by decide) ?_
        exact u_L_law_1182 X hn ih σ50 x3 h_x3 _ (lv_sub hl [0, 1, 2, 3] rfl) hw
      · have hw := hw.2.2.2.2.2.1 c4
        refine ml_tIn (pc := 33) (off := 278) (tgt := 311) X c4 dL_law_33 (by decide) (by decide) (by decide +kernel) (by decide) ?_
        refine ml_aload_n (pc := 311) X hl 1 rfl rfl dL_law_311 ?_
        refine ml_callzV (pc := 312) (rest := []) X [] (by decide) rfl (ml_k1 (by decide)) (c_X11_caps l base D cA 256 (by decide) σ _ hw) cv_L_38 ⟨rfl, rfl⟩ ⟨by decide, by decide⟩ rfl rfl hl (Nat.le_of_ble_eq_true rfl) ⟨by decide, by decide⟩ dL_law_312 (fun r51 σ51 t51 hw => ?_)
        have hw := hw t51
        refine ml_pop (pc := 315) X dL_law_315 rfl ?_
        refine ml_aload_n (pc := 316) X hl 2 rfl rfl dL_law_316 ?_
        refine ml_callzV (pc := 317) (rest := []) X [] (by decide) rfl (ml_k215 (by decide)) (c_X12_caps l base D cA 256 (by decide) σ51 _ hw) cv_L_41 ⟨rfl, rfl⟩ ⟨by decide, by decide⟩ rfl rfl hl (Nat.le_of_ble_eq_true rfl) ⟨by decide, by decide⟩ dL_law_317 (fun r52 σ52 t52 hw => ?_)
        have hw := hw t52
        refine ml_pop (pc := 320) X dL_law_320 rfl ?_
        refine ml_goto (pc := 321) (tgt := 1182) X dL_law_321 (by decide) ?_
        exact u_L_law_1182 X hn ih σ52 x3 h_x3 _ (lv_sub hl [0, 1, 2, 3] rfl) hw
      · have hw := hw.2.2.2.2.2.2.1 c4
        refine ml_tIn (pc := 33) (off := 291) (tgt := 324) X c4 dL_law_33 (by decide) (by decide) (by decide +kernel) (by decide) ?_
        refine ml_aload_n (pc := 324) X hl 1 rfl rfl dL_law_324 ?_
        refine ml_aload_n (pc := 325) X hl 0 rfl rfl dL_law_325 ?_
        refine ml_iload_n (pc := 326) X hl 3 rfl rfl dL_law_326 ?_
        refine ml_iconst (pc := 327) X dL_law_327 ?_
        obtain ⟨v53, hw⟩ := hw
        refine ml_iadd (pc := 328) X dL_law_328 ?_
        obtain ⟨a54, b54, hw⟩ := hw
        refine ml_sld (pc := 329) (i := x3 + 1) X hn a54 b54 dL_law_329 ?_
        refine ml_calllV (pc := 330) (rest := []) X [.int (Int32.ofInt (Q (x3 + 1)))] (by decide) rfl (ml_k1 (by decide)) (c_X11_signs l base D cA 256 (by decide) σ (Q (x3 + 1)) (hn.2.2.2.2.2.1 _) _ hw) cv_L_42 ⟨rfl, rfl⟩ ⟨by decide, by decide⟩ rfl rfl hl (Nat.le_of_ble_eq_true rfl) ⟨by decide, by decide⟩ dL_law_330 (fun r55 σ55 t55 hw => ?_)
        have hw := hw t55
        refine ml_pop2 (pc := 333) X dL_law_333 rfl ?_
        refine ml_aload_n (pc := 334) X hl 2 rfl rfl dL_law_334 ?_
        refine ml_aload_n (pc := 335) X hl 0 rfl rfl dL_law_335 ?_
        refine ml_iload_n (pc := 336) X hl 3 rfl rfl dL_law_336 ?_
        refine ml_iconst (pc := 337) X dL_law_337 ?_
        obtain ⟨v56, hw⟩ := hw
        refine ml_iadd (pc := 338) X dL_law_338 ?_
        obtain ⟨a57, b57, hw⟩ := hw
        refine ml_sld (pc := 339) (i := x3 + 1) X hn a57 b57 dL_law_339 ?_
        refine ml_calllV (pc := 340) (rest := []) X [.int (Int32.ofInt (Q (x3 + 1)))] (by decide) rfl (ml_k215 (by decide)) (c_X12_signs l base D cA 256 (by decide) σ55 (Q (x3 + 1)) (hn.2.2.2.2.2.1 _) _ hw) cv_L_46 ⟨rfl, rfl⟩ ⟨by decide, by decide⟩ rfl rfl hl (Nat.le_of_ble_eq_true rfl) ⟨by decide, by decide⟩ dL_law_340 (fun r58 σ58 t58 hw => ?_)
        have hw := hw t58
        refine ml_pop2 (pc := 343) X dL_law_343 rfl ?_
        refine ml_goto (pc := 344) (tgt := 1182) X dL_law_344 (by decide) ?_
        exact u_L_law_1182 X hn ih σ58 x3 h_x3 _ (lv_sub hl [0, 1, 2, 3] rfl) hw
      · have hw := hw.2.2.2.2.2.2.2.1 c4
        refine ml_tIn (pc := 33) (off := 314) (tgt := 347) X c4 dL_law_33 (by decide) (by decide) (by decide +kernel) (by decide) ?_
        refine ml_aload_n (pc := 347) X hl 1 rfl rfl dL_law_347 ?_
        refine ml_aload_n (pc := 348) X hl 0 rfl rfl dL_law_348 ?_
        refine ml_iload_n (pc := 349) X hl 3 rfl rfl dL_law_349 ?_
        refine ml_iconst (pc := 350) X dL_law_350 ?_
        obtain ⟨v59, hw⟩ := hw
        refine ml_iadd (pc := 351) X dL_law_351 ?_
        obtain ⟨a60, b60, hw⟩ := hw
        refine ml_sld (pc := 352) (i := x3 + 1) X hn a60 b60 dL_law_352 ?_
        refine ml_aload_n (pc := 353) X hl 0 rfl rfl dL_law_353 ?_
        refine ml_iload_n (pc := 354) X hl 3 rfl rfl dL_law_354 ?_
        refine ml_iconst (pc := 355) X dL_law_355 ?_
        obtain ⟨v61, hw⟩ := hw
        refine ml_iadd (pc := 356) X dL_law_356 ?_
        obtain ⟨a62, b62, hw⟩ := hw
        refine ml_sld (pc := 357) (i := x3 + 2) X hn a62 b62 dL_law_357 ?_
        refine ml_calliV (pc := 358) (rest := []) X [.int (Int32.ofInt (Q (x3 + 1))), .int (Int32.ofInt (Q (x3 + 2)))] (by decide) rfl (ml_k1 (by decide)) (c_X11_joined l base D cA 256 (by decide) σ (Q (x3 + 1)) (Q (x3 + 2)) (hn.2.2.2.2.2.1 _) (hn.2.2.2.2.2.1 _) _ hw) cv_L_47 ⟨rfl, rfl⟩ ⟨by decide, by decide⟩ rfl rfl hl (Nat.le_of_ble_eq_true rfl) ⟨by decide, by decide⟩ dL_law_358 (fun r63 σ63 t63 hw => ?_)
        have hw := hw t63
        refine ml_pop (pc := 361) X dL_law_361 rfl ?_
        refine ml_aload_n (pc := 362) X hl 2 rfl rfl dL_law_362 ?_
        refine ml_aload_n (pc := 363) X hl 0 rfl rfl dL_law_363 ?_
        refine ml_iload_n (pc := 364) X hl 3 rfl rfl dL_law_364 ?_
        refine ml_iconst (pc := 365) X dL_law_365 ?_
        obtain ⟨v64, hw⟩ := hw
        refine ml_iadd (pc := 366) X dL_law_366 ?_
        obtain ⟨a65, b65, hw⟩ := hw
        refine ml_sld (pc := 367) (i := x3 + 1) X hn a65 b65 dL_law_367 ?_
        refine ml_aload_n (pc := 368) X hl 0 rfl rfl dL_law_368 ?_
        refine ml_iload_n (pc := 369) X hl 3 rfl rfl dL_law_369 ?_
        refine ml_iconst (pc := 370) X dL_law_370 ?_
        obtain ⟨v66, hw⟩ := hw
        refine ml_iadd (pc := 371) X dL_law_371 ?_
        obtain ⟨a67, b67, hw⟩ := hw
        refine ml_sld (pc := 372) (i := x3 + 2) X hn a67 b67 dL_law_372 ?_
        refine ml_calliV (pc := 373) (rest := []) X [.int (Int32.ofInt (Q (x3 + 1))), .int (Int32.ofInt (Q (x3 + 2)))] (by decide) rfl (ml_k215 (by decide)) (c_X12_joined l base D cA 256 (by decide) σ63 (Q (x3 + 1)) (Q (x3 + 2)) (hn.2.2.2.2.2.1 _) (hn.2.2.2.2.2.1 _) _ hw) cv_L_50 ⟨rfl, rfl⟩ ⟨by decide, by decide⟩ rfl rfl hl (Nat.le_of_ble_eq_true rfl) ⟨by decide, by decide⟩ dL_law_373 (fun r68 σ68 t68 hw => ?_)
        have hw := hw t68
        refine ml_pop (pc := 376) X dL_law_376 rfl ?_
        refine ml_goto (pc := 377) (tgt := 1182) X dL_law_377 (by decide) ?_
        exact u_L_law_1182 X hn ih σ68 x3 h_x3 _ (lv_sub hl [0, 1, 2, 3] rfl) hw
      · have hw := hw.2.2.2.2.2.2.2.2.1 c4
        refine ml_tIn (pc := 33) (off := 347) (tgt := 380) X c4 dL_law_33 (by decide) (by decide) (by decide +kernel) (by decide) ?_
        refine ml_aload_n (pc := 380) X hl 1 rfl rfl dL_law_380 ?_
        refine ml_aload_n (pc := 381) X hl 0 rfl rfl dL_law_381 ?_
        refine ml_iload_n (pc := 382) X hl 3 rfl rfl dL_law_382 ?_
        refine ml_iconst (pc := 383) X dL_law_383 ?_
        obtain ⟨v69, hw⟩ := hw
        refine ml_iadd (pc := 384) X dL_law_384 ?_
        obtain ⟨a70, b70, hw⟩ := hw
        refine ml_sld (pc := 385) (i := x3 + 1) X hn a70 b70 dL_law_385 ?_
        refine ml_aload_n (pc := 386) X hl 0 rfl rfl dL_law_386 ?_
        refine ml_iload_n (pc := 387) X hl 3 rfl rfl dL_law_387 ?_
        refine ml_iconst (pc := 388) X dL_law_388 ?_
        obtain ⟨v71, hw⟩ := hw
        refine ml_iadd (pc := 389) X dL_law_389 ?_
        obtain ⟨a72, b72, hw⟩ := hw
        refine ml_sld (pc := 390) (i := x3 + 2) X hn a72 b72 dL_law_390 ?_
        refine ml_calllV (pc := 391) (rest := []) X [.int (Int32.ofInt (Q (x3 + 1))), .int (Int32.ofInt (Q (x3 + 2)))] (by decide) rfl (ml_k1 (by decide)) (c_X11_length l base D cA 256 (by decide) σ (Q (x3 + 1)) (Q (x3 + 2)) (hn.2.2.2.2.2.1 _) (hn.2.2.2.2.2.1 _) _ hw) cv_L_51 ⟨rfl, rfl⟩ ⟨by decide, by decide⟩ rfl rfl hl (Nat.le_of_ble_eq_true rfl) ⟨by decide, by decide⟩ dL_law_391 (fun r73 σ73 t73 hw => ?_)
        have hw := hw t73
        refine ml_pop2 (pc := 394) X dL_law_394 rfl ?_
        refine ml_aload_n (pc := 395) X hl 2 rfl rfl dL_law_395 ?_
        refine ml_aload_n (pc := 396) X hl 0 rfl rfl dL_law_396 ?_
        refine ml_iload_n (pc := 397) X hl 3 rfl rfl dL_law_397 ?_
        refine ml_iconst (pc := 398) X dL_law_398 ?_
        obtain ⟨v74, hw⟩ := hw
        refine ml_iadd (pc := 399) X dL_law_399 ?_
        obtain ⟨a75, b75, hw⟩ := hw
        refine ml_sld (pc := 400) (i := x3 + 1) X hn a75 b75 dL_law_400 ?_
        refine ml_aload_n (pc := 401) X hl 0 rfl rfl dL_law_401 ?_
        refine ml_iload_n (pc := 402) X hl 3 rfl rfl dL_law_402 ?_
        refine ml_iconst (pc := 403) X dL_law_403 ?_
        obtain ⟨v76, hw⟩ := hw
        refine ml_iadd (pc := 404) X dL_law_404 ?_
        obtain ⟨a77, b77, hw⟩ := hw
        refine ml_sld (pc := 405) (i := x3 + 2) X hn a77 b77 dL_law_405 ?_
        refine ml_calllV (pc := 406) (rest := []) X [.int (Int32.ofInt (Q (x3 + 1))), .int (Int32.ofInt (Q (x3 + 2)))] (by decide) rfl (ml_k215 (by decide)) (c_X12_length l base D cA 256 (by decide) σ73 (Q (x3 + 1)) (Q (x3 + 2)) (hn.2.2.2.2.2.1 _) (hn.2.2.2.2.2.1 _) _ hw) cv_L_55 ⟨rfl, rfl⟩ ⟨by decide, by decide⟩ rfl rfl hl (Nat.le_of_ble_eq_true rfl) ⟨by decide, by decide⟩ dL_law_406 (fun r78 σ78 t78 hw => ?_)
        have hw := hw t78
        refine ml_pop2 (pc := 409) X dL_law_409 rfl ?_
        refine ml_goto (pc := 410) (tgt := 1182) X dL_law_410 (by decide) ?_
        exact u_L_law_1182 X hn ih σ78 x3 h_x3 _ (lv_sub hl [0, 1, 2, 3] rfl) hw
      · have hw := hw.2.2.2.2.2.2.2.2.2.1 c4
        refine ml_tIn (pc := 33) (off := 380) (tgt := 413) X c4 dL_law_33 (by decide) (by decide) (by decide +kernel) (by decide) ?_
        refine ml_aload_n (pc := 413) X hl 1 rfl rfl dL_law_413 ?_
        refine ml_aload_n (pc := 414) X hl 0 rfl rfl dL_law_414 ?_
        refine ml_iload_n (pc := 415) X hl 3 rfl rfl dL_law_415 ?_
        refine ml_iconst (pc := 416) X dL_law_416 ?_
        obtain ⟨v79, hw⟩ := hw
        refine ml_iadd (pc := 417) X dL_law_417 ?_
        obtain ⟨a80, b80, hw⟩ := hw
        refine ml_sld (pc := 418) (i := x3 + 1) X hn a80 b80 dL_law_418 ?_
        refine ml_aload_n (pc := 419) X hl 0 rfl rfl dL_law_419 ?_
        refine ml_iload_n (pc := 420) X hl 3 rfl rfl dL_law_420 ?_
        refine ml_iconst (pc := 421) X dL_law_421 ?_
        obtain ⟨v81, hw⟩ := hw
        refine ml_iadd (pc := 422) X dL_law_422 ?_
        obtain ⟨a82, b82, hw⟩ := hw
        refine ml_sld (pc := 423) (i := x3 + 2) X hn a82 b82 dL_law_423 ?_
        refine ml_calllV (pc := 424) (rest := []) X [.int (Int32.ofInt (Q (x3 + 1))), .int (Int32.ofInt (Q (x3 + 2)))] (by decide) rfl (ml_k1 (by decide)) (c_X11_loops l base D cA 256 (by decide) σ (Q (x3 + 1)) (Q (x3 + 2)) (hn.2.2.2.2.2.1 _) (hn.2.2.2.2.2.1 _) _ hw) cv_L_56 ⟨rfl, rfl⟩ ⟨by decide, by decide⟩ rfl rfl hl (Nat.le_of_ble_eq_true rfl) ⟨by decide, by decide⟩ dL_law_424 (fun r83 σ83 t83 hw => ?_)
        have hw := hw t83
        refine ml_aload_n (pc := 427) X hl 2 rfl rfl dL_law_427 ?_
        refine ml_aload_n (pc := 428) X hl 0 rfl rfl dL_law_428 ?_
        refine ml_iload_n (pc := 429) X hl 3 rfl rfl dL_law_429 ?_
        refine ml_iconst (pc := 430) X dL_law_430 ?_
        obtain ⟨v84, hw⟩ := hw
        refine ml_iadd (pc := 431) X dL_law_431 ?_
        obtain ⟨a85, b85, hw⟩ := hw
        refine ml_sld (pc := 432) (i := x3 + 1) X hn a85 b85 dL_law_432 ?_
        refine ml_aload_n (pc := 433) X hl 0 rfl rfl dL_law_433 ?_
        refine ml_iload_n (pc := 434) X hl 3 rfl rfl dL_law_434 ?_
        refine ml_iconst (pc := 435) X dL_law_435 ?_
        obtain ⟨v86, hw⟩ := hw
        refine ml_iadd (pc := 436) X dL_law_436 ?_
        obtain ⟨a87, b87, hw⟩ := hw
        refine ml_sld (pc := 437) (i := x3 + 2) X hn a87 b87 dL_law_437 ?_
        refine ml_calllV (pc := 438) (rest := [.long (Int64.ofInt r83)]) X [.int (Int32.ofInt (Q (x3 + 1))), .int (Int32.ofInt (Q (x3 + 2)))] (by decide) rfl (ml_k215 (by decide)) (c_X12_loops l base D cA 256 (by decide) σ83 (Q (x3 + 1)) (Q (x3 + 2)) (hn.2.2.2.2.2.1 _) (hn.2.2.2.2.2.1 _) _ hw) cv_L_59 ⟨rfl, rfl⟩ ⟨by decide, by decide⟩ rfl rfl hl (Nat.le_of_ble_eq_true rfl) ⟨by decide, by decide⟩ dL_law_438 (fun r88 σ88 t88 hw => ?_)
        have hw := hw t88
        refine ml_lcmp_eq (pc := 441) (tgt := 1182) X t83 t88 dL_law_441 dL_law_442 (by decide) (fun c89 => ?_) (fun c89 => ?_)
        · have hw := hw.1 c89
          exact u_L_law_1182 X hn ih σ88 x3 h_x3 _ (lv_sub hl [0, 1, 2, 3] rfl) hw
        · have hw := hw.2 c89
          exact hK445 σ88   _ (lv_sub hl [] rfl) hw
      · have hw := hw.2.2.2.2.2.2.2.2.2.2.1 c4
        refine ml_tIn (pc := 33) (off := 414) (tgt := 447) X c4 dL_law_33 (by decide) (by decide) (by decide +kernel) (by decide) ?_
        refine ml_aload_n (pc := 447) X hl 1 rfl rfl dL_law_447 ?_
        refine ml_aload_n (pc := 448) X hl 0 rfl rfl dL_law_448 ?_
        refine ml_iload_n (pc := 449) X hl 3 rfl rfl dL_law_449 ?_
        refine ml_iconst (pc := 450) X dL_law_450 ?_
        obtain ⟨v90, hw⟩ := hw
        refine ml_iadd (pc := 451) X dL_law_451 ?_
        obtain ⟨a91, b91, hw⟩ := hw
        refine ml_sld (pc := 452) (i := x3 + 1) X hn a91 b91 dL_law_452 ?_
        refine ml_aload_n (pc := 453) X hl 0 rfl rfl dL_law_453 ?_
        refine ml_iload_n (pc := 454) X hl 3 rfl rfl dL_law_454 ?_
        refine ml_iconst (pc := 455) X dL_law_455 ?_
        obtain ⟨v92, hw⟩ := hw
        refine ml_iadd (pc := 456) X dL_law_456 ?_
        obtain ⟨a93, b93, hw⟩ := hw
        refine ml_sld (pc := 457) (i := x3 + 2) X hn a93 b93 dL_law_457 ?_
        refine ml_calliV (pc := 458) (rest := []) X [.int (Int32.ofInt (Q (x3 + 1))), .int (Int32.ofInt (Q (x3 + 2)))] (by decide) rfl (ml_k1 (by decide)) (c_X11_power l base D cA 256 (by decide) σ (Q (x3 + 1)) (Q (x3 + 2)) (hn.2.2.2.2.2.1 _) (hn.2.2.2.2.2.1 _) _ hw) cv_L_60 ⟨rfl, rfl⟩ ⟨by decide, by decide⟩ rfl rfl hl (Nat.le_of_ble_eq_true rfl) ⟨by decide, by decide⟩ dL_law_458 (fun r94 σ94 t94 hw => ?_)
        have hw := hw t94
        refine ml_pop (pc := 461) X dL_law_461 rfl ?_
        refine ml_aload_n (pc := 462) X hl 2 rfl rfl dL_law_462 ?_
        refine ml_aload_n (pc := 463) X hl 0 rfl rfl dL_law_463 ?_
        refine ml_iload_n (pc := 464) X hl 3 rfl rfl dL_law_464 ?_
        refine ml_iconst (pc := 465) X dL_law_465 ?_
        obtain ⟨v95, hw⟩ := hw
        refine ml_iadd (pc := 466) X dL_law_466 ?_
        obtain ⟨a96, b96, hw⟩ := hw
        refine ml_sld (pc := 467) (i := x3 + 1) X hn a96 b96 dL_law_467 ?_
        refine ml_aload_n (pc := 468) X hl 0 rfl rfl dL_law_468 ?_
        refine ml_iload_n (pc := 469) X hl 3 rfl rfl dL_law_469 ?_
        refine ml_iconst (pc := 470) X dL_law_470 ?_
        obtain ⟨v97, hw⟩ := hw
        refine ml_iadd (pc := 471) X dL_law_471 ?_
        obtain ⟨a98, b98, hw⟩ := hw
        refine ml_sld (pc := 472) (i := x3 + 2) X hn a98 b98 dL_law_472 ?_
        refine ml_calliV (pc := 473) (rest := []) X [.int (Int32.ofInt (Q (x3 + 1))), .int (Int32.ofInt (Q (x3 + 2)))] (by decide) rfl (ml_k215 (by decide)) (c_X12_power l base D cA 256 (by decide) σ94 (Q (x3 + 1)) (Q (x3 + 2)) (hn.2.2.2.2.2.1 _) (hn.2.2.2.2.2.1 _) _ hw) cv_L_63 ⟨rfl, rfl⟩ ⟨by decide, by decide⟩ rfl rfl hl (Nat.le_of_ble_eq_true rfl) ⟨by decide, by decide⟩ dL_law_473 (fun r99 σ99 t99 hw => ?_)
        have hw := hw t99
        refine ml_pop (pc := 476) X dL_law_476 rfl ?_
        refine ml_goto (pc := 477) (tgt := 1182) X dL_law_477 (by decide) ?_
        exact u_L_law_1182 X hn ih σ99 x3 h_x3 _ (lv_sub hl [0, 1, 2, 3] rfl) hw
      · have hw := hw.2.2.2.2.2.2.2.2.2.2.2.1 c4
        refine ml_tIn (pc := 33) (off := 447) (tgt := 480) X c4 dL_law_33 (by decide) (by decide) (by decide +kernel) (by decide) ?_
        refine ml_aload_n (pc := 480) X hl 1 rfl rfl dL_law_480 ?_
        refine ml_aload_n (pc := 481) X hl 0 rfl rfl dL_law_481 ?_
        refine ml_iload_n (pc := 482) X hl 3 rfl rfl dL_law_482 ?_
        refine ml_iconst (pc := 483) X dL_law_483 ?_
        obtain ⟨v100, hw⟩ := hw
        refine ml_iadd (pc := 484) X dL_law_484 ?_
        obtain ⟨a101, b101, hw⟩ := hw
        refine ml_sld (pc := 485) (i := x3 + 1) X hn a101 b101 dL_law_485 ?_
        refine ml_aload_n (pc := 486) X hl 0 rfl rfl dL_law_486 ?_
        refine ml_iload_n (pc := 487) X hl 3 rfl rfl dL_law_487 ?_
        refine ml_iconst (pc := 488) X dL_law_488 ?_
        obtain ⟨v102, hw⟩ := hw
        refine ml_iadd (pc := 489) X dL_law_489 ?_
        obtain ⟨a103, b103, hw⟩ := hw
        refine ml_sld (pc := 490) (i := x3 + 2) X hn a103 b103 dL_law_490 ?_
        refine ml_calllV (pc := 491) (rest := []) X [.int (Int32.ofInt (Q (x3 + 1))), .int (Int32.ofInt (Q (x3 + 2)))] (by decide) rfl (ml_k1 (by decide)) (c_X11_rule l base D cA 256 (by decide) σ (Q (x3 + 1)) (Q (x3 + 2)) (hn.2.2.2.2.2.1 _) (hn.2.2.2.2.2.1 _) _ hw) cv_L_64 ⟨rfl, rfl⟩ ⟨by decide, by decide⟩ rfl rfl hl (Nat.le_of_ble_eq_true rfl) ⟨by decide, by decide⟩ dL_law_491 (fun r104 σ104 t104 hw => ?_)
        have hw := hw t104
        refine ml_pop2 (pc := 494) X dL_law_494 rfl ?_
        refine ml_aload_n (pc := 495) X hl 2 rfl rfl dL_law_495 ?_
        refine ml_aload_n (pc := 496) X hl 0 rfl rfl dL_law_496 ?_
        refine ml_iload_n (pc := 497) X hl 3 rfl rfl dL_law_497 ?_
        refine ml_iconst (pc := 498) X dL_law_498 ?_
        obtain ⟨v105, hw⟩ := hw
        refine ml_iadd (pc := 499) X dL_law_499 ?_
        obtain ⟨a106, b106, hw⟩ := hw
        refine ml_sld (pc := 500) (i := x3 + 1) X hn a106 b106 dL_law_500 ?_
        refine ml_aload_n (pc := 501) X hl 0 rfl rfl dL_law_501 ?_
        refine ml_iload_n (pc := 502) X hl 3 rfl rfl dL_law_502 ?_
        refine ml_iconst (pc := 503) X dL_law_503 ?_
        obtain ⟨v107, hw⟩ := hw
        refine ml_iadd (pc := 504) X dL_law_504 ?_
        obtain ⟨a108, b108, hw⟩ := hw
        refine ml_sld (pc := 505) (i := x3 + 2) X hn a108 b108 dL_law_505 ?_
        refine ml_calllV (pc := 506) (rest := []) X [.int (Int32.ofInt (Q (x3 + 1))), .int (Int32.ofInt (Q (x3 + 2)))] (by decide) rfl (ml_k215 (by decide)) (c_X12_rule l base D cA 256 (by decide) σ104 (Q (x3 + 1)) (Q (x3 + 2)) (hn.2.2.2.2.2.1 _) (hn.2.2.2.2.2.1 _) _ hw) cv_L_67 ⟨rfl, rfl⟩ ⟨by decide, by decide⟩ rfl rfl hl (Nat.le_of_ble_eq_true rfl) ⟨by decide, by decide⟩ dL_law_506 (fun r109 σ109 t109 hw => ?_)
        have hw := hw t109
        refine ml_pop2 (pc := 509) X dL_law_509 rfl ?_
        refine ml_goto (pc := 510) (tgt := 1182) X dL_law_510 (by decide) ?_
        exact u_L_law_1182 X hn ih σ109 x3 h_x3 _ (lv_sub hl [0, 1, 2, 3] rfl) hw
      · have hw := hw.2.2.2.2.2.2.2.2.2.2.2.2.1 c4
        refine ml_tIn (pc := 33) (off := 480) (tgt := 513) X c4 dL_law_33 (by decide) (by decide) (by decide +kernel) (by decide) ?_
        refine ml_aload_n (pc := 513) X hl 1 rfl rfl dL_law_513 ?_
        refine ml_aload_n (pc := 514) X hl 0 rfl rfl dL_law_514 ?_
        refine ml_iload_n (pc := 515) X hl 3 rfl rfl dL_law_515 ?_
        refine ml_iconst (pc := 516) X dL_law_516 ?_
        obtain ⟨v110, hw⟩ := hw
        refine ml_iadd (pc := 517) X dL_law_517 ?_
        obtain ⟨a111, b111, hw⟩ := hw
        refine ml_sld (pc := 518) (i := x3 + 1) X hn a111 b111 dL_law_518 ?_
        refine ml_aload_n (pc := 519) X hl 0 rfl rfl dL_law_519 ?_
        refine ml_iload_n (pc := 520) X hl 3 rfl rfl dL_law_520 ?_
        refine ml_iconst (pc := 521) X dL_law_521 ?_
        obtain ⟨v112, hw⟩ := hw
        refine ml_iadd (pc := 522) X dL_law_522 ?_
        obtain ⟨a113, b113, hw⟩ := hw
        refine ml_sld (pc := 523) (i := x3 + 2) X hn a113 b113 dL_law_523 ?_
        refine ml_i2l (pc := 524) X (hn.2.2.2.2.2.1 _) dL_law_524 ?_
        refine ml_bipush (pc := 525) X dL_law_525 (by decide) ?_
        refine ml_lshl (pc := 527) X dL_law_527 ?_
        refine ml_aload_n (pc := 528) X hl 0 rfl rfl dL_law_528 ?_
        refine ml_iload_n (pc := 529) X hl 3 rfl rfl dL_law_529 ?_
        refine ml_iconst (pc := 530) X dL_law_530 ?_
        obtain ⟨v114, hw⟩ := hw
        refine ml_iadd (pc := 531) X dL_law_531 ?_
        obtain ⟨a115, b115, hw⟩ := hw
        refine ml_sld (pc := 532) (i := x3 + 3) X hn a115 b115 dL_law_532 ?_
        refine ml_i2l (pc := 533) X (hn.2.2.2.2.2.1 _) dL_law_533 ?_
        refine ml_ldc2 (pc := 534) (v := 4294967295) X dL_law_534 tc_7_17 ?_
        refine ml_land (pc := 537) X dL_law_537 ?_
        refine ml_lor (pc := 538) X dL_law_538 ?_
        refine ml_calllV (pc := 539) (rest := []) X [.int (Int32.ofInt (Q (x3 + 1))), .long (Int64.ofInt (b_lor (b_lshl (Q (x3 + 2)) 32) (b_land (Q (x3 + 3)) 4294967295)))] (by decide) rfl (ml_k1 (by decide)) (c_X11_left l base D cA 256 (by decide) σ (Q (x3 + 1)) (b_lor (b_lshl (Q (x3 + 2)) 32) (b_land (Q (x3 + 3)) 4294967295)) (hn.2.2.2.2.2.1 _) (b_lor_r _ _) _ hw) cv_L_70 ⟨rfl, rfl⟩ ⟨by decide, by decide⟩ rfl rfl hl (Nat.le_of_ble_eq_true rfl) ⟨by decide, by decide⟩ dL_law_539 (fun r116 σ116 t116 hw => ?_)
        have hw := hw t116
        refine ml_pop2 (pc := 542) X dL_law_542 rfl ?_
        refine ml_aload_n (pc := 543) X hl 2 rfl rfl dL_law_543 ?_
        refine ml_aload_n (pc := 544) X hl 0 rfl rfl dL_law_544 ?_
        refine ml_iload_n (pc := 545) X hl 3 rfl rfl dL_law_545 ?_
        refine ml_iconst (pc := 546) X dL_law_546 ?_
        obtain ⟨v117, hw⟩ := hw
        refine ml_iadd (pc := 547) X dL_law_547 ?_
        obtain ⟨a118, b118, hw⟩ := hw
        refine ml_sld (pc := 548) (i := x3 + 1) X hn a118 b118 dL_law_548 ?_
        refine ml_aload_n (pc := 549) X hl 0 rfl rfl dL_law_549 ?_
        refine ml_iload_n (pc := 550) X hl 3 rfl rfl dL_law_550 ?_
        refine ml_iconst (pc := 551) X dL_law_551 ?_
        obtain ⟨v119, hw⟩ := hw
        refine ml_iadd (pc := 552) X dL_law_552 ?_
        obtain ⟨a120, b120, hw⟩ := hw
        refine ml_sld (pc := 553) (i := x3 + 2) X hn a120 b120 dL_law_553 ?_
        refine ml_i2l (pc := 554) X (hn.2.2.2.2.2.1 _) dL_law_554 ?_
        refine ml_bipush (pc := 555) X dL_law_555 (by decide) ?_
        refine ml_lshl (pc := 557) X dL_law_557 ?_
        refine ml_aload_n (pc := 558) X hl 0 rfl rfl dL_law_558 ?_
        refine ml_iload_n (pc := 559) X hl 3 rfl rfl dL_law_559 ?_
        refine ml_iconst (pc := 560) X dL_law_560 ?_
        obtain ⟨v121, hw⟩ := hw
        refine ml_iadd (pc := 561) X dL_law_561 ?_
        obtain ⟨a122, b122, hw⟩ := hw
        refine ml_sld (pc := 562) (i := x3 + 3) X hn a122 b122 dL_law_562 ?_
        refine ml_i2l (pc := 563) X (hn.2.2.2.2.2.1 _) dL_law_563 ?_
        refine ml_ldc2 (pc := 564) (v := 4294967295) X dL_law_564 tc_7_17 ?_
        refine ml_land (pc := 567) X dL_law_567 ?_
        refine ml_lor (pc := 568) X dL_law_568 ?_
        refine ml_calllV (pc := 569) (rest := []) X [.int (Int32.ofInt (Q (x3 + 1))), .long (Int64.ofInt (b_lor (b_lshl (Q (x3 + 2)) 32) (b_land (Q (x3 + 3)) 4294967295)))] (by decide) rfl (ml_k215 (by decide)) (c_X12_left l base D cA 256 (by decide) σ116 (Q (x3 + 1)) (b_lor (b_lshl (Q (x3 + 2)) 32) (b_land (Q (x3 + 3)) 4294967295)) (hn.2.2.2.2.2.1 _) (b_lor_r _ _) _ hw) cv_L_74 ⟨rfl, rfl⟩ ⟨by decide, by decide⟩ rfl rfl hl (Nat.le_of_ble_eq_true rfl) ⟨by decide, by decide⟩ dL_law_569 (fun r123 σ123 t123 hw => ?_)
        have hw := hw t123
        refine ml_pop2 (pc := 572) X dL_law_572 rfl ?_
        refine ml_goto (pc := 573) (tgt := 1182) X dL_law_573 (by decide) ?_
        exact u_L_law_1182 X hn ih σ123 x3 h_x3 _ (lv_sub hl [0, 1, 2, 3] rfl) hw
      · have hw := hw.2.2.2.2.2.2.2.2.2.2.2.2.2.1 c4
        refine ml_tIn (pc := 33) (off := 543) (tgt := 576) X c4 dL_law_33 (by decide) (by decide) (by decide +kernel) (by decide) ?_
        refine ml_aload_n (pc := 576) X hl 1 rfl rfl dL_law_576 ?_
        refine ml_aload_n (pc := 577) X hl 0 rfl rfl dL_law_577 ?_
        refine ml_iload_n (pc := 578) X hl 3 rfl rfl dL_law_578 ?_
        refine ml_iconst (pc := 579) X dL_law_579 ?_
        obtain ⟨v124, hw⟩ := hw
        refine ml_iadd (pc := 580) X dL_law_580 ?_
        obtain ⟨a125, b125, hw⟩ := hw
        refine ml_sld (pc := 581) (i := x3 + 1) X hn a125 b125 dL_law_581 ?_
        refine ml_aload_n (pc := 582) X hl 0 rfl rfl dL_law_582 ?_
        refine ml_iload_n (pc := 583) X hl 3 rfl rfl dL_law_583 ?_
        refine ml_iconst (pc := 584) X dL_law_584 ?_
        obtain ⟨v126, hw⟩ := hw
        refine ml_iadd (pc := 585) X dL_law_585 ?_
        obtain ⟨a127, b127, hw⟩ := hw
        refine ml_sld (pc := 586) (i := x3 + 2) X hn a127 b127 dL_law_586 ?_
        refine ml_i2l (pc := 587) X (hn.2.2.2.2.2.1 _) dL_law_587 ?_
        refine ml_bipush (pc := 588) X dL_law_588 (by decide) ?_
        refine ml_lshl (pc := 590) X dL_law_590 ?_
        refine ml_aload_n (pc := 591) X hl 0 rfl rfl dL_law_591 ?_
        refine ml_iload_n (pc := 592) X hl 3 rfl rfl dL_law_592 ?_
        refine ml_iconst (pc := 593) X dL_law_593 ?_
        obtain ⟨v128, hw⟩ := hw
        refine ml_iadd (pc := 594) X dL_law_594 ?_
        obtain ⟨a129, b129, hw⟩ := hw
        refine ml_sld (pc := 595) (i := x3 + 3) X hn a129 b129 dL_law_595 ?_
        refine ml_i2l (pc := 596) X (hn.2.2.2.2.2.1 _) dL_law_596 ?_
        refine ml_ldc2 (pc := 597) (v := 4294967295) X dL_law_597 tc_7_17 ?_
        refine ml_land (pc := 600) X dL_law_600 ?_
        refine ml_lor (pc := 601) X dL_law_601 ?_
        refine ml_aload_n (pc := 602) X hl 0 rfl rfl dL_law_602 ?_
        refine ml_iload_n (pc := 603) X hl 3 rfl rfl dL_law_603 ?_
        refine ml_iconst (pc := 604) X dL_law_604 ?_
        obtain ⟨v130, hw⟩ := hw
        refine ml_iadd (pc := 605) X dL_law_605 ?_
        obtain ⟨a131, b131, hw⟩ := hw
        refine ml_sld (pc := 606) (i := x3 + 4) X hn a131 b131 dL_law_606 ?_
        refine ml_i2l (pc := 607) X (hn.2.2.2.2.2.1 _) dL_law_607 ?_
        refine ml_bipush (pc := 608) X dL_law_608 (by decide) ?_
        refine ml_lshl (pc := 610) X dL_law_610 ?_
        refine ml_aload_n (pc := 611) X hl 0 rfl rfl dL_law_611 ?_
        refine ml_iload_n (pc := 612) X hl 3 rfl rfl dL_law_612 ?_
        refine ml_iconst (pc := 613) X dL_law_613 ?_
        obtain ⟨v132, hw⟩ := hw
        refine ml_iadd (pc := 614) X dL_law_614 ?_
        obtain ⟨a133, b133, hw⟩ := hw
        refine ml_sld (pc := 615) (i := x3 + 5) X hn a133 b133 dL_law_615 ?_
        refine ml_i2l (pc := 616) X (hn.2.2.2.2.2.1 _) dL_law_616 ?_
        refine ml_ldc2 (pc := 617) (v := 4294967295) X dL_law_617 tc_7_17 ?_
        refine ml_land (pc := 620) X dL_law_620 ?_
        refine ml_lor (pc := 621) X dL_law_621 ?_
        refine ml_aload_n (pc := 622) X hl 0 rfl rfl dL_law_622 ?_
        refine ml_iload_n (pc := 623) X hl 3 rfl rfl dL_law_623 ?_
        refine ml_bipush (pc := 624) X dL_law_624 (by decide) ?_
        obtain ⟨v134, hw⟩ := hw
        refine ml_iadd (pc := 626) X dL_law_626 ?_
        obtain ⟨a135, b135, hw⟩ := hw
        refine ml_sld (pc := 627) (i := x3 + 6) X hn a135 b135 dL_law_627 ?_
        refine ml_i2l (pc := 628) X (hn.2.2.2.2.2.1 _) dL_law_628 ?_
        refine ml_bipush (pc := 629) X dL_law_629 (by decide) ?_
        refine ml_lshl (pc := 631) X dL_law_631 ?_
        refine ml_aload_n (pc := 632) X hl 0 rfl rfl dL_law_632 ?_
        refine ml_iload_n (pc := 633) X hl 3 rfl rfl dL_law_633 ?_
        refine ml_bipush (pc := 634) X dL_law_634 (by decide) ?_
        obtain ⟨v136, hw⟩ := hw
        refine ml_iadd (pc := 636) X dL_law_636 ?_
        obtain ⟨a137, b137, hw⟩ := hw
        refine ml_sld (pc := 637) (i := x3 + 7) X hn a137 b137 dL_law_637 ?_
        refine ml_i2l (pc := 638) X (hn.2.2.2.2.2.1 _) dL_law_638 ?_
        refine ml_ldc2 (pc := 639) (v := 4294967295) X dL_law_639 tc_7_17 ?_
        refine ml_land (pc := 642) X dL_law_642 ?_
        refine ml_lor (pc := 643) X dL_law_643 ?_
        refine ml_calllV (pc := 644) (rest := []) X [.int (Int32.ofInt (Q (x3 + 1))), .long (Int64.ofInt (b_lor (b_lshl (Q (x3 + 2)) 32) (b_land (Q (x3 + 3)) 4294967295))), .long (Int64.ofInt (b_lor (b_lshl (Q (x3 + 4)) 32) (b_land (Q (x3 + 5)) 4294967295))), .long (Int64.ofInt (b_lor (b_lshl (Q (x3 + 6)) 32) (b_land (Q (x3 + 7)) 4294967295)))] (by decide) rfl (ml_k1 (by decide)) (c_X11_those l base D cA 256 (by decide) σ (Q (x3 + 1)) (b_lor (b_lshl (Q (x3 + 2)) 32) (b_land (Q (x3 + 3)) 4294967295)) (b_lor (b_lshl (Q (x3 + 4)) 32) (b_land (Q (x3 + 5)) 4294967295)) (b_lor (b_lshl (Q (x3 + 6)) 32) (b_land (Q (x3 + 7)) 4294967295)) (hn.2.2.2.2.2.1 _) (b_lor_r _ _) (b_lor_r _ _) (b_lor_r _ _) _ hw) cv_L_75 ⟨rfl, rfl⟩ ⟨by decide, by decide⟩ rfl rfl hl (Nat.le_of_ble_eq_true rfl) ⟨by decide, by decide⟩ dL_law_644 (fun r138 σ138 t138 hw => ?_)
        have hw := hw t138
        refine ml_pop2 (pc := 647) X dL_law_647 rfl ?_
        refine ml_aload_n (pc := 648) X hl 2 rfl rfl dL_law_648 ?_
        refine ml_aload_n (pc := 649) X hl 0 rfl rfl dL_law_649 ?_
        refine ml_iload_n (pc := 650) X hl 3 rfl rfl dL_law_650 ?_
        refine ml_iconst (pc := 651) X dL_law_651 ?_
        obtain ⟨v139, hw⟩ := hw
        refine ml_iadd (pc := 652) X dL_law_652 ?_
        obtain ⟨a140, b140, hw⟩ := hw
        refine ml_sld (pc := 653) (i := x3 + 1) X hn a140 b140 dL_law_653 ?_
        refine ml_aload_n (pc := 654) X hl 0 rfl rfl dL_law_654 ?_
        refine ml_iload_n (pc := 655) X hl 3 rfl rfl dL_law_655 ?_
        refine ml_iconst (pc := 656) X dL_law_656 ?_
        obtain ⟨v141, hw⟩ := hw
        refine ml_iadd (pc := 657) X dL_law_657 ?_
        obtain ⟨a142, b142, hw⟩ := hw
        refine ml_sld (pc := 658) (i := x3 + 2) X hn a142 b142 dL_law_658 ?_
        refine ml_i2l (pc := 659) X (hn.2.2.2.2.2.1 _) dL_law_659 ?_
        refine ml_bipush (pc := 660) X dL_law_660 (by decide) ?_
        refine ml_lshl (pc := 662) X dL_law_662 ?_
        refine ml_aload_n (pc := 663) X hl 0 rfl rfl dL_law_663 ?_
        refine ml_iload_n (pc := 664) X hl 3 rfl rfl dL_law_664 ?_
        refine ml_iconst (pc := 665) X dL_law_665 ?_
        obtain ⟨v143, hw⟩ := hw
        refine ml_iadd (pc := 666) X dL_law_666 ?_
        obtain ⟨a144, b144, hw⟩ := hw
        refine ml_sld (pc := 667) (i := x3 + 3) X hn a144 b144 dL_law_667 ?_
        refine ml_i2l (pc := 668) X (hn.2.2.2.2.2.1 _) dL_law_668 ?_
        refine ml_ldc2 (pc := 669) (v := 4294967295) X dL_law_669 tc_7_17 ?_
        refine ml_land (pc := 672) X dL_law_672 ?_
        refine ml_lor (pc := 673) X dL_law_673 ?_
        refine ml_aload_n (pc := 674) X hl 0 rfl rfl dL_law_674 ?_
        refine ml_iload_n (pc := 675) X hl 3 rfl rfl dL_law_675 ?_
        refine ml_iconst (pc := 676) X dL_law_676 ?_
        obtain ⟨v145, hw⟩ := hw
        refine ml_iadd (pc := 677) X dL_law_677 ?_
        obtain ⟨a146, b146, hw⟩ := hw
        refine ml_sld (pc := 678) (i := x3 + 4) X hn a146 b146 dL_law_678 ?_
        refine ml_i2l (pc := 679) X (hn.2.2.2.2.2.1 _) dL_law_679 ?_
        refine ml_bipush (pc := 680) X dL_law_680 (by decide) ?_
        refine ml_lshl (pc := 682) X dL_law_682 ?_
        refine ml_aload_n (pc := 683) X hl 0 rfl rfl dL_law_683 ?_
        refine ml_iload_n (pc := 684) X hl 3 rfl rfl dL_law_684 ?_
        refine ml_iconst (pc := 685) X dL_law_685 ?_
        obtain ⟨v147, hw⟩ := hw
        refine ml_iadd (pc := 686) X dL_law_686 ?_
        obtain ⟨a148, b148, hw⟩ := hw
        refine ml_sld (pc := 687) (i := x3 + 5) X hn a148 b148 dL_law_687 ?_
        refine ml_i2l (pc := 688) X (hn.2.2.2.2.2.1 _) dL_law_688 ?_
        refine ml_ldc2 (pc := 689) (v := 4294967295) X dL_law_689 tc_7_17 ?_
        refine ml_land (pc := 692) X dL_law_692 ?_
        refine ml_lor (pc := 693) X dL_law_693 ?_
        refine ml_aload_n (pc := 694) X hl 0 rfl rfl dL_law_694 ?_
        refine ml_iload_n (pc := 695) X hl 3 rfl rfl dL_law_695 ?_
        refine ml_bipush (pc := 696) X dL_law_696 (by decide) ?_
        obtain ⟨v149, hw⟩ := hw
        refine ml_iadd (pc := 698) X dL_law_698 ?_
        obtain ⟨a150, b150, hw⟩ := hw
        refine ml_sld (pc := 699) (i := x3 + 6) X hn a150 b150 dL_law_699 ?_
        refine ml_i2l (pc := 700) X (hn.2.2.2.2.2.1 _) dL_law_700 ?_
        refine ml_bipush (pc := 701) X dL_law_701 (by decide) ?_
        refine ml_lshl (pc := 703) X dL_law_703 ?_
        refine ml_aload_n (pc := 704) X hl 0 rfl rfl dL_law_704 ?_
        refine ml_iload_n (pc := 705) X hl 3 rfl rfl dL_law_705 ?_
        refine ml_bipush (pc := 706) X dL_law_706 (by decide) ?_
        obtain ⟨v151, hw⟩ := hw
        refine ml_iadd (pc := 708) X dL_law_708 ?_
        obtain ⟨a152, b152, hw⟩ := hw
        refine ml_sld (pc := 709) (i := x3 + 7) X hn a152 b152 dL_law_709 ?_
        refine ml_i2l (pc := 710) X (hn.2.2.2.2.2.1 _) dL_law_710 ?_
        refine ml_ldc2 (pc := 711) (v := 4294967295) X dL_law_711 tc_7_17 ?_
        refine ml_land (pc := 714) X dL_law_714 ?_
        refine ml_lor (pc := 715) X dL_law_715 ?_
        refine ml_calllV (pc := 716) (rest := []) X [.int (Int32.ofInt (Q (x3 + 1))), .long (Int64.ofInt (b_lor (b_lshl (Q (x3 + 2)) 32) (b_land (Q (x3 + 3)) 4294967295))), .long (Int64.ofInt (b_lor (b_lshl (Q (x3 + 4)) 32) (b_land (Q (x3 + 5)) 4294967295))), .long (Int64.ofInt (b_lor (b_lshl (Q (x3 + 6)) 32) (b_land (Q (x3 + 7)) 4294967295)))] (by decide) rfl (ml_k215 (by decide)) (c_X12_those l base D cA 256 (by decide) σ138 (Q (x3 + 1)) (b_lor (b_lshl (Q (x3 + 2)) 32) (b_land (Q (x3 + 3)) 4294967295)) (b_lor (b_lshl (Q (x3 + 4)) 32) (b_land (Q (x3 + 5)) 4294967295)) (b_lor (b_lshl (Q (x3 + 6)) 32) (b_land (Q (x3 + 7)) 4294967295)) (hn.2.2.2.2.2.1 _) (b_lor_r _ _) (b_lor_r _ _) (b_lor_r _ _) _ hw) cv_L_79 ⟨rfl, rfl⟩ ⟨by decide, by decide⟩ rfl rfl hl (Nat.le_of_ble_eq_true rfl) ⟨by decide, by decide⟩ dL_law_716 (fun r153 σ153 t153 hw => ?_)
        have hw := hw t153
        refine ml_pop2 (pc := 719) X dL_law_719 rfl ?_
        refine ml_goto (pc := 720) (tgt := 1182) X dL_law_720 (by decide) ?_
        exact u_L_law_1182 X hn ih σ153 x3 h_x3 _ (lv_sub hl [0, 1, 2, 3] rfl) hw
      · have hw := hw.2.2.2.2.2.2.2.2.2.2.2.2.2.2.1 c4
        refine ml_tIn (pc := 33) (off := 690) (tgt := 723) X c4 dL_law_33 (by decide) (by decide) (by decide +kernel) (by decide) ?_
        refine ml_aload_n (pc := 723) X hl 1 rfl rfl dL_law_723 ?_
        refine ml_aload_n (pc := 724) X hl 0 rfl rfl dL_law_724 ?_
        refine ml_iload_n (pc := 725) X hl 3 rfl rfl dL_law_725 ?_
        refine ml_iconst (pc := 726) X dL_law_726 ?_
        obtain ⟨v154, hw⟩ := hw
        refine ml_iadd (pc := 727) X dL_law_727 ?_
        obtain ⟨a155, b155, hw⟩ := hw
        refine ml_sld (pc := 728) (i := x3 + 1) X hn a155 b155 dL_law_728 ?_
        refine ml_aload_n (pc := 729) X hl 0 rfl rfl dL_law_729 ?_
        refine ml_iload_n (pc := 730) X hl 3 rfl rfl dL_law_730 ?_
        refine ml_iconst (pc := 731) X dL_law_731 ?_
        obtain ⟨v156, hw⟩ := hw
        refine ml_iadd (pc := 732) X dL_law_732 ?_
        obtain ⟨a157, b157, hw⟩ := hw
        refine ml_sld (pc := 733) (i := x3 + 2) X hn a157 b157 dL_law_733 ?_
        refine ml_i2l (pc := 734) X (hn.2.2.2.2.2.1 _) dL_law_734 ?_
        refine ml_bipush (pc := 735) X dL_law_735 (by decide) ?_
        refine ml_lshl (pc := 737) X dL_law_737 ?_
        refine ml_aload_n (pc := 738) X hl 0 rfl rfl dL_law_738 ?_
        refine ml_iload_n (pc := 739) X hl 3 rfl rfl dL_law_739 ?_
        refine ml_iconst (pc := 740) X dL_law_740 ?_
        obtain ⟨v158, hw⟩ := hw
        refine ml_iadd (pc := 741) X dL_law_741 ?_
        obtain ⟨a159, b159, hw⟩ := hw
        refine ml_sld (pc := 742) (i := x3 + 3) X hn a159 b159 dL_law_742 ?_
        refine ml_i2l (pc := 743) X (hn.2.2.2.2.2.1 _) dL_law_743 ?_
        refine ml_ldc2 (pc := 744) (v := 4294967295) X dL_law_744 tc_7_17 ?_
        refine ml_land (pc := 747) X dL_law_747 ?_
        refine ml_lor (pc := 748) X dL_law_748 ?_
        refine ml_calllV (pc := 749) (rest := []) X [.int (Int32.ofInt (Q (x3 + 1))), .long (Int64.ofInt (b_lor (b_lshl (Q (x3 + 2)) 32) (b_land (Q (x3 + 3)) 4294967295)))] (by decide) rfl (ml_k1 (by decide)) (c_X11_first l base D cA 256 (by decide) σ (Q (x3 + 1)) (b_lor (b_lshl (Q (x3 + 2)) 32) (b_land (Q (x3 + 3)) 4294967295)) (hn.2.2.2.2.2.1 _) (b_lor_r _ _) _ hw) cv_L_80 ⟨rfl, rfl⟩ ⟨by decide, by decide⟩ rfl rfl hl (Nat.le_of_ble_eq_true rfl) ⟨by decide, by decide⟩ dL_law_749 (fun r160 σ160 t160 hw => ?_)
        have hw := hw t160
        refine ml_pop2 (pc := 752) X dL_law_752 rfl ?_
        refine ml_aload_n (pc := 753) X hl 2 rfl rfl dL_law_753 ?_
        refine ml_aload_n (pc := 754) X hl 0 rfl rfl dL_law_754 ?_
        refine ml_iload_n (pc := 755) X hl 3 rfl rfl dL_law_755 ?_
        refine ml_iconst (pc := 756) X dL_law_756 ?_
        obtain ⟨v161, hw⟩ := hw
        refine ml_iadd (pc := 757) X dL_law_757 ?_
        obtain ⟨a162, b162, hw⟩ := hw
        refine ml_sld (pc := 758) (i := x3 + 1) X hn a162 b162 dL_law_758 ?_
        refine ml_aload_n (pc := 759) X hl 0 rfl rfl dL_law_759 ?_
        refine ml_iload_n (pc := 760) X hl 3 rfl rfl dL_law_760 ?_
        refine ml_iconst (pc := 761) X dL_law_761 ?_
        obtain ⟨v163, hw⟩ := hw
        refine ml_iadd (pc := 762) X dL_law_762 ?_
        obtain ⟨a164, b164, hw⟩ := hw
        refine ml_sld (pc := 763) (i := x3 + 2) X hn a164 b164 dL_law_763 ?_
        refine ml_i2l (pc := 764) X (hn.2.2.2.2.2.1 _) dL_law_764 ?_
        refine ml_bipush (pc := 765) X dL_law_765 (by decide) ?_
        refine ml_lshl (pc := 767) X dL_law_767 ?_
        refine ml_aload_n (pc := 768) X hl 0 rfl rfl dL_law_768 ?_
        refine ml_iload_n (pc := 769) X hl 3 rfl rfl dL_law_769 ?_
        refine ml_iconst (pc := 770) X dL_law_770 ?_
        obtain ⟨v165, hw⟩ := hw
        refine ml_iadd (pc := 771) X dL_law_771 ?_
        obtain ⟨a166, b166, hw⟩ := hw
        refine ml_sld (pc := 772) (i := x3 + 3) X hn a166 b166 dL_law_772 ?_
        refine ml_i2l (pc := 773) X (hn.2.2.2.2.2.1 _) dL_law_773 ?_
        refine ml_ldc2 (pc := 774) (v := 4294967295) X dL_law_774 tc_7_17 ?_
        refine ml_land (pc := 777) X dL_law_777 ?_
        refine ml_lor (pc := 778) X dL_law_778 ?_
        refine ml_calllV (pc := 779) (rest := []) X [.int (Int32.ofInt (Q (x3 + 1))), .long (Int64.ofInt (b_lor (b_lshl (Q (x3 + 2)) 32) (b_land (Q (x3 + 3)) 4294967295)))] (by decide) rfl (ml_k215 (by decide)) (c_X12_first l base D cA 256 (by decide) σ160 (Q (x3 + 1)) (b_lor (b_lshl (Q (x3 + 2)) 32) (b_land (Q (x3 + 3)) 4294967295)) (hn.2.2.2.2.2.1 _) (b_lor_r _ _) _ hw) cv_L_83 ⟨rfl, rfl⟩ ⟨by decide, by decide⟩ rfl rfl hl (Nat.le_of_ble_eq_true rfl) ⟨by decide, by decide⟩ dL_law_779 (fun r167 σ167 t167 hw => ?_)
        have hw := hw t167
        refine ml_pop2 (pc := 782) X dL_law_782 rfl ?_
        refine ml_goto (pc := 783) (tgt := 1182) X dL_law_783 (by decide) ?_
        exact u_L_law_1182 X hn ih σ167 x3 h_x3 _ (lv_sub hl [0, 1, 2, 3] rfl) hw
      · have hw := hw.2.2.2.2.2.2.2.2.2.2.2.2.2.2.2.1 c4
        refine ml_tIn (pc := 33) (off := 753) (tgt := 786) X c4 dL_law_33 (by decide) (by decide) (by decide +kernel) (by decide) ?_
        refine ml_aload_n (pc := 786) X hl 1 rfl rfl dL_law_786 ?_
        refine ml_aload_n (pc := 787) X hl 0 rfl rfl dL_law_787 ?_
        refine ml_iload_n (pc := 788) X hl 3 rfl rfl dL_law_788 ?_
        refine ml_iconst (pc := 789) X dL_law_789 ?_
        obtain ⟨v168, hw⟩ := hw
        refine ml_iadd (pc := 790) X dL_law_790 ?_
        obtain ⟨a169, b169, hw⟩ := hw
        refine ml_sld (pc := 791) (i := x3 + 1) X hn a169 b169 dL_law_791 ?_
        refine ml_aload_n (pc := 792) X hl 0 rfl rfl dL_law_792 ?_
        refine ml_iload_n (pc := 793) X hl 3 rfl rfl dL_law_793 ?_
        refine ml_iconst (pc := 794) X dL_law_794 ?_
        obtain ⟨v170, hw⟩ := hw
        refine ml_iadd (pc := 795) X dL_law_795 ?_
        obtain ⟨a171, b171, hw⟩ := hw
        refine ml_sld (pc := 796) (i := x3 + 2) X hn a171 b171 dL_law_796 ?_
        refine ml_aload_n (pc := 797) X hl 0 rfl rfl dL_law_797 ?_
        refine ml_iload_n (pc := 798) X hl 3 rfl rfl dL_law_798 ?_
        refine ml_iconst (pc := 799) X dL_law_799 ?_
        obtain ⟨v172, hw⟩ := hw
        refine ml_iadd (pc := 800) X dL_law_800 ?_
        obtain ⟨a173, b173, hw⟩ := hw
        refine ml_sld (pc := 801) (i := x3 + 3) X hn a173 b173 dL_law_801 ?_
        refine ml_calliV (pc := 802) (rest := []) X [.int (Int32.ofInt (Q (x3 + 1))), .int (Int32.ofInt (Q (x3 + 2))), .int (Int32.ofInt (Q (x3 + 3)))] (by decide) rfl (ml_k1 (by decide)) (c_X11_both l base D cA 256 (by decide) σ (Q (x3 + 1)) (Q (x3 + 2)) (Q (x3 + 3)) (hn.2.2.2.2.2.1 _) (hn.2.2.2.2.2.1 _) (hn.2.2.2.2.2.1 _) _ hw) cv_L_84 ⟨rfl, rfl⟩ ⟨by decide, by decide⟩ rfl rfl hl (Nat.le_of_ble_eq_true rfl) ⟨by decide, by decide⟩ dL_law_802 (fun r174 σ174 t174 hw => ?_)
        have hw := hw t174
        refine ml_pop (pc := 805) X dL_law_805 rfl ?_
        refine ml_aload_n (pc := 806) X hl 2 rfl rfl dL_law_806 ?_
        refine ml_aload_n (pc := 807) X hl 0 rfl rfl dL_law_807 ?_
        refine ml_iload_n (pc := 808) X hl 3 rfl rfl dL_law_808 ?_
        refine ml_iconst (pc := 809) X dL_law_809 ?_
        obtain ⟨v175, hw⟩ := hw
        refine ml_iadd (pc := 810) X dL_law_810 ?_
        obtain ⟨a176, b176, hw⟩ := hw
        refine ml_sld (pc := 811) (i := x3 + 1) X hn a176 b176 dL_law_811 ?_
        refine ml_aload_n (pc := 812) X hl 0 rfl rfl dL_law_812 ?_
        refine ml_iload_n (pc := 813) X hl 3 rfl rfl dL_law_813 ?_
        refine ml_iconst (pc := 814) X dL_law_814 ?_
        obtain ⟨v177, hw⟩ := hw
        refine ml_iadd (pc := 815) X dL_law_815 ?_
        obtain ⟨a178, b178, hw⟩ := hw
        refine ml_sld (pc := 816) (i := x3 + 2) X hn a178 b178 dL_law_816 ?_
        refine ml_aload_n (pc := 817) X hl 0 rfl rfl dL_law_817 ?_
        refine ml_iload_n (pc := 818) X hl 3 rfl rfl dL_law_818 ?_
        refine ml_iconst (pc := 819) X dL_law_819 ?_
        obtain ⟨v179, hw⟩ := hw
        refine ml_iadd (pc := 820) X dL_law_820 ?_
        obtain ⟨a180, b180, hw⟩ := hw
        refine ml_sld (pc := 821) (i := x3 + 3) X hn a180 b180 dL_law_821 ?_
        refine ml_calliV (pc := 822) (rest := []) X [.int (Int32.ofInt (Q (x3 + 1))), .int (Int32.ofInt (Q (x3 + 2))), .int (Int32.ofInt (Q (x3 + 3)))] (by decide) rfl (ml_k215 (by decide)) (c_X12_both l base D cA 256 (by decide) σ174 (Q (x3 + 1)) (Q (x3 + 2)) (Q (x3 + 3)) (hn.2.2.2.2.2.1 _) (hn.2.2.2.2.2.1 _) (hn.2.2.2.2.2.1 _) _ hw) cv_L_88 ⟨rfl, rfl⟩ ⟨by decide, by decide⟩ rfl rfl hl (Nat.le_of_ble_eq_true rfl) ⟨by decide, by decide⟩ dL_law_822 (fun r181 σ181 t181 hw => ?_)
        have hw := hw t181
        refine ml_pop (pc := 825) X dL_law_825 rfl ?_
        refine ml_goto (pc := 826) (tgt := 1182) X dL_law_826 (by decide) ?_
        exact u_L_law_1182 X hn ih σ181 x3 h_x3 _ (lv_sub hl [0, 1, 2, 3] rfl) hw
      · have hw := hw.2.2.2.2.2.2.2.2.2.2.2.2.2.2.2.2.1 c4
        refine ml_tIn (pc := 33) (off := 796) (tgt := 829) X c4 dL_law_33 (by decide) (by decide) (by decide +kernel) (by decide) ?_
        refine ml_aload_n (pc := 829) X hl 1 rfl rfl dL_law_829 ?_
        refine ml_aload_n (pc := 830) X hl 0 rfl rfl dL_law_830 ?_
        refine ml_iload_n (pc := 831) X hl 3 rfl rfl dL_law_831 ?_
        refine ml_iconst (pc := 832) X dL_law_832 ?_
        obtain ⟨v182, hw⟩ := hw
        refine ml_iadd (pc := 833) X dL_law_833 ?_
        obtain ⟨a183, b183, hw⟩ := hw
        refine ml_sld (pc := 834) (i := x3 + 1) X hn a183 b183 dL_law_834 ?_
        refine ml_aload_n (pc := 835) X hl 0 rfl rfl dL_law_835 ?_
        refine ml_iload_n (pc := 836) X hl 3 rfl rfl dL_law_836 ?_
        refine ml_iconst (pc := 837) X dL_law_837 ?_
        obtain ⟨v184, hw⟩ := hw
        refine ml_iadd (pc := 838) X dL_law_838 ?_
        obtain ⟨a185, b185, hw⟩ := hw
        refine ml_sld (pc := 839) (i := x3 + 2) X hn a185 b185 dL_law_839 ?_
        refine ml_calliV (pc := 840) (rest := []) X [.int (Int32.ofInt (Q (x3 + 1))), .int (Int32.ofInt (Q (x3 + 2)))] (by decide) rfl (ml_k1 (by decide)) (c_X11_is l base D cA 256 (by decide) σ (Q (x3 + 1)) (Q (x3 + 2)) (hn.2.2.2.2.2.1 _) (hn.2.2.2.2.2.1 _) _ hw) cv_L_89 ⟨rfl, rfl⟩ ⟨by decide, by decide⟩ rfl rfl hl (Nat.le_of_ble_eq_true rfl) ⟨by decide, by decide⟩ dL_law_840 (fun r186 σ186 t186 hw => ?_)
        have hw := hw t186
        refine ml_pop (pc := 843) X dL_law_843 rfl ?_
        refine ml_aload_n (pc := 844) X hl 2 rfl rfl dL_law_844 ?_
        refine ml_aload_n (pc := 845) X hl 0 rfl rfl dL_law_845 ?_
        refine ml_iload_n (pc := 846) X hl 3 rfl rfl dL_law_846 ?_
        refine ml_iconst (pc := 847) X dL_law_847 ?_
        obtain ⟨v187, hw⟩ := hw
        refine ml_iadd (pc := 848) X dL_law_848 ?_
        obtain ⟨a188, b188, hw⟩ := hw
        refine ml_sld (pc := 849) (i := x3 + 1) X hn a188 b188 dL_law_849 ?_
        refine ml_aload_n (pc := 850) X hl 0 rfl rfl dL_law_850 ?_
        refine ml_iload_n (pc := 851) X hl 3 rfl rfl dL_law_851 ?_
        refine ml_iconst (pc := 852) X dL_law_852 ?_
        obtain ⟨v189, hw⟩ := hw
        refine ml_iadd (pc := 853) X dL_law_853 ?_
        obtain ⟨a190, b190, hw⟩ := hw
        refine ml_sld (pc := 854) (i := x3 + 2) X hn a190 b190 dL_law_854 ?_
        refine ml_calliV (pc := 855) (rest := []) X [.int (Int32.ofInt (Q (x3 + 1))), .int (Int32.ofInt (Q (x3 + 2)))] (by decide) rfl (ml_k215 (by decide)) (c_X12_is l base D cA 256 (by decide) σ186 (Q (x3 + 1)) (Q (x3 + 2)) (hn.2.2.2.2.2.1 _) (hn.2.2.2.2.2.1 _) _ hw) cv_L_92 ⟨rfl, rfl⟩ ⟨by decide, by decide⟩ rfl rfl hl (Nat.le_of_ble_eq_true rfl) ⟨by decide, by decide⟩ dL_law_855 (fun r191 σ191 t191 hw => ?_)
        have hw := hw t191
        refine ml_pop (pc := 858) X dL_law_858 rfl ?_
        refine ml_goto (pc := 859) (tgt := 1182) X dL_law_859 (by decide) ?_
        exact u_L_law_1182 X hn ih σ191 x3 h_x3 _ (lv_sub hl [0, 1, 2, 3] rfl) hw
      · have hw := hw.2.2.2.2.2.2.2.2.2.2.2.2.2.2.2.2.2.1 c4
        refine ml_tIn (pc := 33) (off := 829) (tgt := 862) X c4 dL_law_33 (by decide) (by decide) (by decide +kernel) (by decide) ?_
        refine ml_aload_n (pc := 862) X hl 1 rfl rfl dL_law_862 ?_
        refine ml_aload_n (pc := 863) X hl 0 rfl rfl dL_law_863 ?_
        refine ml_iload_n (pc := 864) X hl 3 rfl rfl dL_law_864 ?_
        refine ml_iconst (pc := 865) X dL_law_865 ?_
        obtain ⟨v192, hw⟩ := hw
        refine ml_iadd (pc := 866) X dL_law_866 ?_
        obtain ⟨a193, b193, hw⟩ := hw
        refine ml_sld (pc := 867) (i := x3 + 1) X hn a193 b193 dL_law_867 ?_
        refine ml_aload_n (pc := 868) X hl 0 rfl rfl dL_law_868 ?_
        refine ml_iload_n (pc := 869) X hl 3 rfl rfl dL_law_869 ?_
        refine ml_iconst (pc := 870) X dL_law_870 ?_
        obtain ⟨v194, hw⟩ := hw
        refine ml_iadd (pc := 871) X dL_law_871 ?_
        obtain ⟨a195, b195, hw⟩ := hw
        refine ml_sld (pc := 872) (i := x3 + 2) X hn a195 b195 dL_law_872 ?_
        refine ml_aload_n (pc := 873) X hl 0 rfl rfl dL_law_873 ?_
        refine ml_iload_n (pc := 874) X hl 3 rfl rfl dL_law_874 ?_
        refine ml_iconst (pc := 875) X dL_law_875 ?_
        obtain ⟨v196, hw⟩ := hw
        refine ml_iadd (pc := 876) X dL_law_876 ?_
        obtain ⟨a197, b197, hw⟩ := hw
        refine ml_sld (pc := 877) (i := x3 + 3) X hn a197 b197 dL_law_877 ?_
        refine ml_calliV (pc := 878) (rest := []) X [.int (Int32.ofInt (Q (x3 + 1))), .int (Int32.ofInt (Q (x3 + 2))), .int (Int32.ofInt (Q (x3 + 3)))] (by decide) rfl (ml_k1 (by decide)) (c_X11_many l base D cA 256 (by decide) σ (Q (x3 + 1)) (Q (x3 + 2)) (Q (x3 + 3)) (hn.2.2.2.2.2.1 _) (hn.2.2.2.2.2.1 _) (hn.2.2.2.2.2.1 _) _ hw) cv_L_93 ⟨rfl, rfl⟩ ⟨by decide, by decide⟩ rfl rfl hl (Nat.le_of_ble_eq_true rfl) ⟨by decide, by decide⟩ dL_law_878 (fun r198 σ198 t198 hw => ?_)
        have hw := hw t198
        refine ml_pop (pc := 881) X dL_law_881 rfl ?_
        refine ml_aload_n (pc := 882) X hl 2 rfl rfl dL_law_882 ?_
        refine ml_aload_n (pc := 883) X hl 0 rfl rfl dL_law_883 ?_
        refine ml_iload_n (pc := 884) X hl 3 rfl rfl dL_law_884 ?_
        refine ml_iconst (pc := 885) X dL_law_885 ?_
        obtain ⟨v199, hw⟩ := hw
        refine ml_iadd (pc := 886) X dL_law_886 ?_
        obtain ⟨a200, b200, hw⟩ := hw
        refine ml_sld (pc := 887) (i := x3 + 1) X hn a200 b200 dL_law_887 ?_
        refine ml_aload_n (pc := 888) X hl 0 rfl rfl dL_law_888 ?_
        refine ml_iload_n (pc := 889) X hl 3 rfl rfl dL_law_889 ?_
        refine ml_iconst (pc := 890) X dL_law_890 ?_
        obtain ⟨v201, hw⟩ := hw
        refine ml_iadd (pc := 891) X dL_law_891 ?_
        obtain ⟨a202, b202, hw⟩ := hw
        refine ml_sld (pc := 892) (i := x3 + 2) X hn a202 b202 dL_law_892 ?_
        refine ml_aload_n (pc := 893) X hl 0 rfl rfl dL_law_893 ?_
        refine ml_iload_n (pc := 894) X hl 3 rfl rfl dL_law_894 ?_
        refine ml_iconst (pc := 895) X dL_law_895 ?_
        obtain ⟨v203, hw⟩ := hw
        refine ml_iadd (pc := 896) X dL_law_896 ?_
        obtain ⟨a204, b204, hw⟩ := hw
        refine ml_sld (pc := 897) (i := x3 + 3) X hn a204 b204 dL_law_897 ?_
        refine ml_calliV (pc := 898) (rest := []) X [.int (Int32.ofInt (Q (x3 + 1))), .int (Int32.ofInt (Q (x3 + 2))), .int (Int32.ofInt (Q (x3 + 3)))] (by decide) rfl (ml_k215 (by decide)) (c_X12_many l base D cA 256 (by decide) σ198 (Q (x3 + 1)) (Q (x3 + 2)) (Q (x3 + 3)) (hn.2.2.2.2.2.1 _) (hn.2.2.2.2.2.1 _) (hn.2.2.2.2.2.1 _) _ hw) cv_L_96 ⟨rfl, rfl⟩ ⟨by decide, by decide⟩ rfl rfl hl (Nat.le_of_ble_eq_true rfl) ⟨by decide, by decide⟩ dL_law_898 (fun r205 σ205 t205 hw => ?_)
        have hw := hw t205
        refine ml_pop (pc := 901) X dL_law_901 rfl ?_
        refine ml_goto (pc := 902) (tgt := 1182) X dL_law_902 (by decide) ?_
        exact u_L_law_1182 X hn ih σ205 x3 h_x3 _ (lv_sub hl [0, 1, 2, 3] rfl) hw
      · have hw := hw.2.2.2.2.2.2.2.2.2.2.2.2.2.2.2.2.2.2.1 c4
        refine ml_tIn (pc := 33) (off := 872) (tgt := 905) X c4 dL_law_33 (by decide) (by decide) (by decide +kernel) (by decide) ?_
        refine ml_aload_n (pc := 905) X hl 1 rfl rfl dL_law_905 ?_
        refine ml_aload_n (pc := 906) X hl 0 rfl rfl dL_law_906 ?_
        refine ml_iload_n (pc := 907) X hl 3 rfl rfl dL_law_907 ?_
        refine ml_iconst (pc := 908) X dL_law_908 ?_
        obtain ⟨v206, hw⟩ := hw
        refine ml_iadd (pc := 909) X dL_law_909 ?_
        obtain ⟨a207, b207, hw⟩ := hw
        refine ml_sld (pc := 910) (i := x3 + 1) X hn a207 b207 dL_law_910 ?_
        refine ml_calliV (pc := 911) (rest := []) X [.int (Int32.ofInt (Q (x3 + 1)))] (by decide) rfl (ml_k1 (by decide)) (c_X11_made l base D cA 256 (by decide) σ (Q (x3 + 1)) (hn.2.2.2.2.2.1 _) _ hw) cv_L_97 ⟨rfl, rfl⟩ ⟨by decide, by decide⟩ rfl rfl hl (Nat.le_of_ble_eq_true rfl) ⟨by decide, by decide⟩ dL_law_911 (fun r208 σ208 t208 hw => ?_)
        have hw := hw t208
        refine ml_pop (pc := 914) X dL_law_914 rfl ?_
        refine ml_aload_n (pc := 915) X hl 2 rfl rfl dL_law_915 ?_
        refine ml_aload_n (pc := 916) X hl 0 rfl rfl dL_law_916 ?_
        refine ml_iload_n (pc := 917) X hl 3 rfl rfl dL_law_917 ?_
        refine ml_iconst (pc := 918) X dL_law_918 ?_
        obtain ⟨v209, hw⟩ := hw
        refine ml_iadd (pc := 919) X dL_law_919 ?_
        obtain ⟨a210, b210, hw⟩ := hw
        refine ml_sld (pc := 920) (i := x3 + 1) X hn a210 b210 dL_law_920 ?_
        refine ml_calliV (pc := 921) (rest := []) X [.int (Int32.ofInt (Q (x3 + 1)))] (by decide) rfl (ml_k215 (by decide)) (c_X12_made l base D cA 256 (by decide) σ208 (Q (x3 + 1)) (hn.2.2.2.2.2.1 _) _ hw) cv_L_100 ⟨rfl, rfl⟩ ⟨by decide, by decide⟩ rfl rfl hl (Nat.le_of_ble_eq_true rfl) ⟨by decide, by decide⟩ dL_law_921 (fun r211 σ211 t211 hw => ?_)
        have hw := hw t211
        refine ml_pop (pc := 924) X dL_law_924 rfl ?_
        refine ml_goto (pc := 925) (tgt := 1182) X dL_law_925 (by decide) ?_
        exact u_L_law_1182 X hn ih σ211 x3 h_x3 _ (lv_sub hl [0, 1, 2, 3] rfl) hw
      · have hw := hw.2.2.2.2.2.2.2.2.2.2.2.2.2.2.2.2.2.2.2.1 c4
        refine ml_tIn (pc := 33) (off := 895) (tgt := 928) X c4 dL_law_33 (by decide) (by decide) (by decide +kernel) (by decide) ?_
        refine ml_aload_n (pc := 928) X hl 1 rfl rfl dL_law_928 ?_
        refine ml_aload_n (pc := 929) X hl 0 rfl rfl dL_law_929 ?_
        refine ml_iload_n (pc := 930) X hl 3 rfl rfl dL_law_930 ?_
        refine ml_iconst (pc := 931) X dL_law_931 ?_
        obtain ⟨v212, hw⟩ := hw
        refine ml_iadd (pc := 932) X dL_law_932 ?_
        obtain ⟨a213, b213, hw⟩ := hw
        refine ml_sld (pc := 933) (i := x3 + 1) X hn a213 b213 dL_law_933 ?_
        refine ml_aload_n (pc := 934) X hl 0 rfl rfl dL_law_934 ?_
        refine ml_iload_n (pc := 935) X hl 3 rfl rfl dL_law_935 ?_
        refine ml_iconst (pc := 936) X dL_law_936 ?_
        obtain ⟨v214, hw⟩ := hw
        refine ml_iadd (pc := 937) X dL_law_937 ?_
        obtain ⟨a215, b215, hw⟩ := hw
        refine ml_sld (pc := 938) (i := x3 + 2) X hn a215 b215 dL_law_938 ?_
        refine ml_aload_n (pc := 939) X hl 0 rfl rfl dL_law_939 ?_
        refine ml_iload_n (pc := 940) X hl 3 rfl rfl dL_law_940 ?_
        refine ml_iconst (pc := 941) X dL_law_941 ?_
        obtain ⟨v216, hw⟩ := hw
        refine ml_iadd (pc := 942) X dL_law_942 ?_
        obtain ⟨a217, b217, hw⟩ := hw
        refine ml_sld (pc := 943) (i := x3 + 3) X hn a217 b217 dL_law_943 ?_
        refine ml_calliV (pc := 944) (rest := []) X [.int (Int32.ofInt (Q (x3 + 1))), .int (Int32.ofInt (Q (x3 + 2))), .int (Int32.ofInt (Q (x3 + 3)))] (by decide) rfl (ml_k1 (by decide)) (c_X11_shortest l base D cA 256 (by decide) σ (Q (x3 + 1)) (Q (x3 + 2)) (Q (x3 + 3)) (hn.2.2.2.2.2.1 _) (hn.2.2.2.2.2.1 _) (hn.2.2.2.2.2.1 _) _ hw) cv_L_101 ⟨rfl, rfl⟩ ⟨by decide, by decide⟩ rfl rfl hl (Nat.le_of_ble_eq_true rfl) ⟨by decide, by decide⟩ dL_law_944 (fun r218 σ218 t218 hw => ?_)
        have hw := hw t218
        refine ml_pop (pc := 947) X dL_law_947 rfl ?_
        refine ml_aload_n (pc := 948) X hl 2 rfl rfl dL_law_948 ?_
        refine ml_aload_n (pc := 949) X hl 0 rfl rfl dL_law_949 ?_
        refine ml_iload_n (pc := 950) X hl 3 rfl rfl dL_law_950 ?_
        refine ml_iconst (pc := 951) X dL_law_951 ?_
        obtain ⟨v219, hw⟩ := hw
        refine ml_iadd (pc := 952) X dL_law_952 ?_
        obtain ⟨a220, b220, hw⟩ := hw
        refine ml_sld (pc := 953) (i := x3 + 1) X hn a220 b220 dL_law_953 ?_
        refine ml_aload_n (pc := 954) X hl 0 rfl rfl dL_law_954 ?_
        refine ml_iload_n (pc := 955) X hl 3 rfl rfl dL_law_955 ?_
        refine ml_iconst (pc := 956) X dL_law_956 ?_
        obtain ⟨v221, hw⟩ := hw
        refine ml_iadd (pc := 957) X dL_law_957 ?_
        obtain ⟨a222, b222, hw⟩ := hw
        refine ml_sld (pc := 958) (i := x3 + 2) X hn a222 b222 dL_law_958 ?_
        refine ml_aload_n (pc := 959) X hl 0 rfl rfl dL_law_959 ?_
        refine ml_iload_n (pc := 960) X hl 3 rfl rfl dL_law_960 ?_
        refine ml_iconst (pc := 961) X dL_law_961 ?_
        obtain ⟨v223, hw⟩ := hw
        refine ml_iadd (pc := 962) X dL_law_962 ?_
        obtain ⟨a224, b224, hw⟩ := hw
        refine ml_sld (pc := 963) (i := x3 + 3) X hn a224 b224 dL_law_963 ?_
        refine ml_calliV (pc := 964) (rest := []) X [.int (Int32.ofInt (Q (x3 + 1))), .int (Int32.ofInt (Q (x3 + 2))), .int (Int32.ofInt (Q (x3 + 3)))] (by decide) rfl (ml_k215 (by decide)) (c_X12_shortest l base D cA 256 (by decide) σ218 (Q (x3 + 1)) (Q (x3 + 2)) (Q (x3 + 3)) (hn.2.2.2.2.2.1 _) (hn.2.2.2.2.2.1 _) (hn.2.2.2.2.2.1 _) _ hw) cv_L_104 ⟨rfl, rfl⟩ ⟨by decide, by decide⟩ rfl rfl hl (Nat.le_of_ble_eq_true rfl) ⟨by decide, by decide⟩ dL_law_964 (fun r225 σ225 t225 hw => ?_)
        have hw := hw t225
        refine ml_pop (pc := 967) X dL_law_967 rfl ?_
        refine ml_goto (pc := 968) (tgt := 1182) X dL_law_968 (by decide) ?_
        exact u_L_law_1182 X hn ih σ225 x3 h_x3 _ (lv_sub hl [0, 1, 2, 3] rfl) hw
      · have hw := hw.2.2.2.2.2.2.2.2.2.2.2.2.2.2.2.2.2.2.2.2.1 c4
        refine ml_tIn (pc := 33) (off := 938) (tgt := 971) X c4 dL_law_33 (by decide) (by decide) (by decide +kernel) (by decide) ?_
        refine ml_aload_n (pc := 971) X hl 1 rfl rfl dL_law_971 ?_
        refine ml_aload_n (pc := 972) X hl 0 rfl rfl dL_law_972 ?_
        refine ml_iload_n (pc := 973) X hl 3 rfl rfl dL_law_973 ?_
        refine ml_iconst (pc := 974) X dL_law_974 ?_
        obtain ⟨v226, hw⟩ := hw
        refine ml_iadd (pc := 975) X dL_law_975 ?_
        obtain ⟨a227, b227, hw⟩ := hw
        refine ml_sld (pc := 976) (i := x3 + 1) X hn a227 b227 dL_law_976 ?_
        refine ml_aload_n (pc := 977) X hl 0 rfl rfl dL_law_977 ?_
        refine ml_iload_n (pc := 978) X hl 3 rfl rfl dL_law_978 ?_
        refine ml_iconst (pc := 979) X dL_law_979 ?_
        obtain ⟨v228, hw⟩ := hw
        refine ml_iadd (pc := 980) X dL_law_980 ?_
        obtain ⟨a229, b229, hw⟩ := hw
        refine ml_sld (pc := 981) (i := x3 + 2) X hn a229 b229 dL_law_981 ?_
        refine ml_callzV (pc := 982) (rest := []) X [.int (Int32.ofInt (Q (x3 + 1))), .int (Int32.ofInt (Q (x3 + 2)))] (by decide) rfl (ml_k1 (by decide)) (c_X11_cost l base D cA 256 (by decide) σ (Q (x3 + 1)) (Q (x3 + 2)) (hn.2.2.2.2.2.1 _) (hn.2.2.2.2.2.1 _) _ hw) cv_L_105 ⟨rfl, rfl⟩ ⟨by decide, by decide⟩ rfl rfl hl (Nat.le_of_ble_eq_true rfl) ⟨by decide, by decide⟩ dL_law_982 (fun r230 σ230 t230 hw => ?_)
        have hw := hw t230
        refine ml_pop (pc := 985) X dL_law_985 rfl ?_
        refine ml_aload_n (pc := 986) X hl 2 rfl rfl dL_law_986 ?_
        refine ml_aload_n (pc := 987) X hl 0 rfl rfl dL_law_987 ?_
        refine ml_iload_n (pc := 988) X hl 3 rfl rfl dL_law_988 ?_
        refine ml_iconst (pc := 989) X dL_law_989 ?_
        obtain ⟨v231, hw⟩ := hw
        refine ml_iadd (pc := 990) X dL_law_990 ?_
        obtain ⟨a232, b232, hw⟩ := hw
        refine ml_sld (pc := 991) (i := x3 + 1) X hn a232 b232 dL_law_991 ?_
        refine ml_aload_n (pc := 992) X hl 0 rfl rfl dL_law_992 ?_
        refine ml_iload_n (pc := 993) X hl 3 rfl rfl dL_law_993 ?_
        refine ml_iconst (pc := 994) X dL_law_994 ?_
        obtain ⟨v233, hw⟩ := hw
        refine ml_iadd (pc := 995) X dL_law_995 ?_
        obtain ⟨a234, b234, hw⟩ := hw
        refine ml_sld (pc := 996) (i := x3 + 2) X hn a234 b234 dL_law_996 ?_
        refine ml_callzV (pc := 997) (rest := []) X [.int (Int32.ofInt (Q (x3 + 1))), .int (Int32.ofInt (Q (x3 + 2)))] (by decide) rfl (ml_k215 (by decide)) (c_X12_cost l base D cA 256 (by decide) σ230 (Q (x3 + 1)) (Q (x3 + 2)) (hn.2.2.2.2.2.1 _) (hn.2.2.2.2.2.1 _) _ hw) cv_L_109 ⟨rfl, rfl⟩ ⟨by decide, by decide⟩ rfl rfl hl (Nat.le_of_ble_eq_true rfl) ⟨by decide, by decide⟩ dL_law_997 (fun r235 σ235 t235 hw => ?_)
        have hw := hw t235
        refine ml_pop (pc := 1000) X dL_law_1000 rfl ?_
        refine ml_goto (pc := 1001) (tgt := 1182) X dL_law_1001 (by decide) ?_
        exact u_L_law_1182 X hn ih σ235 x3 h_x3 _ (lv_sub hl [0, 1, 2, 3] rfl) hw
      · have hw := hw.2.2.2.2.2.2.2.2.2.2.2.2.2.2.2.2.2.2.2.2.2.1 c4
        refine ml_tIn (pc := 33) (off := 971) (tgt := 1004) X c4 dL_law_33 (by decide) (by decide) (by decide +kernel) (by decide) ?_
        refine ml_aload_n (pc := 1004) X hl 1 rfl rfl dL_law_1004 ?_
        refine ml_aload_n (pc := 1005) X hl 0 rfl rfl dL_law_1005 ?_
        refine ml_iload_n (pc := 1006) X hl 3 rfl rfl dL_law_1006 ?_
        refine ml_iconst (pc := 1007) X dL_law_1007 ?_
        obtain ⟨v236, hw⟩ := hw
        refine ml_iadd (pc := 1008) X dL_law_1008 ?_
        obtain ⟨a237, b237, hw⟩ := hw
        refine ml_sld (pc := 1009) (i := x3 + 1) X hn a237 b237 dL_law_1009 ?_
        refine ml_aload_n (pc := 1010) X hl 0 rfl rfl dL_law_1010 ?_
        refine ml_iload_n (pc := 1011) X hl 3 rfl rfl dL_law_1011 ?_
        refine ml_iconst (pc := 1012) X dL_law_1012 ?_
        obtain ⟨v238, hw⟩ := hw
        refine ml_iadd (pc := 1013) X dL_law_1013 ?_
        obtain ⟨a239, b239, hw⟩ := hw
        refine ml_sld (pc := 1014) (i := x3 + 2) X hn a239 b239 dL_law_1014 ?_
        refine ml_aload_n (pc := 1015) X hl 0 rfl rfl dL_law_1015 ?_
        refine ml_iload_n (pc := 1016) X hl 3 rfl rfl dL_law_1016 ?_
        refine ml_iconst (pc := 1017) X dL_law_1017 ?_
        obtain ⟨v240, hw⟩ := hw
        refine ml_iadd (pc := 1018) X dL_law_1018 ?_
        obtain ⟨a241, b241, hw⟩ := hw
        refine ml_sld (pc := 1019) (i := x3 + 3) X hn a241 b241 dL_law_1019 ?_
        refine ml_calliV (pc := 1020) (rest := []) X [.int (Int32.ofInt (Q (x3 + 1))), .int (Int32.ofInt (Q (x3 + 2))), .int (Int32.ofInt (Q (x3 + 3)))] (by decide) rfl (ml_k1 (by decide)) (c_X11_cheapest l base D cA 256 (by decide) σ (Q (x3 + 1)) (Q (x3 + 2)) (Q (x3 + 3)) (hn.2.2.2.2.2.1 _) (hn.2.2.2.2.2.1 _) (hn.2.2.2.2.2.1 _) _ hw) cv_L_110 ⟨rfl, rfl⟩ ⟨by decide, by decide⟩ rfl rfl hl (Nat.le_of_ble_eq_true rfl) ⟨by decide, by decide⟩ dL_law_1020 (fun r242 σ242 t242 hw => ?_)
        have hw := hw t242
        refine ml_pop (pc := 1023) X dL_law_1023 rfl ?_
        refine ml_aload_n (pc := 1024) X hl 2 rfl rfl dL_law_1024 ?_
        refine ml_aload_n (pc := 1025) X hl 0 rfl rfl dL_law_1025 ?_
        refine ml_iload_n (pc := 1026) X hl 3 rfl rfl dL_law_1026 ?_
        refine ml_iconst (pc := 1027) X dL_law_1027 ?_
        obtain ⟨v243, hw⟩ := hw
        refine ml_iadd (pc := 1028) X dL_law_1028 ?_
        obtain ⟨a244, b244, hw⟩ := hw
        refine ml_sld (pc := 1029) (i := x3 + 1) X hn a244 b244 dL_law_1029 ?_
        refine ml_aload_n (pc := 1030) X hl 0 rfl rfl dL_law_1030 ?_
        refine ml_iload_n (pc := 1031) X hl 3 rfl rfl dL_law_1031 ?_
        refine ml_iconst (pc := 1032) X dL_law_1032 ?_
        obtain ⟨v245, hw⟩ := hw
        refine ml_iadd (pc := 1033) X dL_law_1033 ?_
        obtain ⟨a246, b246, hw⟩ := hw
        refine ml_sld (pc := 1034) (i := x3 + 2) X hn a246 b246 dL_law_1034 ?_
        refine ml_aload_n (pc := 1035) X hl 0 rfl rfl dL_law_1035 ?_
        refine ml_iload_n (pc := 1036) X hl 3 rfl rfl dL_law_1036 ?_
        refine ml_iconst (pc := 1037) X dL_law_1037 ?_
        obtain ⟨v247, hw⟩ := hw
        refine ml_iadd (pc := 1038) X dL_law_1038 ?_
        obtain ⟨a248, b248, hw⟩ := hw
        refine ml_sld (pc := 1039) (i := x3 + 3) X hn a248 b248 dL_law_1039 ?_
        refine ml_calliV (pc := 1040) (rest := []) X [.int (Int32.ofInt (Q (x3 + 1))), .int (Int32.ofInt (Q (x3 + 2))), .int (Int32.ofInt (Q (x3 + 3)))] (by decide) rfl (ml_k215 (by decide)) (c_X12_cheapest l base D cA 256 (by decide) σ242 (Q (x3 + 1)) (Q (x3 + 2)) (Q (x3 + 3)) (hn.2.2.2.2.2.1 _) (hn.2.2.2.2.2.1 _) (hn.2.2.2.2.2.1 _) _ hw) cv_L_113 ⟨rfl, rfl⟩ ⟨by decide, by decide⟩ rfl rfl hl (Nat.le_of_ble_eq_true rfl) ⟨by decide, by decide⟩ dL_law_1040 (fun r249 σ249 t249 hw => ?_)
        have hw := hw t249
        refine ml_pop (pc := 1043) X dL_law_1043 rfl ?_
        refine ml_goto (pc := 1044) (tgt := 1182) X dL_law_1044 (by decide) ?_
        exact u_L_law_1182 X hn ih σ249 x3 h_x3 _ (lv_sub hl [0, 1, 2, 3] rfl) hw
      · have hw := hw.2.2.2.2.2.2.2.2.2.2.2.2.2.2.2.2.2.2.2.2.2.2.1 c4
        refine ml_tIn (pc := 33) (off := 1014) (tgt := 1047) X c4 dL_law_33 (by decide) (by decide) (by decide +kernel) (by decide) ?_
        refine ml_aload_n (pc := 1047) X hl 1 rfl rfl dL_law_1047 ?_
        refine ml_aload_n (pc := 1048) X hl 0 rfl rfl dL_law_1048 ?_
        refine ml_iload_n (pc := 1049) X hl 3 rfl rfl dL_law_1049 ?_
        refine ml_iconst (pc := 1050) X dL_law_1050 ?_
        obtain ⟨v250, hw⟩ := hw
        refine ml_iadd (pc := 1051) X dL_law_1051 ?_
        obtain ⟨a251, b251, hw⟩ := hw
        refine ml_sld (pc := 1052) (i := x3 + 1) X hn a251 b251 dL_law_1052 ?_
        refine ml_calliV (pc := 1053) (rest := []) X [.int (Int32.ofInt (Q (x3 + 1)))] (by decide) rfl (ml_k1 (by decide)) (c_X11_mend l base D cA 256 (by decide) σ (Q (x3 + 1)) (hn.2.2.2.2.2.1 _) _ hw) cv_L_114 ⟨rfl, rfl⟩ ⟨by decide, by decide⟩ rfl rfl hl (Nat.le_of_ble_eq_true rfl) ⟨by decide, by decide⟩ dL_law_1053 (fun r252 σ252 t252 hw => ?_)
        have hw := hw t252
        refine ml_pop (pc := 1056) X dL_law_1056 rfl ?_
        refine ml_aload_n (pc := 1057) X hl 2 rfl rfl dL_law_1057 ?_
        refine ml_aload_n (pc := 1058) X hl 0 rfl rfl dL_law_1058 ?_
        refine ml_iload_n (pc := 1059) X hl 3 rfl rfl dL_law_1059 ?_
        refine ml_iconst (pc := 1060) X dL_law_1060 ?_
        obtain ⟨v253, hw⟩ := hw
        refine ml_iadd (pc := 1061) X dL_law_1061 ?_
        obtain ⟨a254, b254, hw⟩ := hw
        refine ml_sld (pc := 1062) (i := x3 + 1) X hn a254 b254 dL_law_1062 ?_
        refine ml_calliV (pc := 1063) (rest := []) X [.int (Int32.ofInt (Q (x3 + 1)))] (by decide) rfl (ml_k215 (by decide)) (c_X12_mend l base D cA 256 (by decide) σ252 (Q (x3 + 1)) (hn.2.2.2.2.2.1 _) _ hw) cv_L_117 ⟨rfl, rfl⟩ ⟨by decide, by decide⟩ rfl rfl hl (Nat.le_of_ble_eq_true rfl) ⟨by decide, by decide⟩ dL_law_1063 (fun r255 σ255 t255 hw => ?_)
        have hw := hw t255
        refine ml_pop (pc := 1066) X dL_law_1066 rfl ?_
        refine ml_goto (pc := 1067) (tgt := 1182) X dL_law_1067 (by decide) ?_
        exact u_L_law_1182 X hn ih σ255 x3 h_x3 _ (lv_sub hl [0, 1, 2, 3] rfl) hw
      · have hw := hw.2.2.2.2.2.2.2.2.2.2.2.2.2.2.2.2.2.2.2.2.2.2.2.1 c4
        refine ml_tIn (pc := 33) (off := 1037) (tgt := 1070) X c4 dL_law_33 (by decide) (by decide) (by decide +kernel) (by decide) ?_
        refine ml_aload_n (pc := 1070) X hl 1 rfl rfl dL_law_1070 ?_
        refine ml_aload_n (pc := 1071) X hl 0 rfl rfl dL_law_1071 ?_
        refine ml_iload_n (pc := 1072) X hl 3 rfl rfl dL_law_1072 ?_
        refine ml_iconst (pc := 1073) X dL_law_1073 ?_
        obtain ⟨v256, hw⟩ := hw
        refine ml_iadd (pc := 1074) X dL_law_1074 ?_
        obtain ⟨a257, b257, hw⟩ := hw
        refine ml_sld (pc := 1075) (i := x3 + 1) X hn a257 b257 dL_law_1075 ?_
        refine ml_calliV (pc := 1076) (rest := []) X [.int (Int32.ofInt (Q (x3 + 1)))] (by decide) rfl (ml_k1 (by decide)) (c_X11_back l base D cA 256 (by decide) σ (Q (x3 + 1)) (hn.2.2.2.2.2.1 _) _ hw) cv_L_118 ⟨rfl, rfl⟩ ⟨by decide, by decide⟩ rfl rfl hl (Nat.le_of_ble_eq_true rfl) ⟨by decide, by decide⟩ dL_law_1076 (fun r258 σ258 t258 hw => ?_)
        have hw := hw t258
        refine ml_pop (pc := 1079) X dL_law_1079 rfl ?_
        refine ml_aload_n (pc := 1080) X hl 2 rfl rfl dL_law_1080 ?_
        refine ml_aload_n (pc := 1081) X hl 0 rfl rfl dL_law_1081 ?_
        refine ml_iload_n (pc := 1082) X hl 3 rfl rfl dL_law_1082 ?_
        refine ml_iconst (pc := 1083) X dL_law_1083 ?_
        obtain ⟨v259, hw⟩ := hw
        refine ml_iadd (pc := 1084) X dL_law_1084 ?_
        obtain ⟨a260, b260, hw⟩ := hw
        refine ml_sld (pc := 1085) (i := x3 + 1) X hn a260 b260 dL_law_1085 ?_
        refine ml_calliV (pc := 1086) (rest := []) X [.int (Int32.ofInt (Q (x3 + 1)))] (by decide) rfl (ml_k215 (by decide)) (c_X12_back l base D cA 256 (by decide) σ258 (Q (x3 + 1)) (hn.2.2.2.2.2.1 _) _ hw) cv_L_121 ⟨rfl, rfl⟩ ⟨by decide, by decide⟩ rfl rfl hl (Nat.le_of_ble_eq_true rfl) ⟨by decide, by decide⟩ dL_law_1086 (fun r261 σ261 t261 hw => ?_)
        have hw := hw t261
        refine ml_pop (pc := 1089) X dL_law_1089 rfl ?_
        refine ml_goto (pc := 1090) (tgt := 1182) X dL_law_1090 (by decide) ?_
        exact u_L_law_1182 X hn ih σ261 x3 h_x3 _ (lv_sub hl [0, 1, 2, 3] rfl) hw
      · have hw := hw.2.2.2.2.2.2.2.2.2.2.2.2.2.2.2.2.2.2.2.2.2.2.2.2.1 c4
        refine ml_tIn (pc := 33) (off := 1060) (tgt := 1093) X c4 dL_law_33 (by decide) (by decide) (by decide +kernel) (by decide) ?_
        refine ml_aload_n (pc := 1093) X hl 1 rfl rfl dL_law_1093 ?_
        refine ml_aload_n (pc := 1094) X hl 0 rfl rfl dL_law_1094 ?_
        refine ml_iload_n (pc := 1095) X hl 3 rfl rfl dL_law_1095 ?_
        refine ml_iconst (pc := 1096) X dL_law_1096 ?_
        obtain ⟨v262, hw⟩ := hw
        refine ml_iadd (pc := 1097) X dL_law_1097 ?_
        obtain ⟨a263, b263, hw⟩ := hw
        refine ml_sld (pc := 1098) (i := x3 + 1) X hn a263 b263 dL_law_1098 ?_
        refine ml_aload_n (pc := 1099) X hl 0 rfl rfl dL_law_1099 ?_
        refine ml_iload_n (pc := 1100) X hl 3 rfl rfl dL_law_1100 ?_
        refine ml_iconst (pc := 1101) X dL_law_1101 ?_
        obtain ⟨v264, hw⟩ := hw
        refine ml_iadd (pc := 1102) X dL_law_1102 ?_
        obtain ⟨a265, b265, hw⟩ := hw
        refine ml_sld (pc := 1103) (i := x3 + 2) X hn a265 b265 dL_law_1103 ?_
        refine ml_aload_n (pc := 1104) X hl 0 rfl rfl dL_law_1104 ?_
        refine ml_iload_n (pc := 1105) X hl 3 rfl rfl dL_law_1105 ?_
        refine ml_iconst (pc := 1106) X dL_law_1106 ?_
        obtain ⟨v266, hw⟩ := hw
        refine ml_iadd (pc := 1107) X dL_law_1107 ?_
        obtain ⟨a267, b267, hw⟩ := hw
        refine ml_sld (pc := 1108) (i := x3 + 3) X hn a267 b267 dL_law_1108 ?_
        refine ml_calliV (pc := 1109) (rest := []) X [.int (Int32.ofInt (Q (x3 + 1))), .int (Int32.ofInt (Q (x3 + 2))), .int (Int32.ofInt (Q (x3 + 3)))] (by decide) rfl (ml_k1 (by decide)) (c_X11_walk l base D cA 256 (by decide) σ (Q (x3 + 1)) (Q (x3 + 2)) (Q (x3 + 3)) (hn.2.2.2.2.2.1 _) (hn.2.2.2.2.2.1 _) (hn.2.2.2.2.2.1 _) _ hw) cv_L_122 ⟨rfl, rfl⟩ ⟨by decide, by decide⟩ rfl rfl hl (Nat.le_of_ble_eq_true rfl) ⟨by decide, by decide⟩ dL_law_1109 (fun r268 σ268 t268 hw => ?_)
        have hw := hw t268
        refine ml_pop (pc := 1112) X dL_law_1112 rfl ?_
        refine ml_aload_n (pc := 1113) X hl 2 rfl rfl dL_law_1113 ?_
        refine ml_aload_n (pc := 1114) X hl 0 rfl rfl dL_law_1114 ?_
        refine ml_iload_n (pc := 1115) X hl 3 rfl rfl dL_law_1115 ?_
        refine ml_iconst (pc := 1116) X dL_law_1116 ?_
        obtain ⟨v269, hw⟩ := hw
        refine ml_iadd (pc := 1117) X dL_law_1117 ?_
        obtain ⟨a270, b270, hw⟩ := hw
        refine ml_sld (pc := 1118) (i := x3 + 1) X hn a270 b270 dL_law_1118 ?_
        refine ml_aload_n (pc := 1119) X hl 0 rfl rfl dL_law_1119 ?_
        refine ml_iload_n (pc := 1120) X hl 3 rfl rfl dL_law_1120 ?_
        refine ml_iconst (pc := 1121) X dL_law_1121 ?_
        obtain ⟨v271, hw⟩ := hw
        refine ml_iadd (pc := 1122) X dL_law_1122 ?_
        obtain ⟨a272, b272, hw⟩ := hw
        refine ml_sld (pc := 1123) (i := x3 + 2) X hn a272 b272 dL_law_1123 ?_
        refine ml_aload_n (pc := 1124) X hl 0 rfl rfl dL_law_1124 ?_
        refine ml_iload_n (pc := 1125) X hl 3 rfl rfl dL_law_1125 ?_
        refine ml_iconst (pc := 1126) X dL_law_1126 ?_
        obtain ⟨v273, hw⟩ := hw
        refine ml_iadd (pc := 1127) X dL_law_1127 ?_
        obtain ⟨a274, b274, hw⟩ := hw
        refine ml_sld (pc := 1128) (i := x3 + 3) X hn a274 b274 dL_law_1128 ?_
        refine ml_calliV (pc := 1129) (rest := []) X [.int (Int32.ofInt (Q (x3 + 1))), .int (Int32.ofInt (Q (x3 + 2))), .int (Int32.ofInt (Q (x3 + 3)))] (by decide) rfl (ml_k215 (by decide)) (c_X12_walk l base D cA 256 (by decide) σ268 (Q (x3 + 1)) (Q (x3 + 2)) (Q (x3 + 3)) (hn.2.2.2.2.2.1 _) (hn.2.2.2.2.2.1 _) (hn.2.2.2.2.2.1 _) _ hw) cv_L_125 ⟨rfl, rfl⟩ ⟨by decide, by decide⟩ rfl rfl hl (Nat.le_of_ble_eq_true rfl) ⟨by decide, by decide⟩ dL_law_1129 (fun r275 σ275 t275 hw => ?_)
        have hw := hw t275
        refine ml_pop (pc := 1132) X dL_law_1132 rfl ?_
        refine ml_goto (pc := 1133) (tgt := 1182) X dL_law_1133 (by decide) ?_
        exact u_L_law_1182 X hn ih σ275 x3 h_x3 _ (lv_sub hl [0, 1, 2, 3] rfl) hw
      · have hw := hw.2.2.2.2.2.2.2.2.2.2.2.2.2.2.2.2.2.2.2.2.2.2.2.2.2.1 c4
        refine ml_tIn (pc := 33) (off := 1103) (tgt := 1136) X c4 dL_law_33 (by decide) (by decide) (by decide +kernel) (by decide) ?_
        refine ml_aload_n (pc := 1136) X hl 1 rfl rfl dL_law_1136 ?_
        refine ml_aload_n (pc := 1137) X hl 0 rfl rfl dL_law_1137 ?_
        refine ml_iload_n (pc := 1138) X hl 3 rfl rfl dL_law_1138 ?_
        refine ml_iconst (pc := 1139) X dL_law_1139 ?_
        obtain ⟨v276, hw⟩ := hw
        refine ml_iadd (pc := 1140) X dL_law_1140 ?_
        obtain ⟨a277, b277, hw⟩ := hw
        refine ml_sld (pc := 1141) (i := x3 + 1) X hn a277 b277 dL_law_1141 ?_
        refine ml_calliV (pc := 1142) (rest := []) X [.int (Int32.ofInt (Q (x3 + 1)))] (by decide) rfl (ml_k1 (by decide)) (c_X11_check l base D cA 256 (by decide) σ (Q (x3 + 1)) (hn.2.2.2.2.2.1 _) _ hw) cv_L_126 ⟨rfl, rfl⟩ ⟨by decide, by decide⟩ rfl rfl hl (Nat.le_of_ble_eq_true rfl) ⟨by decide, by decide⟩ dL_law_1142 (fun r278 σ278 t278 hw => ?_)
        have hw := hw t278
        refine ml_pop (pc := 1145) X dL_law_1145 rfl ?_
        refine ml_aload_n (pc := 1146) X hl 2 rfl rfl dL_law_1146 ?_
        refine ml_aload_n (pc := 1147) X hl 0 rfl rfl dL_law_1147 ?_
        refine ml_iload_n (pc := 1148) X hl 3 rfl rfl dL_law_1148 ?_
        refine ml_iconst (pc := 1149) X dL_law_1149 ?_
        obtain ⟨v279, hw⟩ := hw
        refine ml_iadd (pc := 1150) X dL_law_1150 ?_
        obtain ⟨a280, b280, hw⟩ := hw
        refine ml_sld (pc := 1151) (i := x3 + 1) X hn a280 b280 dL_law_1151 ?_
        refine ml_calliV (pc := 1152) (rest := []) X [.int (Int32.ofInt (Q (x3 + 1)))] (by decide) rfl (ml_k215 (by decide)) (c_X12_check l base D cA 256 (by decide) σ278 (Q (x3 + 1)) (hn.2.2.2.2.2.1 _) _ hw) cv_L_129 ⟨rfl, rfl⟩ ⟨by decide, by decide⟩ rfl rfl hl (Nat.le_of_ble_eq_true rfl) ⟨by decide, by decide⟩ dL_law_1152 (fun r281 σ281 t281 hw => ?_)
        have hw := hw t281
        refine ml_pop (pc := 1155) X dL_law_1155 rfl ?_
        refine ml_goto (pc := 1156) (tgt := 1182) X dL_law_1156 (by decide) ?_
        exact u_L_law_1182 X hn ih σ281 x3 h_x3 _ (lv_sub hl [0, 1, 2, 3] rfl) hw
      · have hw := hw.2.2.2.2.2.2.2.2.2.2.2.2.2.2.2.2.2.2.2.2.2.2.2.2.2.2.1 c4
        refine ml_tIn (pc := 33) (off := 1126) (tgt := 1159) X c4 dL_law_33 (by decide) (by decide) (by decide +kernel) (by decide) ?_
        refine ml_aload_n (pc := 1159) X hl 1 rfl rfl dL_law_1159 ?_
        refine ml_aload_n (pc := 1160) X hl 0 rfl rfl dL_law_1160 ?_
        refine ml_iload_n (pc := 1161) X hl 3 rfl rfl dL_law_1161 ?_
        refine ml_iconst (pc := 1162) X dL_law_1162 ?_
        obtain ⟨v282, hw⟩ := hw
        refine ml_iadd (pc := 1163) X dL_law_1163 ?_
        obtain ⟨a283, b283, hw⟩ := hw
        refine ml_sld (pc := 1164) (i := x3 + 1) X hn a283 b283 dL_law_1164 ?_
        refine ml_calliV (pc := 1165) (rest := []) X [.int (Int32.ofInt (Q (x3 + 1)))] (by decide) rfl (ml_k1 (by decide)) (c_X11_count l base D cA 256 (by decide) σ (Q (x3 + 1)) (hn.2.2.2.2.2.1 _) _ hw) cv_L_130 ⟨rfl, rfl⟩ ⟨by decide, by decide⟩ rfl rfl hl (Nat.le_of_ble_eq_true rfl) ⟨by decide, by decide⟩ dL_law_1165 (fun r284 σ284 t284 hw => ?_)
        have hw := hw t284
        refine ml_pop (pc := 1168) X dL_law_1168 rfl ?_
        refine ml_aload_n (pc := 1169) X hl 2 rfl rfl dL_law_1169 ?_
        refine ml_aload_n (pc := 1170) X hl 0 rfl rfl dL_law_1170 ?_
        refine ml_iload_n (pc := 1171) X hl 3 rfl rfl dL_law_1171 ?_
        refine ml_iconst (pc := 1172) X dL_law_1172 ?_
        obtain ⟨v285, hw⟩ := hw
        refine ml_iadd (pc := 1173) X dL_law_1173 ?_
        obtain ⟨a286, b286, hw⟩ := hw
        refine ml_sld (pc := 1174) (i := x3 + 1) X hn a286 b286 dL_law_1174 ?_
        refine ml_calliV (pc := 1175) (rest := []) X [.int (Int32.ofInt (Q (x3 + 1)))] (by decide) rfl (ml_k215 (by decide)) (c_X12_count l base D cA 256 (by decide) σ284 (Q (x3 + 1)) (hn.2.2.2.2.2.1 _) _ hw) cv_L_133 ⟨rfl, rfl⟩ ⟨by decide, by decide⟩ rfl rfl hl (Nat.le_of_ble_eq_true rfl) ⟨by decide, by decide⟩ dL_law_1175 (fun r287 σ287 t287 hw => ?_)
        have hw := hw t287
        refine ml_pop (pc := 1178) X dL_law_1178 rfl ?_
        refine ml_goto (pc := 1179) (tgt := 1182) X dL_law_1179 (by decide) ?_
        exact u_L_law_1182 X hn ih σ287 x3 h_x3 _ (lv_sub hl [0, 1, 2, 3] rfl) hw
      · have hw := hw.2.2.2.2.2.2.2.2.2.2.2.2.2.2.2.2.2.2.2.2.2.2.2.2.2.2.2 c4
        refine ml_tOut (pc := 33) (tgt := 1182) X (b_and_r _ _) dL_law_33 c4 (by decide) ?_
        exact u_L_law_1182 X hn ih σ x3 h_x3 _ (lv_sub hl [0, 1, 2, 3] rfl) hw
set_option maxRecDepth 100000 in
set_option maxHeartbeats 8000000 in
theorem u_L_law_445 {p : Program} {e : Env} {s : State} {m : MethodId} {below : List Frame} {meth : Method} {c : Code} {base : Nat} {D : va_G} {cA : Nat → ClassId} {l : Launch} {b : Nat} {L : Int} {xs : Nat → Int32} {Q : Int → Int} (X : ml_X p s m c meth #[Value.ref b] D cA cL_law 4 RL ret) (hn : lw_S s base b L xs Q) (σ : ml_St) (ls : Array Slot) (hl : lv_has ls 4 []) (hw : f_L_law_u445 Q L σ) : ml_V p l e room_1 s m #[Value.ref b] below meth c (lw_Z below #[Value.ref b] s) base D cA 256 163205 256 (256) σ (F0 m 445 ls []) := by
  unfold f_L_law_u445 at hw
  refine ml_iconst (pc := 445) X dL_law_445 ?_
  exact hw.elim
set_option maxRecDepth 100000 in
set_option maxHeartbeats 8000000 in
theorem u_L_law_1188 {p : Program} {e : Env} {s : State} {m : MethodId} {below : List Frame} {meth : Method} {c : Code} {base : Nat} {D : va_G} {cA : Nat → ClassId} {l : Launch} {b : Nat} {L : Int} {xs : Nat → Int32} {Q : Int → Int} (X : ml_X p s m c meth #[Value.ref b] D cA cL_law 4 RL ret) (hn : lw_S s base b L xs Q) (σ : ml_St) (ls : Array Slot) (hl : lv_has ls 4 []) (hw : f_L_law_u1188 Q L σ) : ml_V p l e room_1 s m #[Value.ref b] below meth c (lw_Z below #[Value.ref b] s) base D cA 256 163205 256 (256) σ (F0 m 1188 ls []) := by
  unfold f_L_law_u1188 at hw
  refine ml_iconst (pc := 1188) X dL_law_1188 ?_
  exact ml_lawret (pc := 1189) X hn dL_law_1189
set_option maxRecDepth 100000 in
set_option maxHeartbeats 8000000 in
theorem u_L_law_0 {p : Program} {e : Env} {s : State} {m : MethodId} {below : List Frame} {meth : Method} {c : Code} {base : Nat} {D : va_G} {cA : Nat → ClassId} {l : Launch} {b : Nat} {L : Int} {xs : Nat → Int32} {Q : Int → Int} (X : ml_X p s m c meth #[Value.ref b] D cA cL_law 4 RL ret) (hn : lw_S s base b L xs Q) (hs : s.heap.size = base + 1 + 0) (hNN : ml_N s) (σ : ml_St) (ls : Array Slot) (hl : lv_has ls 4 [(0, .ref b)]) (hw : f_L_law_u0 Q L σ) : ml_V p l e room_1 s m #[Value.ref b] below meth c (lw_Z below #[Value.ref b] s) base D cA 0 0 0 (0 + 0) σ (F0 m 0 ls []) := by
  unfold f_L_law_u0 at hw
  obtain ⟨z1, hw⟩ := hw
  refine ml_newO (n0 := 0) (kc := 0) (ks := 0) (pc := 0) (k := 1) X hs ⟨tw_1_18, tw_1_19, tw_1_1⟩ in_X11 rfl (by decide) tk_X11 df_X11 (by decide) (by omega) (by decide +kernel) z1 ⟨by decide, by decide⟩ dL_law_0 ?_
  refine ml_dup (pc := 3) X dL_law_3 rfl ?_
  refine ml_callCI (n0 := 0) (kc := 1) (ks := 13) (pc := 4) (k := 1) (mc := 213) (ms := 76181) X hs hNN (c_X11_init l base D cA σ _ hw) ⟨⟨tw_1_20, tw_1_21, tw_1_1, tw_1_22⟩, rfl, by decide +kernel⟩ ⟨rfl, rfl⟩ ⟨by decide, by decide⟩ (by omega) hl (Nat.le_of_ble_eq_true rfl) ⟨by decide, by decide⟩ dL_law_4 (fun σ2 hw => ?_)
  refine ml_astore_n (pc := 7) X rfl hl (by decide) (lst' := [(1, .ref (base + (1 : Int).toNat)), (0, .ref b)]) rfl dL_law_7 (fun ls hl => ?_)
  obtain ⟨z3, hw⟩ := hw
  refine ml_newO (n0 := 0) (kc := 214) (ks := 76194) (pc := 8) (k := 215) X hs ⟨tw_4_185, tw_4_186, tw_1_13⟩ in_X12 rfl (by decide) tk_X12 df_X12 (by decide) (by omega) (by decide +kernel) z3 ⟨by decide, by decide⟩ dL_law_8 ?_
  refine ml_dup (pc := 11) X dL_law_11 rfl ?_
  refine ml_callCI (n0 := 0) (kc := 215) (ks := 76256) (pc := 12) (k := 215) (mc := 41) (ms := 86949) X hs hNN (c_X12_init l base D cA σ2 _ hw) ⟨⟨tw_4_187, tw_4_188, tw_1_13, tw_4_189⟩, rfl, by decide +kernel⟩ ⟨rfl, rfl⟩ ⟨by decide, by decide⟩ (by omega) hl (Nat.le_of_ble_eq_true rfl) ⟨by decide, by decide⟩ dL_law_12 (fun σ4 hw => ?_)
  obtain ⟨oro, hw⟩ := hw
  refine ml_toRO oro ?_
  refine ml_astore_n (pc := 15) X rfl hl (by decide) (lst' := [(2, .ref (base + (215 : Int).toNat)), (1, .ref (base + (1 : Int).toNat)), (0, .ref b)]) rfl dL_law_15 (fun ls hl => ?_)
  refine ml_iconst (pc := 16) X dL_law_16 ?_
  refine ml_istore_n (pc := 17) X rfl hl (by decide) (lst' := [(3, .int (Int32.ofInt 0)), (2, .ref (base + (215 : Int).toNat)), (1, .ref (base + (1 : Int).toNat)), (0, .ref b)]) rfl dL_law_17 (fun ls hl => ?_)
  obtain ⟨N0, hw⟩ := hw
  exact u_L_law_18 X hn (fun σ   ls hl hw => u_L_law_445 X hn σ   ls hl hw) (fun σ   ls hl hw => u_L_law_1188 X hn σ   ls hl hw) N0 σ4 0 ⟨by decide, by decide⟩ _ (lv_sub hl [3, 2, 1, 0] rfl) hw
