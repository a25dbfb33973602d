/-! THE CLAIM OUT OF ONE WALK OF THE LAW'S BODY. Your part is whole_start (and what it stands on); all else here is the same for every law, but numbers. -/
def R_law : String := "MirrorLaneLaw"
def lw_P (b : Addr) (xs : List Int32) (args : Array Value) (s : State) : Prop := args = #[.ref b] ∧ s.IntsAt b xs ∧ xs.length ≤ 4096 ∧ (Jvm.Cond.and given_1 narrow_1).before args s = true
def lw_Q (_ : Array Value) (s : State) (o : Outcome) (t : State) : Prop := o = .returned (some (.int 1)) ∧ Framed s o t [] 600000 7302249
def lw_Z (below : List Frame) (a : Array Value) (s : State) : State → Prop := fun t => ∃ o, t.status = .running ∧ Ended t below o ∧ lw_Q a s o t
/-- the law's own end, with 1 on the stack, nothing written that was there before, its room as the claim has it -/
theorem lw_ret {p : Program} {l : Launch} {e : Env} {s : State} {m : MethodId} {below : List Frame} {meth : Method} {c : Code} {b : Nat} (hx : p.tables.exec = Jvm.exec) (hb : c.code = code) (hr : meth.sig.returnType = ret) (hlocks : meth.locks = false) {pc : Nat} {H : Heap} {ls : Array Slot} (hdg : decode code pc = .ok (.ireturn, 1)) : W p l e room_1 s m #[Value.ref b] below meth c H [] 600000 7302249 (lw_Z below #[Value.ref b] s) (F0 m pc ls [.int 1]) := by
  intro T hT X
  obtain ⟨fs, hret, hrun, hended, hW, hframe⟩ := X.leave (v := some (.int 1)) (hlocks := hlocks) (fun h => by rw [hr] at h; cases h)
  have hmeth' : T.vm.method? m = some meth := X.method'
  refine ⟨T.setFrames fs, ?_, .returned (some (.int 1)), hrun, hended, rfl, ⟨_, rfl⟩, hW, hframe⟩
  jvm_step X.here [X.here.top, hx, hb, hdg, hmeth', hr, ret, narrow_b1]
  (try refine ⟨rfl, ?_⟩); (try refine ⟨rfl, ?_⟩)
  first | (intro acts; rw [hret _ acts rfl rfl rfl]) | rw [hret _ _ rfl rfl rfl]
  exact Steps.refl _
/-- what holds at the law's entry: the machine, the code, the tables' words (any of lw_tbl by 'hts w (by decide +kernel)'), the script of L ints xs at the cell b, what the Statement gives of the start (any of its parts by flat_of_before) -/
def lw_At (p : Program) (s : State) (m : MethodId) (meth : Method) (c : Code) (b L : Nat) (xs : Nat → Int32) : Prop :=
  p.tables.exec = Jvm.exec ∧ c.code = code ∧ meth.sig.returnType = ret ∧ c.maxLocals = 4 ∧ s.vm.findClass R_law = some m.cls ∧ (∀ w ∈ lw_tbl, w.before #[Value.ref b] s = true) ∧ va_X b L xs s s.heap ∧ b < s.heap.size ∧ meth.locks = false ∧ (Jvm.Cond.and given_1 narrow_1).before #[Value.ref b] s = true
def lw_S (s : State) (base b : Nat) (L : Int) (xs : Nat → Int32) (Q : Int → Int) : Prop := va_X b L.toNat xs s s.heap ∧ b < s.heap.size ∧ b ≤ base ∧ (0 ≤ L ∧ L ≤ 100000 ∧ s.heap.size = base + 1) ∧ I32 L ∧ (∀ i, I32 (Q i)) ∧ ∀ i : Int, 0 ≤ i → Int32.ofInt (Q i) = xs i.toNat
section MLW
variable {p : Program} {l : Launch} {e : Env} {R : Room} {s : State} {m : MethodId} {args : Array Value} {below : List Frame} {meth : Method} {c : Code} {Qs : State → Prop} {base b : Nat} {D : va_G} {cA : Nat → ClassId} {kc ks rr n : Nat} {σ : ml_St} {cc : ByteArray} {nL pc : Nat} {own : String} {rt : Option FieldType} {ls : Array Slot} {rest : List Value} {L : Int} {xs : Nat → Int32} {Q : Int → Int}
theorem ml_sld (X : ml_X p s m c meth args D cA cc nL own rt) (hn : lw_S s base b L xs Q) {i : Int} (h0 : 0 ≤ i) (h1 : i < L) (d : decode cc pc = .ok (.iaload, 1)) (kk : ml_V p l e R s m args below meth c Qs base D cA kc ks rr n σ (F0 m (pc + 1) ls (.int (Int32.ofInt (Q i)) :: rest))) : ml_V p l e R s m args below meth c Qs base D cA kc ks rr n σ (F0 m pc ls (.int (Int32.ofInt i) :: .ref b :: rest)) := by
  intro H locs h1' h2 h3 h4
  obtain ⟨g1, g2, g3, g4, g5, g6, g7⟩ := hn
  refine va_sld X.1 X.2.1 g1 g2 (fun q => by have q : base < b := q; omega) h2 (ml_vin (N := L.toNat) h0 (by omega) (by omega)) d ?_
  rw [ml_cl h0 (by omega), ← g7 i h0]
  exact kk H locs h1' h2 h3 h4
theorem ml_slen (X : ml_X p s m c meth args D cA cc nL own rt) (hn : lw_S s base b L xs Q) (d : decode cc pc = .ok (.arraylength, 1)) (kk : ml_V p l e R s m args below meth c Qs base D cA kc ks rr n σ (F0 m (pc + 1) ls (.int (Int32.ofInt L) :: rest))) : ml_V p l e R s m args below meth c Qs base D cA kc ks rr n σ (F0 m pc ls (.ref b :: rest)) := by
  intro H locs h1' h2 h3 h4
  obtain ⟨g1, g2, g3, g4, g5, g6, g7⟩ := hn
  refine va_slen X.1 X.2.1 g1 g2 (fun q => by have q : base < b := q; omega) h2 d ?_
  have e : Int32.ofNat L.toNat = Int32.ofInt L := by
    have : ((L.toNat : Nat) : Int) = L := by omega
    rw [← this]
    rfl
  rw [e]
  exact kk H locs h1' h2 h3 h4
theorem ml_lawret (X : ml_X p s m c meth #[Value.ref b] D cA cL_law nL RL ret) (hn : lw_S s base b L xs Q) (d : decode cL_law pc = .ok (.ireturn, 1)) (hkc : kc ≤ 600000 := by decide) (hks : ks ≤ 7302249 := by decide) : ml_V p l e room_1 s m #[Value.ref b] below meth c (lw_Z below #[Value.ref b] s) base D cA kc ks rr n σ (F0 m pc ls [.int (Int32.ofInt 1)]) := by
  intro H locs h1' h2 h3 h4
  refine va_forget (fun q hq => ?_) ?_
  · have h5 : base < q.base := h2.2.2 q hq
    have h6 := hn.2.2.2.1.2.2
    rw [h6]
    exact h5
  · exact W.widen (k := 600000) (n := 7302249) hkc hks (lw_ret X.1 X.2.1 X.2.2.2.2.2.2.2 X.2.2.2.2.2.2.1 d)
end MLW
theorem dL_law_0 : decode cL_law 0 = .ok (.new 7, 3) := by decide +kernel
theorem dL_law_3 : decode cL_law 3 = .ok (.dup, 1) := by decide +kernel
theorem dL_law_4 : decode cL_law 4 = .ok (.invokespecial 9, 3) := by decide +kernel
theorem dL_law_7 : decode cL_law 7 = .ok (.astore_n 1, 1) := by decide +kernel
theorem dL_law_8 : decode cL_law 8 = .ok (.new 10, 3) := by decide +kernel
theorem dL_law_11 : decode cL_law 11 = .ok (.dup, 1) := by decide +kernel
theorem dL_law_12 : decode cL_law 12 = .ok (.invokespecial 12, 3) := by decide +kernel
theorem dL_law_15 : decode cL_law 15 = .ok (.astore_n 2, 1) := by decide +kernel
theorem dL_law_16 : decode cL_law 16 = .ok (.iconst 0, 1) := by decide +kernel
theorem dL_law_17 : decode cL_law 17 = .ok (.istore_n 3, 1) := by decide +kernel
theorem dL_law_18 : decode cL_law 18 = .ok (.iload_n 3, 1) := by decide +kernel
theorem dL_law_19 : decode cL_law 19 = .ok (.aload_n 0, 1) := by decide +kernel
theorem dL_law_20 : decode cL_law 20 = .ok (.arraylength, 1) := by decide +kernel
theorem dL_law_21 : decode cL_law 21 = .ok (.bipush 8, 2) := by decide +kernel
theorem dL_law_23 : decode cL_law 23 = .ok (.isub, 1) := by decide +kernel
theorem dL_law_24 : decode cL_law 24 = .ok (.if_icmp .gt 1163, 3) := by decide +kernel
theorem dL_law_27 : decode cL_law 27 = .ok (.aload_n 0, 1) := by decide +kernel
theorem dL_law_28 : decode cL_law 28 = .ok (.iload_n 3, 1) := by decide +kernel
theorem dL_law_29 : decode cL_law 29 = .ok (.iaload, 1) := by decide +kernel
theorem dL_law_30 : decode cL_law 30 = .ok (.bipush 31, 2) := by decide +kernel
theorem dL_law_32 : decode cL_law 32 = .ok (.iand, 1) := by decide +kernel
theorem dL_law_33 : decode cL_law 33 = .ok (.tableswitch 1148 0 26 #[123, 146, 209, 232, 265, 278, 291, 314, 347, 380, 413, 446, 479, 542, 689, 752, 795, 828, 871, 894, 937, 970, 1013, 1036, 1059, 1102, 1125], 123) := by decide +kernel
theorem dL_law_156 : decode cL_law 156 = .ok (.aload_n 1, 1) := by decide +kernel
theorem dL_law_157 : decode cL_law 157 = .ok (.aload_n 0, 1) := by decide +kernel
theorem dL_law_158 : decode cL_law 158 = .ok (.iload_n 3, 1) := by decide +kernel
theorem dL_law_159 : decode cL_law 159 = .ok (.iconst 1, 1) := by decide +kernel
theorem dL_law_160 : decode cL_law 160 = .ok (.iadd, 1) := by decide +kernel
theorem dL_law_161 : decode cL_law 161 = .ok (.iaload, 1) := by decide +kernel
theorem dL_law_162 : decode cL_law 162 = .ok (.invokevirtual 13, 3) := by decide +kernel
theorem dL_law_165 : decode cL_law 165 = .ok (.pop, 1) := by decide +kernel
theorem dL_law_166 : decode cL_law 166 = .ok (.aload_n 2, 1) := by decide +kernel
theorem dL_law_167 : decode cL_law 167 = .ok (.aload_n 0, 1) := by decide +kernel
theorem dL_law_168 : decode cL_law 168 = .ok (.iload_n 3, 1) := by decide +kernel
theorem dL_law_169 : decode cL_law 169 = .ok (.iconst 1, 1) := by decide +kernel
theorem dL_law_170 : decode cL_law 170 = .ok (.iadd, 1) := by decide +kernel
theorem dL_law_171 : decode cL_law 171 = .ok (.iaload, 1) := by decide +kernel
theorem dL_law_172 : decode cL_law 172 = .ok (.invokevirtual 17, 3) := by decide +kernel
theorem dL_law_175 : decode cL_law 175 = .ok (.pop, 1) := by decide +kernel
theorem dL_law_176 : decode cL_law 176 = .ok (.goto 1005, 3) := by decide +kernel
theorem dL_law_179 : decode cL_law 179 = .ok (.aload_n 1, 1) := by decide +kernel
theorem dL_law_180 : decode cL_law 180 = .ok (.aload_n 0, 1) := by decide +kernel
theorem dL_law_181 : decode cL_law 181 = .ok (.iload_n 3, 1) := by decide +kernel
theorem dL_law_182 : decode cL_law 182 = .ok (.iconst 1, 1) := by decide +kernel
theorem dL_law_183 : decode cL_law 183 = .ok (.iadd, 1) := by decide +kernel
theorem dL_law_184 : decode cL_law 184 = .ok (.iaload, 1) := by decide +kernel
theorem dL_law_185 : decode cL_law 185 = .ok (.aload_n 0, 1) := by decide +kernel
theorem dL_law_186 : decode cL_law 186 = .ok (.iload_n 3, 1) := by decide +kernel
theorem dL_law_187 : decode cL_law 187 = .ok (.iconst 2, 1) := by decide +kernel
theorem dL_law_188 : decode cL_law 188 = .ok (.iadd, 1) := by decide +kernel
theorem dL_law_189 : decode cL_law 189 = .ok (.iaload, 1) := by decide +kernel
theorem dL_law_190 : decode cL_law 190 = .ok (.aload_n 0, 1) := by decide +kernel
theorem dL_law_191 : decode cL_law 191 = .ok (.iload_n 3, 1) := by decide +kernel
theorem dL_law_192 : decode cL_law 192 = .ok (.iconst 3, 1) := by decide +kernel
theorem dL_law_193 : decode cL_law 193 = .ok (.iadd, 1) := by decide +kernel
theorem dL_law_194 : decode cL_law 194 = .ok (.iaload, 1) := by decide +kernel
theorem dL_law_195 : decode cL_law 195 = .ok (.aload_n 0, 1) := by decide +kernel
theorem dL_law_196 : decode cL_law 196 = .ok (.iload_n 3, 1) := by decide +kernel
theorem dL_law_197 : decode cL_law 197 = .ok (.iconst 4, 1) := by decide +kernel
theorem dL_law_198 : decode cL_law 198 = .ok (.iadd, 1) := by decide +kernel
theorem dL_law_199 : decode cL_law 199 = .ok (.iaload, 1) := by decide +kernel
theorem dL_law_200 : decode cL_law 200 = .ok (.aload_n 0, 1) := by decide +kernel
theorem dL_law_201 : decode cL_law 201 = .ok (.iload_n 3, 1) := by decide +kernel
theorem dL_law_202 : decode cL_law 202 = .ok (.iconst 5, 1) := by decide +kernel
theorem dL_law_203 : decode cL_law 203 = .ok (.iadd, 1) := by decide +kernel
theorem dL_law_204 : decode cL_law 204 = .ok (.iaload, 1) := by decide +kernel
theorem dL_law_205 : decode cL_law 205 = .ok (.invokevirtual 18, 3) := by decide +kernel
theorem dL_law_208 : decode cL_law 208 = .ok (.pop, 1) := by decide +kernel
theorem dL_law_209 : decode cL_law 209 = .ok (.aload_n 2, 1) := by decide +kernel
theorem dL_law_210 : decode cL_law 210 = .ok (.aload_n 0, 1) := by decide +kernel
theorem dL_law_211 : decode cL_law 211 = .ok (.iload_n 3, 1) := by decide +kernel
theorem dL_law_212 : decode cL_law 212 = .ok (.iconst 1, 1) := by decide +kernel
theorem dL_law_213 : decode cL_law 213 = .ok (.iadd, 1) := by decide +kernel
theorem dL_law_214 : decode cL_law 214 = .ok (.iaload, 1) := by decide +kernel
theorem dL_law_215 : decode cL_law 215 = .ok (.aload_n 0, 1) := by decide +kernel
theorem dL_law_216 : decode cL_law 216 = .ok (.iload_n 3, 1) := by decide +kernel
theorem dL_law_217 : decode cL_law 217 = .ok (.iconst 2, 1) := by decide +kernel
theorem dL_law_218 : decode cL_law 218 = .ok (.iadd, 1) := by decide +kernel
theorem dL_law_219 : decode cL_law 219 = .ok (.iaload, 1) := by decide +kernel
theorem dL_law_220 : decode cL_law 220 = .ok (.aload_n 0, 1) := by decide +kernel
theorem dL_law_221 : decode cL_law 221 = .ok (.iload_n 3, 1) := by decide +kernel
theorem dL_law_222 : decode cL_law 222 = .ok (.iconst 3, 1) := by decide +kernel
theorem dL_law_223 : decode cL_law 223 = .ok (.iadd, 1) := by decide +kernel
theorem dL_law_224 : decode cL_law 224 = .ok (.iaload, 1) := by decide +kernel
theorem dL_law_225 : decode cL_law 225 = .ok (.aload_n 0, 1) := by decide +kernel
theorem dL_law_226 : decode cL_law 226 = .ok (.iload_n 3, 1) := by decide +kernel
theorem dL_law_227 : decode cL_law 227 = .ok (.iconst 4, 1) := by decide +kernel
theorem dL_law_228 : decode cL_law 228 = .ok (.iadd, 1) := by decide +kernel
theorem dL_law_229 : decode cL_law 229 = .ok (.iaload, 1) := by decide +kernel
theorem dL_law_230 : decode cL_law 230 = .ok (.aload_n 0, 1) := by decide +kernel
theorem dL_law_231 : decode cL_law 231 = .ok (.iload_n 3, 1) := by decide +kernel
theorem dL_law_232 : decode cL_law 232 = .ok (.iconst 5, 1) := by decide +kernel
theorem dL_law_233 : decode cL_law 233 = .ok (.iadd, 1) := by decide +kernel
theorem dL_law_234 : decode cL_law 234 = .ok (.iaload, 1) := by decide +kernel
theorem dL_law_235 : decode cL_law 235 = .ok (.invokevirtual 22, 3) := by decide +kernel
theorem dL_law_238 : decode cL_law 238 = .ok (.pop, 1) := by decide +kernel
theorem dL_law_239 : decode cL_law 239 = .ok (.goto 942, 3) := by decide +kernel
theorem dL_law_242 : decode cL_law 242 = .ok (.aload_n 1, 1) := by decide +kernel
theorem dL_law_243 : decode cL_law 243 = .ok (.aload_n 0, 1) := by decide +kernel
theorem dL_law_244 : decode cL_law 244 = .ok (.iload_n 3, 1) := by decide +kernel
theorem dL_law_245 : decode cL_law 245 = .ok (.iconst 1, 1) := by decide +kernel
theorem dL_law_246 : decode cL_law 246 = .ok (.iadd, 1) := by decide +kernel
theorem dL_law_247 : decode cL_law 247 = .ok (.iaload, 1) := by decide +kernel
theorem dL_law_248 : decode cL_law 248 = .ok (.invokevirtual 23, 3) := by decide +kernel
theorem dL_law_251 : decode cL_law 251 = .ok (.pop, 1) := by decide +kernel
theorem dL_law_252 : decode cL_law 252 = .ok (.aload_n 2, 1) := by decide +kernel
theorem dL_law_253 : decode cL_law 253 = .ok (.aload_n 0, 1) := by decide +kernel
theorem dL_law_254 : decode cL_law 254 = .ok (.iload_n 3, 1) := by decide +kernel
theorem dL_law_255 : decode cL_law 255 = .ok (.iconst 1, 1) := by decide +kernel
theorem dL_law_256 : decode cL_law 256 = .ok (.iadd, 1) := by decide +kernel
theorem dL_law_257 : decode cL_law 257 = .ok (.iaload, 1) := by decide +kernel
theorem dL_law_258 : decode cL_law 258 = .ok (.invokevirtual 27, 3) := by decide +kernel
theorem dL_law_261 : decode cL_law 261 = .ok (.pop, 1) := by decide +kernel
theorem dL_law_262 : decode cL_law 262 = .ok (.goto 919, 3) := by decide +kernel
theorem dL_law_265 : decode cL_law 265 = .ok (.aload_n 1, 1) := by decide +kernel
theorem dL_law_266 : decode cL_law 266 = .ok (.aload_n 0, 1) := by decide +kernel
theorem dL_law_267 : decode cL_law 267 = .ok (.iload_n 3, 1) := by decide +kernel
theorem dL_law_268 : decode cL_law 268 = .ok (.iconst 1, 1) := by decide +kernel
theorem dL_law_269 : decode cL_law 269 = .ok (.iadd, 1) := by decide +kernel
theorem dL_law_270 : decode cL_law 270 = .ok (.iaload, 1) := by decide +kernel
theorem dL_law_271 : decode cL_law 271 = .ok (.aload_n 0, 1) := by decide +kernel
theorem dL_law_272 : decode cL_law 272 = .ok (.iload_n 3, 1) := by decide +kernel
theorem dL_law_273 : decode cL_law 273 = .ok (.iconst 2, 1) := by decide +kernel
theorem dL_law_274 : decode cL_law 274 = .ok (.iadd, 1) := by decide +kernel
theorem dL_law_275 : decode cL_law 275 = .ok (.iaload, 1) := by decide +kernel
theorem dL_law_276 : decode cL_law 276 = .ok (.invokevirtual 28, 3) := by decide +kernel
theorem dL_law_279 : decode cL_law 279 = .ok (.pop, 1) := by decide +kernel
theorem dL_law_280 : decode cL_law 280 = .ok (.aload_n 2, 1) := by decide +kernel
theorem dL_law_281 : decode cL_law 281 = .ok (.aload_n 0, 1) := by decide +kernel
theorem dL_law_282 : decode cL_law 282 = .ok (.iload_n 3, 1) := by decide +kernel
theorem dL_law_283 : decode cL_law 283 = .ok (.iconst 1, 1) := by decide +kernel
theorem dL_law_284 : decode cL_law 284 = .ok (.iadd, 1) := by decide +kernel
theorem dL_law_285 : decode cL_law 285 = .ok (.iaload, 1) := by decide +kernel
theorem dL_law_286 : decode cL_law 286 = .ok (.aload_n 0, 1) := by decide +kernel
theorem dL_law_287 : decode cL_law 287 = .ok (.iload_n 3, 1) := by decide +kernel
theorem dL_law_288 : decode cL_law 288 = .ok (.iconst 2, 1) := by decide +kernel
theorem dL_law_289 : decode cL_law 289 = .ok (.iadd, 1) := by decide +kernel
theorem dL_law_290 : decode cL_law 290 = .ok (.iaload, 1) := by decide +kernel
theorem dL_law_291 : decode cL_law 291 = .ok (.invokevirtual 32, 3) := by decide +kernel
theorem dL_law_294 : decode cL_law 294 = .ok (.pop, 1) := by decide +kernel
theorem dL_law_295 : decode cL_law 295 = .ok (.goto 886, 3) := by decide +kernel
theorem dL_law_298 : decode cL_law 298 = .ok (.aload_n 1, 1) := by decide +kernel
theorem dL_law_299 : decode cL_law 299 = .ok (.invokevirtual 33, 3) := by decide +kernel
theorem dL_law_302 : decode cL_law 302 = .ok (.pop, 1) := by decide +kernel
theorem dL_law_303 : decode cL_law 303 = .ok (.aload_n 2, 1) := by decide +kernel
theorem dL_law_304 : decode cL_law 304 = .ok (.invokevirtual 37, 3) := by decide +kernel
theorem dL_law_307 : decode cL_law 307 = .ok (.pop, 1) := by decide +kernel
theorem dL_law_308 : decode cL_law 308 = .ok (.goto 873, 3) := by decide +kernel
theorem dL_law_311 : decode cL_law 311 = .ok (.aload_n 1, 1) := by decide +kernel
theorem dL_law_312 : decode cL_law 312 = .ok (.invokevirtual 38, 3) := by decide +kernel
theorem dL_law_315 : decode cL_law 315 = .ok (.pop, 1) := by decide +kernel
theorem dL_law_316 : decode cL_law 316 = .ok (.aload_n 2, 1) := by decide +kernel
theorem dL_law_317 : decode cL_law 317 = .ok (.invokevirtual 41, 3) := by decide +kernel
theorem dL_law_320 : decode cL_law 320 = .ok (.pop, 1) := by decide +kernel
theorem dL_law_321 : decode cL_law 321 = .ok (.goto 860, 3) := by decide +kernel
theorem dL_law_324 : decode cL_law 324 = .ok (.aload_n 1, 1) := by decide +kernel
theorem dL_law_325 : decode cL_law 325 = .ok (.aload_n 0, 1) := by decide +kernel
theorem dL_law_326 : decode cL_law 326 = .ok (.iload_n 3, 1) := by decide +kernel
theorem dL_law_327 : decode cL_law 327 = .ok (.iconst 1, 1) := by decide +kernel
theorem dL_law_328 : decode cL_law 328 = .ok (.iadd, 1) := by decide +kernel
theorem dL_law_329 : decode cL_law 329 = .ok (.iaload, 1) := by decide +kernel
theorem dL_law_330 : decode cL_law 330 = .ok (.invokevirtual 42, 3) := by decide +kernel
theorem dL_law_333 : decode cL_law 333 = .ok (.pop2, 1) := by decide +kernel
theorem dL_law_334 : decode cL_law 334 = .ok (.aload_n 2, 1) := by decide +kernel
theorem dL_law_335 : decode cL_law 335 = .ok (.aload_n 0, 1) := by decide +kernel
theorem dL_law_336 : decode cL_law 336 = .ok (.iload_n 3, 1) := by decide +kernel
theorem dL_law_337 : decode cL_law 337 = .ok (.iconst 1, 1) := by decide +kernel
theorem dL_law_338 : decode cL_law 338 = .ok (.iadd, 1) := by decide +kernel
theorem dL_law_339 : decode cL_law 339 = .ok (.iaload, 1) := by decide +kernel
theorem dL_law_340 : decode cL_law 340 = .ok (.invokevirtual 46, 3) := by decide +kernel
theorem dL_law_343 : decode cL_law 343 = .ok (.pop2, 1) := by decide +kernel
theorem dL_law_344 : decode cL_law 344 = .ok (.goto 837, 3) := by decide +kernel
theorem dL_law_347 : decode cL_law 347 = .ok (.aload_n 1, 1) := by decide +kernel
theorem dL_law_348 : decode cL_law 348 = .ok (.aload_n 0, 1) := by decide +kernel
theorem dL_law_349 : decode cL_law 349 = .ok (.iload_n 3, 1) := by decide +kernel
theorem dL_law_350 : decode cL_law 350 = .ok (.iconst 1, 1) := by decide +kernel
theorem dL_law_351 : decode cL_law 351 = .ok (.iadd, 1) := by decide +kernel
theorem dL_law_352 : decode cL_law 352 = .ok (.iaload, 1) := by decide +kernel
theorem dL_law_353 : decode cL_law 353 = .ok (.aload_n 0, 1) := by decide +kernel
theorem dL_law_354 : decode cL_law 354 = .ok (.iload_n 3, 1) := by decide +kernel
theorem dL_law_355 : decode cL_law 355 = .ok (.iconst 2, 1) := by decide +kernel
theorem dL_law_356 : decode cL_law 356 = .ok (.iadd, 1) := by decide +kernel
theorem dL_law_357 : decode cL_law 357 = .ok (.iaload, 1) := by decide +kernel
theorem dL_law_358 : decode cL_law 358 = .ok (.invokevirtual 47, 3) := by decide +kernel
theorem dL_law_361 : decode cL_law 361 = .ok (.pop, 1) := by decide +kernel
theorem dL_law_362 : decode cL_law 362 = .ok (.aload_n 2, 1) := by decide +kernel
theorem dL_law_363 : decode cL_law 363 = .ok (.aload_n 0, 1) := by decide +kernel
theorem dL_law_364 : decode cL_law 364 = .ok (.iload_n 3, 1) := by decide +kernel
theorem dL_law_365 : decode cL_law 365 = .ok (.iconst 1, 1) := by decide +kernel
theorem dL_law_366 : decode cL_law 366 = .ok (.iadd, 1) := by decide +kernel
theorem dL_law_367 : decode cL_law 367 = .ok (.iaload, 1) := by decide +kernel
theorem dL_law_368 : decode cL_law 368 = .ok (.aload_n 0, 1) := by decide +kernel
theorem dL_law_369 : decode cL_law 369 = .ok (.iload_n 3, 1) := by decide +kernel
theorem dL_law_370 : decode cL_law 370 = .ok (.iconst 2, 1) := by decide +kernel
theorem dL_law_371 : decode cL_law 371 = .ok (.iadd, 1) := by decide +kernel
theorem dL_law_372 : decode cL_law 372 = .ok (.iaload, 1) := by decide +kernel
theorem dL_law_373 : decode cL_law 373 = .ok (.invokevirtual 50, 3) := by decide +kernel
theorem dL_law_376 : decode cL_law 376 = .ok (.pop, 1) := by decide +kernel
theorem dL_law_377 : decode cL_law 377 = .ok (.goto 804, 3) := by decide +kernel
theorem dL_law_380 : decode cL_law 380 = .ok (.aload_n 1, 1) := by decide +kernel
theorem dL_law_381 : decode cL_law 381 = .ok (.aload_n 0, 1) := by decide +kernel
theorem dL_law_382 : decode cL_law 382 = .ok (.iload_n 3, 1) := by decide +kernel
theorem dL_law_383 : decode cL_law 383 = .ok (.iconst 1, 1) := by decide +kernel
theorem dL_law_384 : decode cL_law 384 = .ok (.iadd, 1) := by decide +kernel
theorem dL_law_385 : decode cL_law 385 = .ok (.iaload, 1) := by decide +kernel
theorem dL_law_386 : decode cL_law 386 = .ok (.aload_n 0, 1) := by decide +kernel
theorem dL_law_387 : decode cL_law 387 = .ok (.iload_n 3, 1) := by decide +kernel
theorem dL_law_388 : decode cL_law 388 = .ok (.iconst 2, 1) := by decide +kernel
theorem dL_law_389 : decode cL_law 389 = .ok (.iadd, 1) := by decide +kernel
theorem dL_law_390 : decode cL_law 390 = .ok (.iaload, 1) := by decide +kernel
theorem dL_law_391 : decode cL_law 391 = .ok (.invokevirtual 51, 3) := by decide +kernel
theorem dL_law_394 : decode cL_law 394 = .ok (.pop2, 1) := by decide +kernel
theorem dL_law_395 : decode cL_law 395 = .ok (.aload_n 2, 1) := by decide +kernel
theorem dL_law_396 : decode cL_law 396 = .ok (.aload_n 0, 1) := by decide +kernel
theorem dL_law_397 : decode cL_law 397 = .ok (.iload_n 3, 1) := by decide +kernel
theorem dL_law_398 : decode cL_law 398 = .ok (.iconst 1, 1) := by decide +kernel
theorem dL_law_399 : decode cL_law 399 = .ok (.iadd, 1) := by decide +kernel
theorem dL_law_400 : decode cL_law 400 = .ok (.iaload, 1) := by decide +kernel
theorem dL_law_401 : decode cL_law 401 = .ok (.aload_n 0, 1) := by decide +kernel
theorem dL_law_402 : decode cL_law 402 = .ok (.iload_n 3, 1) := by decide +kernel
theorem dL_law_403 : decode cL_law 403 = .ok (.iconst 2, 1) := by decide +kernel
theorem dL_law_404 : decode cL_law 404 = .ok (.iadd, 1) := by decide +kernel
theorem dL_law_405 : decode cL_law 405 = .ok (.iaload, 1) := by decide +kernel
theorem dL_law_406 : decode cL_law 406 = .ok (.invokevirtual 55, 3) := by decide +kernel
theorem dL_law_409 : decode cL_law 409 = .ok (.pop2, 1) := by decide +kernel
theorem dL_law_410 : decode cL_law 410 = .ok (.goto 771, 3) := by decide +kernel
theorem dL_law_413 : decode cL_law 413 = .ok (.aload_n 1, 1) := by decide +kernel
theorem dL_law_414 : decode cL_law 414 = .ok (.aload_n 0, 1) := by decide +kernel
theorem dL_law_415 : decode cL_law 415 = .ok (.iload_n 3, 1) := by decide +kernel
theorem dL_law_416 : decode cL_law 416 = .ok (.iconst 1, 1) := by decide +kernel
theorem dL_law_417 : decode cL_law 417 = .ok (.iadd, 1) := by decide +kernel
theorem dL_law_418 : decode cL_law 418 = .ok (.iaload, 1) := by decide +kernel
theorem dL_law_419 : decode cL_law 419 = .ok (.aload_n 0, 1) := by decide +kernel
theorem dL_law_420 : decode cL_law 420 = .ok (.iload_n 3, 1) := by decide +kernel
theorem dL_law_421 : decode cL_law 421 = .ok (.iconst 2, 1) := by decide +kernel
theorem dL_law_422 : decode cL_law 422 = .ok (.iadd, 1) := by decide +kernel
theorem dL_law_423 : decode cL_law 423 = .ok (.iaload, 1) := by decide +kernel
theorem dL_law_424 : decode cL_law 424 = .ok (.invokevirtual 56, 3) := by decide +kernel
theorem dL_law_427 : decode cL_law 427 = .ok (.pop2, 1) := by decide +kernel
theorem dL_law_428 : decode cL_law 428 = .ok (.aload_n 2, 1) := by decide +kernel
theorem dL_law_429 : decode cL_law 429 = .ok (.aload_n 0, 1) := by decide +kernel
theorem dL_law_430 : decode cL_law 430 = .ok (.iload_n 3, 1) := by decide +kernel
theorem dL_law_431 : decode cL_law 431 = .ok (.iconst 1, 1) := by decide +kernel
theorem dL_law_432 : decode cL_law 432 = .ok (.iadd, 1) := by decide +kernel
theorem dL_law_433 : decode cL_law 433 = .ok (.iaload, 1) := by decide +kernel
theorem dL_law_434 : decode cL_law 434 = .ok (.aload_n 0, 1) := by decide +kernel
theorem dL_law_435 : decode cL_law 435 = .ok (.iload_n 3, 1) := by decide +kernel
theorem dL_law_436 : decode cL_law 436 = .ok (.iconst 2, 1) := by decide +kernel
theorem dL_law_437 : decode cL_law 437 = .ok (.iadd, 1) := by decide +kernel
theorem dL_law_438 : decode cL_law 438 = .ok (.iaload, 1) := by decide +kernel
theorem dL_law_439 : decode cL_law 439 = .ok (.invokevirtual 59, 3) := by decide +kernel
theorem dL_law_442 : decode cL_law 442 = .ok (.pop2, 1) := by decide +kernel
theorem dL_law_443 : decode cL_law 443 = .ok (.goto 738, 3) := by decide +kernel
theorem dL_law_446 : decode cL_law 446 = .ok (.aload_n 1, 1) := by decide +kernel
theorem dL_law_447 : decode cL_law 447 = .ok (.aload_n 0, 1) := by decide +kernel
theorem dL_law_448 : decode cL_law 448 = .ok (.iload_n 3, 1) := by decide +kernel
theorem dL_law_449 : decode cL_law 449 = .ok (.iconst 1, 1) := by decide +kernel
theorem dL_law_450 : decode cL_law 450 = .ok (.iadd, 1) := by decide +kernel
theorem dL_law_451 : decode cL_law 451 = .ok (.iaload, 1) := by decide +kernel
theorem dL_law_452 : decode cL_law 452 = .ok (.aload_n 0, 1) := by decide +kernel
theorem dL_law_453 : decode cL_law 453 = .ok (.iload_n 3, 1) := by decide +kernel
theorem dL_law_454 : decode cL_law 454 = .ok (.iconst 2, 1) := by decide +kernel
theorem dL_law_455 : decode cL_law 455 = .ok (.iadd, 1) := by decide +kernel
theorem dL_law_456 : decode cL_law 456 = .ok (.iaload, 1) := by decide +kernel
theorem dL_law_457 : decode cL_law 457 = .ok (.invokevirtual 60, 3) := by decide +kernel
theorem dL_law_460 : decode cL_law 460 = .ok (.pop, 1) := by decide +kernel
theorem dL_law_461 : decode cL_law 461 = .ok (.aload_n 2, 1) := by decide +kernel
theorem dL_law_462 : decode cL_law 462 = .ok (.aload_n 0, 1) := by decide +kernel
theorem dL_law_463 : decode cL_law 463 = .ok (.iload_n 3, 1) := by decide +kernel
theorem dL_law_464 : decode cL_law 464 = .ok (.iconst 1, 1) := by decide +kernel
theorem dL_law_465 : decode cL_law 465 = .ok (.iadd, 1) := by decide +kernel
theorem dL_law_466 : decode cL_law 466 = .ok (.iaload, 1) := by decide +kernel
theorem dL_law_467 : decode cL_law 467 = .ok (.aload_n 0, 1) := by decide +kernel
theorem dL_law_468 : decode cL_law 468 = .ok (.iload_n 3, 1) := by decide +kernel
theorem dL_law_469 : decode cL_law 469 = .ok (.iconst 2, 1) := by decide +kernel
theorem dL_law_470 : decode cL_law 470 = .ok (.iadd, 1) := by decide +kernel
theorem dL_law_471 : decode cL_law 471 = .ok (.iaload, 1) := by decide +kernel
theorem dL_law_472 : decode cL_law 472 = .ok (.invokevirtual 63, 3) := by decide +kernel
theorem dL_law_475 : decode cL_law 475 = .ok (.pop, 1) := by decide +kernel
theorem dL_law_476 : decode cL_law 476 = .ok (.goto 705, 3) := by decide +kernel
theorem dL_law_479 : decode cL_law 479 = .ok (.aload_n 1, 1) := by decide +kernel
theorem dL_law_480 : decode cL_law 480 = .ok (.aload_n 0, 1) := by decide +kernel
theorem dL_law_481 : decode cL_law 481 = .ok (.iload_n 3, 1) := by decide +kernel
theorem dL_law_482 : decode cL_law 482 = .ok (.iconst 1, 1) := by decide +kernel
theorem dL_law_483 : decode cL_law 483 = .ok (.iadd, 1) := by decide +kernel
theorem dL_law_484 : decode cL_law 484 = .ok (.iaload, 1) := by decide +kernel
theorem dL_law_485 : decode cL_law 485 = .ok (.aload_n 0, 1) := by decide +kernel
theorem dL_law_486 : decode cL_law 486 = .ok (.iload_n 3, 1) := by decide +kernel
theorem dL_law_487 : decode cL_law 487 = .ok (.iconst 2, 1) := by decide +kernel
theorem dL_law_488 : decode cL_law 488 = .ok (.iadd, 1) := by decide +kernel
theorem dL_law_489 : decode cL_law 489 = .ok (.iaload, 1) := by decide +kernel
theorem dL_law_490 : decode cL_law 490 = .ok (.invokevirtual 64, 3) := by decide +kernel
theorem dL_law_493 : decode cL_law 493 = .ok (.pop2, 1) := by decide +kernel
theorem dL_law_494 : decode cL_law 494 = .ok (.aload_n 2, 1) := by decide +kernel
theorem dL_law_495 : decode cL_law 495 = .ok (.aload_n 0, 1) := by decide +kernel
theorem dL_law_496 : decode cL_law 496 = .ok (.iload_n 3, 1) := by decide +kernel
theorem dL_law_497 : decode cL_law 497 = .ok (.iconst 1, 1) := by decide +kernel
theorem dL_law_498 : decode cL_law 498 = .ok (.iadd, 1) := by decide +kernel
theorem dL_law_499 : decode cL_law 499 = .ok (.iaload, 1) := by decide +kernel
theorem dL_law_500 : decode cL_law 500 = .ok (.aload_n 0, 1) := by decide +kernel
theorem dL_law_501 : decode cL_law 501 = .ok (.iload_n 3, 1) := by decide +kernel
theorem dL_law_502 : decode cL_law 502 = .ok (.iconst 2, 1) := by decide +kernel
theorem dL_law_503 : decode cL_law 503 = .ok (.iadd, 1) := by decide +kernel
theorem dL_law_504 : decode cL_law 504 = .ok (.iaload, 1) := by decide +kernel
theorem dL_law_505 : decode cL_law 505 = .ok (.invokevirtual 67, 3) := by decide +kernel
theorem dL_law_508 : decode cL_law 508 = .ok (.pop2, 1) := by decide +kernel
theorem dL_law_509 : decode cL_law 509 = .ok (.goto 672, 3) := by decide +kernel
theorem dL_law_512 : decode cL_law 512 = .ok (.aload_n 1, 1) := by decide +kernel
theorem dL_law_513 : decode cL_law 513 = .ok (.aload_n 0, 1) := by decide +kernel
theorem dL_law_514 : decode cL_law 514 = .ok (.iload_n 3, 1) := by decide +kernel
theorem dL_law_515 : decode cL_law 515 = .ok (.iconst 1, 1) := by decide +kernel
theorem dL_law_516 : decode cL_law 516 = .ok (.iadd, 1) := by decide +kernel
theorem dL_law_517 : decode cL_law 517 = .ok (.iaload, 1) := by decide +kernel
theorem dL_law_518 : decode cL_law 518 = .ok (.aload_n 0, 1) := by decide +kernel
theorem dL_law_519 : decode cL_law 519 = .ok (.iload_n 3, 1) := by decide +kernel
theorem dL_law_520 : decode cL_law 520 = .ok (.iconst 2, 1) := by decide +kernel
theorem dL_law_521 : decode cL_law 521 = .ok (.iadd, 1) := by decide +kernel
theorem dL_law_522 : decode cL_law 522 = .ok (.iaload, 1) := by decide +kernel
theorem dL_law_523 : decode cL_law 523 = .ok (.i2l, 1) := by decide +kernel
theorem dL_law_524 : decode cL_law 524 = .ok (.bipush 32, 2) := by decide +kernel
theorem dL_law_526 : decode cL_law 526 = .ok (.lshl, 1) := by decide +kernel
theorem dL_law_527 : decode cL_law 527 = .ok (.aload_n 0, 1) := by decide +kernel
theorem dL_law_528 : decode cL_law 528 = .ok (.iload_n 3, 1) := by decide +kernel
theorem dL_law_529 : decode cL_law 529 = .ok (.iconst 3, 1) := by decide +kernel
theorem dL_law_530 : decode cL_law 530 = .ok (.iadd, 1) := by decide +kernel
theorem dL_law_531 : decode cL_law 531 = .ok (.iaload, 1) := by decide +kernel
theorem dL_law_532 : decode cL_law 532 = .ok (.i2l, 1) := by decide +kernel
theorem dL_law_533 : decode cL_law 533 = .ok (.ldc2_w 68, 3) := by decide +kernel
theorem dL_law_536 : decode cL_law 536 = .ok (.land, 1) := by decide +kernel
theorem dL_law_537 : decode cL_law 537 = .ok (.lor, 1) := by decide +kernel
theorem dL_law_538 : decode cL_law 538 = .ok (.invokevirtual 70, 3) := by decide +kernel
theorem dL_law_541 : decode cL_law 541 = .ok (.pop2, 1) := by decide +kernel
theorem dL_law_542 : decode cL_law 542 = .ok (.aload_n 2, 1) := by decide +kernel
theorem dL_law_543 : decode cL_law 543 = .ok (.aload_n 0, 1) := by decide +kernel
theorem dL_law_544 : decode cL_law 544 = .ok (.iload_n 3, 1) := by decide +kernel
theorem dL_law_545 : decode cL_law 545 = .ok (.iconst 1, 1) := by decide +kernel
theorem dL_law_546 : decode cL_law 546 = .ok (.iadd, 1) := by decide +kernel
theorem dL_law_547 : decode cL_law 547 = .ok (.iaload, 1) := by decide +kernel
theorem dL_law_548 : decode cL_law 548 = .ok (.aload_n 0, 1) := by decide +kernel
theorem dL_law_549 : decode cL_law 549 = .ok (.iload_n 3, 1) := by decide +kernel
theorem dL_law_550 : decode cL_law 550 = .ok (.iconst 2, 1) := by decide +kernel
theorem dL_law_551 : decode cL_law 551 = .ok (.iadd, 1) := by decide +kernel
theorem dL_law_552 : decode cL_law 552 = .ok (.iaload, 1) := by decide +kernel
theorem dL_law_553 : decode cL_law 553 = .ok (.i2l, 1) := by decide +kernel
theorem dL_law_554 : decode cL_law 554 = .ok (.bipush 32, 2) := by decide +kernel
theorem dL_law_556 : decode cL_law 556 = .ok (.lshl, 1) := by decide +kernel
theorem dL_law_557 : decode cL_law 557 = .ok (.aload_n 0, 1) := by decide +kernel
theorem dL_law_558 : decode cL_law 558 = .ok (.iload_n 3, 1) := by decide +kernel
theorem dL_law_559 : decode cL_law 559 = .ok (.iconst 3, 1) := by decide +kernel
theorem dL_law_560 : decode cL_law 560 = .ok (.iadd, 1) := by decide +kernel
theorem dL_law_561 : decode cL_law 561 = .ok (.iaload, 1) := by decide +kernel
theorem dL_law_562 : decode cL_law 562 = .ok (.i2l, 1) := by decide +kernel
theorem dL_law_563 : decode cL_law 563 = .ok (.ldc2_w 68, 3) := by decide +kernel
theorem dL_law_566 : decode cL_law 566 = .ok (.land, 1) := by decide +kernel
theorem dL_law_567 : decode cL_law 567 = .ok (.lor, 1) := by decide +kernel
theorem dL_law_568 : decode cL_law 568 = .ok (.invokevirtual 74, 3) := by decide +kernel
theorem dL_law_571 : decode cL_law 571 = .ok (.pop2, 1) := by decide +kernel
theorem dL_law_572 : decode cL_law 572 = .ok (.goto 609, 3) := by decide +kernel
theorem dL_law_575 : decode cL_law 575 = .ok (.aload_n 1, 1) := by decide +kernel
theorem dL_law_576 : decode cL_law 576 = .ok (.aload_n 0, 1) := by decide +kernel
theorem dL_law_577 : decode cL_law 577 = .ok (.iload_n 3, 1) := by decide +kernel
theorem dL_law_578 : decode cL_law 578 = .ok (.iconst 1, 1) := by decide +kernel
theorem dL_law_579 : decode cL_law 579 = .ok (.iadd, 1) := by decide +kernel
theorem dL_law_580 : decode cL_law 580 = .ok (.iaload, 1) := by decide +kernel
theorem dL_law_581 : decode cL_law 581 = .ok (.aload_n 0, 1) := by decide +kernel
theorem dL_law_582 : decode cL_law 582 = .ok (.iload_n 3, 1) := by decide +kernel
theorem dL_law_583 : decode cL_law 583 = .ok (.iconst 2, 1) := by decide +kernel
theorem dL_law_584 : decode cL_law 584 = .ok (.iadd, 1) := by decide +kernel
theorem dL_law_585 : decode cL_law 585 = .ok (.iaload, 1) := by decide +kernel
theorem dL_law_586 : decode cL_law 586 = .ok (.i2l, 1) := by decide +kernel
theorem dL_law_587 : decode cL_law 587 = .ok (.bipush 32, 2) := by decide +kernel
theorem dL_law_589 : decode cL_law 589 = .ok (.lshl, 1) := by decide +kernel
theorem dL_law_590 : decode cL_law 590 = .ok (.aload_n 0, 1) := by decide +kernel
theorem dL_law_591 : decode cL_law 591 = .ok (.iload_n 3, 1) := by decide +kernel
theorem dL_law_592 : decode cL_law 592 = .ok (.iconst 3, 1) := by decide +kernel
theorem dL_law_593 : decode cL_law 593 = .ok (.iadd, 1) := by decide +kernel
theorem dL_law_594 : decode cL_law 594 = .ok (.iaload, 1) := by decide +kernel
theorem dL_law_595 : decode cL_law 595 = .ok (.i2l, 1) := by decide +kernel
theorem dL_law_596 : decode cL_law 596 = .ok (.ldc2_w 68, 3) := by decide +kernel
theorem dL_law_599 : decode cL_law 599 = .ok (.land, 1) := by decide +kernel
theorem dL_law_600 : decode cL_law 600 = .ok (.lor, 1) := by decide +kernel
theorem dL_law_601 : decode cL_law 601 = .ok (.aload_n 0, 1) := by decide +kernel
theorem dL_law_602 : decode cL_law 602 = .ok (.iload_n 3, 1) := by decide +kernel
theorem dL_law_603 : decode cL_law 603 = .ok (.iconst 4, 1) := by decide +kernel
theorem dL_law_604 : decode cL_law 604 = .ok (.iadd, 1) := by decide +kernel
theorem dL_law_605 : decode cL_law 605 = .ok (.iaload, 1) := by decide +kernel
theorem dL_law_606 : decode cL_law 606 = .ok (.i2l, 1) := by decide +kernel
theorem dL_law_607 : decode cL_law 607 = .ok (.bipush 32, 2) := by decide +kernel
theorem dL_law_609 : decode cL_law 609 = .ok (.lshl, 1) := by decide +kernel
theorem dL_law_610 : decode cL_law 610 = .ok (.aload_n 0, 1) := by decide +kernel
theorem dL_law_611 : decode cL_law 611 = .ok (.iload_n 3, 1) := by decide +kernel
theorem dL_law_612 : decode cL_law 612 = .ok (.iconst 5, 1) := by decide +kernel
theorem dL_law_613 : decode cL_law 613 = .ok (.iadd, 1) := by decide +kernel
theorem dL_law_614 : decode cL_law 614 = .ok (.iaload, 1) := by decide +kernel
theorem dL_law_615 : decode cL_law 615 = .ok (.i2l, 1) := by decide +kernel
theorem dL_law_616 : decode cL_law 616 = .ok (.ldc2_w 68, 3) := by decide +kernel
theorem dL_law_619 : decode cL_law 619 = .ok (.land, 1) := by decide +kernel
theorem dL_law_620 : decode cL_law 620 = .ok (.lor, 1) := by decide +kernel
theorem dL_law_621 : decode cL_law 621 = .ok (.aload_n 0, 1) := by decide +kernel
theorem dL_law_622 : decode cL_law 622 = .ok (.iload_n 3, 1) := by decide +kernel
theorem dL_law_623 : decode cL_law 623 = .ok (.bipush 6, 2) := by decide +kernel
theorem dL_law_625 : decode cL_law 625 = .ok (.iadd, 1) := by decide +kernel
theorem dL_law_626 : decode cL_law 626 = .ok (.iaload, 1) := by decide +kernel
theorem dL_law_627 : decode cL_law 627 = .ok (.i2l, 1) := by decide +kernel
theorem dL_law_628 : decode cL_law 628 = .ok (.bipush 32, 2) := by decide +kernel
theorem dL_law_630 : decode cL_law 630 = .ok (.lshl, 1) := by decide +kernel
theorem dL_law_631 : decode cL_law 631 = .ok (.aload_n 0, 1) := by decide +kernel
theorem dL_law_632 : decode cL_law 632 = .ok (.iload_n 3, 1) := by decide +kernel
theorem dL_law_633 : decode cL_law 633 = .ok (.bipush 7, 2) := by decide +kernel
theorem dL_law_635 : decode cL_law 635 = .ok (.iadd, 1) := by decide +kernel
theorem dL_law_636 : decode cL_law 636 = .ok (.iaload, 1) := by decide +kernel
theorem dL_law_637 : decode cL_law 637 = .ok (.i2l, 1) := by decide +kernel
theorem dL_law_638 : decode cL_law 638 = .ok (.ldc2_w 68, 3) := by decide +kernel
theorem dL_law_641 : decode cL_law 641 = .ok (.land, 1) := by decide +kernel
theorem dL_law_642 : decode cL_law 642 = .ok (.lor, 1) := by decide +kernel
theorem dL_law_643 : decode cL_law 643 = .ok (.invokevirtual 75, 3) := by decide +kernel
theorem dL_law_646 : decode cL_law 646 = .ok (.pop2, 1) := by decide +kernel
theorem dL_law_647 : decode cL_law 647 = .ok (.aload_n 2, 1) := by decide +kernel
theorem dL_law_648 : decode cL_law 648 = .ok (.aload_n 0, 1) := by decide +kernel
theorem dL_law_649 : decode cL_law 649 = .ok (.iload_n 3, 1) := by decide +kernel
theorem dL_law_650 : decode cL_law 650 = .ok (.iconst 1, 1) := by decide +kernel
theorem dL_law_651 : decode cL_law 651 = .ok (.iadd, 1) := by decide +kernel
theorem dL_law_652 : decode cL_law 652 = .ok (.iaload, 1) := by decide +kernel
theorem dL_law_653 : decode cL_law 653 = .ok (.aload_n 0, 1) := by decide +kernel
theorem dL_law_654 : decode cL_law 654 = .ok (.iload_n 3, 1) := by decide +kernel
theorem dL_law_655 : decode cL_law 655 = .ok (.iconst 2, 1) := by decide +kernel
theorem dL_law_656 : decode cL_law 656 = .ok (.iadd, 1) := by decide +kernel
theorem dL_law_657 : decode cL_law 657 = .ok (.iaload, 1) := by decide +kernel
theorem dL_law_658 : decode cL_law 658 = .ok (.i2l, 1) := by decide +kernel
theorem dL_law_659 : decode cL_law 659 = .ok (.bipush 32, 2) := by decide +kernel
theorem dL_law_661 : decode cL_law 661 = .ok (.lshl, 1) := by decide +kernel
theorem dL_law_662 : decode cL_law 662 = .ok (.aload_n 0, 1) := by decide +kernel
theorem dL_law_663 : decode cL_law 663 = .ok (.iload_n 3, 1) := by decide +kernel
theorem dL_law_664 : decode cL_law 664 = .ok (.iconst 3, 1) := by decide +kernel
theorem dL_law_665 : decode cL_law 665 = .ok (.iadd, 1) := by decide +kernel
theorem dL_law_666 : decode cL_law 666 = .ok (.iaload, 1) := by decide +kernel
theorem dL_law_667 : decode cL_law 667 = .ok (.i2l, 1) := by decide +kernel
theorem dL_law_668 : decode cL_law 668 = .ok (.ldc2_w 68, 3) := by decide +kernel
theorem dL_law_671 : decode cL_law 671 = .ok (.land, 1) := by decide +kernel
theorem dL_law_672 : decode cL_law 672 = .ok (.lor, 1) := by decide +kernel
theorem dL_law_673 : decode cL_law 673 = .ok (.aload_n 0, 1) := by decide +kernel
theorem dL_law_674 : decode cL_law 674 = .ok (.iload_n 3, 1) := by decide +kernel
theorem dL_law_675 : decode cL_law 675 = .ok (.iconst 4, 1) := by decide +kernel
theorem dL_law_676 : decode cL_law 676 = .ok (.iadd, 1) := by decide +kernel
theorem dL_law_677 : decode cL_law 677 = .ok (.iaload, 1) := by decide +kernel
theorem dL_law_678 : decode cL_law 678 = .ok (.i2l, 1) := by decide +kernel
theorem dL_law_679 : decode cL_law 679 = .ok (.bipush 32, 2) := by decide +kernel
theorem dL_law_681 : decode cL_law 681 = .ok (.lshl, 1) := by decide +kernel
theorem dL_law_682 : decode cL_law 682 = .ok (.aload_n 0, 1) := by decide +kernel
theorem dL_law_683 : decode cL_law 683 = .ok (.iload_n 3, 1) := by decide +kernel
theorem dL_law_684 : decode cL_law 684 = .ok (.iconst 5, 1) := by decide +kernel
theorem dL_law_685 : decode cL_law 685 = .ok (.iadd, 1) := by decide +kernel
theorem dL_law_686 : decode cL_law 686 = .ok (.iaload, 1) := by decide +kernel
theorem dL_law_687 : decode cL_law 687 = .ok (.i2l, 1) := by decide +kernel
theorem dL_law_688 : decode cL_law 688 = .ok (.ldc2_w 68, 3) := by decide +kernel
theorem dL_law_691 : decode cL_law 691 = .ok (.land, 1) := by decide +kernel
theorem dL_law_692 : decode cL_law 692 = .ok (.lor, 1) := by decide +kernel
theorem dL_law_693 : decode cL_law 693 = .ok (.aload_n 0, 1) := by decide +kernel
theorem dL_law_694 : decode cL_law 694 = .ok (.iload_n 3, 1) := by decide +kernel
theorem dL_law_695 : decode cL_law 695 = .ok (.bipush 6, 2) := by decide +kernel
theorem dL_law_697 : decode cL_law 697 = .ok (.iadd, 1) := by decide +kernel
theorem dL_law_698 : decode cL_law 698 = .ok (.iaload, 1) := by decide +kernel
theorem dL_law_699 : decode cL_law 699 = .ok (.i2l, 1) := by decide +kernel
theorem dL_law_700 : decode cL_law 700 = .ok (.bipush 32, 2) := by decide +kernel
theorem dL_law_702 : decode cL_law 702 = .ok (.lshl, 1) := by decide +kernel
theorem dL_law_703 : decode cL_law 703 = .ok (.aload_n 0, 1) := by decide +kernel
theorem dL_law_704 : decode cL_law 704 = .ok (.iload_n 3, 1) := by decide +kernel
theorem dL_law_705 : decode cL_law 705 = .ok (.bipush 7, 2) := by decide +kernel
theorem dL_law_707 : decode cL_law 707 = .ok (.iadd, 1) := by decide +kernel
theorem dL_law_708 : decode cL_law 708 = .ok (.iaload, 1) := by decide +kernel
theorem dL_law_709 : decode cL_law 709 = .ok (.i2l, 1) := by decide +kernel
theorem dL_law_710 : decode cL_law 710 = .ok (.ldc2_w 68, 3) := by decide +kernel
theorem dL_law_713 : decode cL_law 713 = .ok (.land, 1) := by decide +kernel
theorem dL_law_714 : decode cL_law 714 = .ok (.lor, 1) := by decide +kernel
theorem dL_law_715 : decode cL_law 715 = .ok (.invokevirtual 79, 3) := by decide +kernel
theorem dL_law_718 : decode cL_law 718 = .ok (.pop2, 1) := by decide +kernel
theorem dL_law_719 : decode cL_law 719 = .ok (.goto 462, 3) := by decide +kernel
theorem dL_law_722 : decode cL_law 722 = .ok (.aload_n 1, 1) := by decide +kernel
theorem dL_law_723 : decode cL_law 723 = .ok (.aload_n 0, 1) := by decide +kernel
theorem dL_law_724 : decode cL_law 724 = .ok (.iload_n 3, 1) := by decide +kernel
theorem dL_law_725 : decode cL_law 725 = .ok (.iconst 1, 1) := by decide +kernel
theorem dL_law_726 : decode cL_law 726 = .ok (.iadd, 1) := by decide +kernel
theorem dL_law_727 : decode cL_law 727 = .ok (.iaload, 1) := by decide +kernel
theorem dL_law_728 : decode cL_law 728 = .ok (.aload_n 0, 1) := by decide +kernel
theorem dL_law_729 : decode cL_law 729 = .ok (.iload_n 3, 1) := by decide +kernel
theorem dL_law_730 : decode cL_law 730 = .ok (.iconst 2, 1) := by decide +kernel
theorem dL_law_731 : decode cL_law 731 = .ok (.iadd, 1) := by decide +kernel
theorem dL_law_732 : decode cL_law 732 = .ok (.iaload, 1) := by decide +kernel
theorem dL_law_733 : decode cL_law 733 = .ok (.i2l, 1) := by decide +kernel
theorem dL_law_734 : decode cL_law 734 = .ok (.bipush 32, 2) := by decide +kernel
theorem dL_law_736 : decode cL_law 736 = .ok (.lshl, 1) := by decide +kernel
theorem dL_law_737 : decode cL_law 737 = .ok (.aload_n 0, 1) := by decide +kernel
theorem dL_law_738 : decode cL_law 738 = .ok (.iload_n 3, 1) := by decide +kernel
theorem dL_law_739 : decode cL_law 739 = .ok (.iconst 3, 1) := by decide +kernel
theorem dL_law_740 : decode cL_law 740 = .ok (.iadd, 1) := by decide +kernel
theorem dL_law_741 : decode cL_law 741 = .ok (.iaload, 1) := by decide +kernel
theorem dL_law_742 : decode cL_law 742 = .ok (.i2l, 1) := by decide +kernel
theorem dL_law_743 : decode cL_law 743 = .ok (.ldc2_w 68, 3) := by decide +kernel
theorem dL_law_746 : decode cL_law 746 = .ok (.land, 1) := by decide +kernel
theorem dL_law_747 : decode cL_law 747 = .ok (.lor, 1) := by decide +kernel
theorem dL_law_748 : decode cL_law 748 = .ok (.invokevirtual 80, 3) := by decide +kernel
theorem dL_law_751 : decode cL_law 751 = .ok (.pop2, 1) := by decide +kernel
theorem dL_law_752 : decode cL_law 752 = .ok (.aload_n 2, 1) := by decide +kernel
theorem dL_law_753 : decode cL_law 753 = .ok (.aload_n 0, 1) := by decide +kernel
theorem dL_law_754 : decode cL_law 754 = .ok (.iload_n 3, 1) := by decide +kernel
theorem dL_law_755 : decode cL_law 755 = .ok (.iconst 1, 1) := by decide +kernel
theorem dL_law_756 : decode cL_law 756 = .ok (.iadd, 1) := by decide +kernel
theorem dL_law_757 : decode cL_law 757 = .ok (.iaload, 1) := by decide +kernel
theorem dL_law_758 : decode cL_law 758 = .ok (.aload_n 0, 1) := by decide +kernel
theorem dL_law_759 : decode cL_law 759 = .ok (.iload_n 3, 1) := by decide +kernel
theorem dL_law_760 : decode cL_law 760 = .ok (.iconst 2, 1) := by decide +kernel
theorem dL_law_761 : decode cL_law 761 = .ok (.iadd, 1) := by decide +kernel
theorem dL_law_762 : decode cL_law 762 = .ok (.iaload, 1) := by decide +kernel
theorem dL_law_763 : decode cL_law 763 = .ok (.i2l, 1) := by decide +kernel
theorem dL_law_764 : decode cL_law 764 = .ok (.bipush 32, 2) := by decide +kernel
theorem dL_law_766 : decode cL_law 766 = .ok (.lshl, 1) := by decide +kernel
theorem dL_law_767 : decode cL_law 767 = .ok (.aload_n 0, 1) := by decide +kernel
theorem dL_law_768 : decode cL_law 768 = .ok (.iload_n 3, 1) := by decide +kernel
theorem dL_law_769 : decode cL_law 769 = .ok (.iconst 3, 1) := by decide +kernel
theorem dL_law_770 : decode cL_law 770 = .ok (.iadd, 1) := by decide +kernel
theorem dL_law_771 : decode cL_law 771 = .ok (.iaload, 1) := by decide +kernel
theorem dL_law_772 : decode cL_law 772 = .ok (.i2l, 1) := by decide +kernel
theorem dL_law_773 : decode cL_law 773 = .ok (.ldc2_w 68, 3) := by decide +kernel
theorem dL_law_776 : decode cL_law 776 = .ok (.land, 1) := by decide +kernel
theorem dL_law_777 : decode cL_law 777 = .ok (.lor, 1) := by decide +kernel
theorem dL_law_778 : decode cL_law 778 = .ok (.invokevirtual 83, 3) := by decide +kernel
theorem dL_law_781 : decode cL_law 781 = .ok (.pop2, 1) := by decide +kernel
theorem dL_law_782 : decode cL_law 782 = .ok (.goto 399, 3) := by decide +kernel
theorem dL_law_785 : decode cL_law 785 = .ok (.aload_n 1, 1) := by decide +kernel
theorem dL_law_786 : decode cL_law 786 = .ok (.aload_n 0, 1) := by decide +kernel
theorem dL_law_787 : decode cL_law 787 = .ok (.iload_n 3, 1) := by decide +kernel
theorem dL_law_788 : decode cL_law 788 = .ok (.iconst 1, 1) := by decide +kernel
theorem dL_law_789 : decode cL_law 789 = .ok (.iadd, 1) := by decide +kernel
theorem dL_law_790 : decode cL_law 790 = .ok (.iaload, 1) := by decide +kernel
theorem dL_law_791 : decode cL_law 791 = .ok (.aload_n 0, 1) := by decide +kernel
theorem dL_law_792 : decode cL_law 792 = .ok (.iload_n 3, 1) := by decide +kernel
theorem dL_law_793 : decode cL_law 793 = .ok (.iconst 2, 1) := by decide +kernel
theorem dL_law_794 : decode cL_law 794 = .ok (.iadd, 1) := by decide +kernel
theorem dL_law_795 : decode cL_law 795 = .ok (.iaload, 1) := by decide +kernel
theorem dL_law_796 : decode cL_law 796 = .ok (.aload_n 0, 1) := by decide +kernel
theorem dL_law_797 : decode cL_law 797 = .ok (.iload_n 3, 1) := by decide +kernel
theorem dL_law_798 : decode cL_law 798 = .ok (.iconst 3, 1) := by decide +kernel
theorem dL_law_799 : decode cL_law 799 = .ok (.iadd, 1) := by decide +kernel
theorem dL_law_800 : decode cL_law 800 = .ok (.iaload, 1) := by decide +kernel
theorem dL_law_801 : decode cL_law 801 = .ok (.invokevirtual 84, 3) := by decide +kernel
theorem dL_law_804 : decode cL_law 804 = .ok (.pop, 1) := by decide +kernel
theorem dL_law_805 : decode cL_law 805 = .ok (.aload_n 2, 1) := by decide +kernel
theorem dL_law_806 : decode cL_law 806 = .ok (.aload_n 0, 1) := by decide +kernel
theorem dL_law_807 : decode cL_law 807 = .ok (.iload_n 3, 1) := by decide +kernel
theorem dL_law_808 : decode cL_law 808 = .ok (.iconst 1, 1) := by decide +kernel
theorem dL_law_809 : decode cL_law 809 = .ok (.iadd, 1) := by decide +kernel
theorem dL_law_810 : decode cL_law 810 = .ok (.iaload, 1) := by decide +kernel
theorem dL_law_811 : decode cL_law 811 = .ok (.aload_n 0, 1) := by decide +kernel
theorem dL_law_812 : decode cL_law 812 = .ok (.iload_n 3, 1) := by decide +kernel
theorem dL_law_813 : decode cL_law 813 = .ok (.iconst 2, 1) := by decide +kernel
theorem dL_law_814 : decode cL_law 814 = .ok (.iadd, 1) := by decide +kernel
theorem dL_law_815 : decode cL_law 815 = .ok (.iaload, 1) := by decide +kernel
theorem dL_law_816 : decode cL_law 816 = .ok (.aload_n 0, 1) := by decide +kernel
theorem dL_law_817 : decode cL_law 817 = .ok (.iload_n 3, 1) := by decide +kernel
theorem dL_law_818 : decode cL_law 818 = .ok (.iconst 3, 1) := by decide +kernel
theorem dL_law_819 : decode cL_law 819 = .ok (.iadd, 1) := by decide +kernel
theorem dL_law_820 : decode cL_law 820 = .ok (.iaload, 1) := by decide +kernel
theorem dL_law_821 : decode cL_law 821 = .ok (.invokevirtual 88, 3) := by decide +kernel
theorem dL_law_824 : decode cL_law 824 = .ok (.pop, 1) := by decide +kernel
theorem dL_law_825 : decode cL_law 825 = .ok (.goto 356, 3) := by decide +kernel
theorem dL_law_828 : decode cL_law 828 = .ok (.aload_n 1, 1) := by decide +kernel
theorem dL_law_829 : decode cL_law 829 = .ok (.aload_n 0, 1) := by decide +kernel
theorem dL_law_830 : decode cL_law 830 = .ok (.iload_n 3, 1) := by decide +kernel
theorem dL_law_831 : decode cL_law 831 = .ok (.iconst 1, 1) := by decide +kernel
theorem dL_law_832 : decode cL_law 832 = .ok (.iadd, 1) := by decide +kernel
theorem dL_law_833 : decode cL_law 833 = .ok (.iaload, 1) := by decide +kernel
theorem dL_law_834 : decode cL_law 834 = .ok (.aload_n 0, 1) := by decide +kernel
theorem dL_law_835 : decode cL_law 835 = .ok (.iload_n 3, 1) := by decide +kernel
theorem dL_law_836 : decode cL_law 836 = .ok (.iconst 2, 1) := by decide +kernel
theorem dL_law_837 : decode cL_law 837 = .ok (.iadd, 1) := by decide +kernel
theorem dL_law_838 : decode cL_law 838 = .ok (.iaload, 1) := by decide +kernel
theorem dL_law_839 : decode cL_law 839 = .ok (.invokevirtual 89, 3) := by decide +kernel
theorem dL_law_842 : decode cL_law 842 = .ok (.pop, 1) := by decide +kernel
theorem dL_law_843 : decode cL_law 843 = .ok (.aload_n 2, 1) := by decide +kernel
theorem dL_law_844 : decode cL_law 844 = .ok (.aload_n 0, 1) := by decide +kernel
theorem dL_law_845 : decode cL_law 845 = .ok (.iload_n 3, 1) := by decide +kernel
theorem dL_law_846 : decode cL_law 846 = .ok (.iconst 1, 1) := by decide +kernel
theorem dL_law_847 : decode cL_law 847 = .ok (.iadd, 1) := by decide +kernel
theorem dL_law_848 : decode cL_law 848 = .ok (.iaload, 1) := by decide +kernel
theorem dL_law_849 : decode cL_law 849 = .ok (.aload_n 0, 1) := by decide +kernel
theorem dL_law_850 : decode cL_law 850 = .ok (.iload_n 3, 1) := by decide +kernel
theorem dL_law_851 : decode cL_law 851 = .ok (.iconst 2, 1) := by decide +kernel
theorem dL_law_852 : decode cL_law 852 = .ok (.iadd, 1) := by decide +kernel
theorem dL_law_853 : decode cL_law 853 = .ok (.iaload, 1) := by decide +kernel
theorem dL_law_854 : decode cL_law 854 = .ok (.invokevirtual 92, 3) := by decide +kernel
theorem dL_law_857 : decode cL_law 857 = .ok (.pop, 1) := by decide +kernel
theorem dL_law_858 : decode cL_law 858 = .ok (.goto 323, 3) := by decide +kernel
theorem dL_law_861 : decode cL_law 861 = .ok (.aload_n 1, 1) := by decide +kernel
theorem dL_law_862 : decode cL_law 862 = .ok (.aload_n 0, 1) := by decide +kernel
theorem dL_law_863 : decode cL_law 863 = .ok (.iload_n 3, 1) := by decide +kernel
theorem dL_law_864 : decode cL_law 864 = .ok (.iconst 1, 1) := by decide +kernel
theorem dL_law_865 : decode cL_law 865 = .ok (.iadd, 1) := by decide +kernel
theorem dL_law_866 : decode cL_law 866 = .ok (.iaload, 1) := by decide +kernel
theorem dL_law_867 : decode cL_law 867 = .ok (.aload_n 0, 1) := by decide +kernel
theorem dL_law_868 : decode cL_law 868 = .ok (.iload_n 3, 1) := by decide +kernel
theorem dL_law_869 : decode cL_law 869 = .ok (.iconst 2, 1) := by decide +kernel
theorem dL_law_870 : decode cL_law 870 = .ok (.iadd, 1) := by decide +kernel
theorem dL_law_871 : decode cL_law 871 = .ok (.iaload, 1) := by decide +kernel
theorem dL_law_872 : decode cL_law 872 = .ok (.aload_n 0, 1) := by decide +kernel
theorem dL_law_873 : decode cL_law 873 = .ok (.iload_n 3, 1) := by decide +kernel
theorem dL_law_874 : decode cL_law 874 = .ok (.iconst 3, 1) := by decide +kernel
theorem dL_law_875 : decode cL_law 875 = .ok (.iadd, 1) := by decide +kernel
theorem dL_law_876 : decode cL_law 876 = .ok (.iaload, 1) := by decide +kernel
theorem dL_law_877 : decode cL_law 877 = .ok (.invokevirtual 93, 3) := by decide +kernel
theorem dL_law_880 : decode cL_law 880 = .ok (.pop, 1) := by decide +kernel
theorem dL_law_881 : decode cL_law 881 = .ok (.aload_n 2, 1) := by decide +kernel
theorem dL_law_882 : decode cL_law 882 = .ok (.aload_n 0, 1) := by decide +kernel
theorem dL_law_883 : decode cL_law 883 = .ok (.iload_n 3, 1) := by decide +kernel
theorem dL_law_884 : decode cL_law 884 = .ok (.iconst 1, 1) := by decide +kernel
theorem dL_law_885 : decode cL_law 885 = .ok (.iadd, 1) := by decide +kernel
theorem dL_law_886 : decode cL_law 886 = .ok (.iaload, 1) := by decide +kernel
theorem dL_law_887 : decode cL_law 887 = .ok (.aload_n 0, 1) := by decide +kernel
theorem dL_law_888 : decode cL_law 888 = .ok (.iload_n 3, 1) := by decide +kernel
theorem dL_law_889 : decode cL_law 889 = .ok (.iconst 2, 1) := by decide +kernel
theorem dL_law_890 : decode cL_law 890 = .ok (.iadd, 1) := by decide +kernel
theorem dL_law_891 : decode cL_law 891 = .ok (.iaload, 1) := by decide +kernel
theorem dL_law_892 : decode cL_law 892 = .ok (.aload_n 0, 1) := by decide +kernel
theorem dL_law_893 : decode cL_law 893 = .ok (.iload_n 3, 1) := by decide +kernel
theorem dL_law_894 : decode cL_law 894 = .ok (.iconst 3, 1) := by decide +kernel
theorem dL_law_895 : decode cL_law 895 = .ok (.iadd, 1) := by decide +kernel
theorem dL_law_896 : decode cL_law 896 = .ok (.iaload, 1) := by decide +kernel
theorem dL_law_897 : decode cL_law 897 = .ok (.invokevirtual 96, 3) := by decide +kernel
theorem dL_law_900 : decode cL_law 900 = .ok (.pop, 1) := by decide +kernel
theorem dL_law_901 : decode cL_law 901 = .ok (.goto 280, 3) := by decide +kernel
theorem dL_law_904 : decode cL_law 904 = .ok (.aload_n 1, 1) := by decide +kernel
theorem dL_law_905 : decode cL_law 905 = .ok (.aload_n 0, 1) := by decide +kernel
theorem dL_law_906 : decode cL_law 906 = .ok (.iload_n 3, 1) := by decide +kernel
theorem dL_law_907 : decode cL_law 907 = .ok (.iconst 1, 1) := by decide +kernel
theorem dL_law_908 : decode cL_law 908 = .ok (.iadd, 1) := by decide +kernel
theorem dL_law_909 : decode cL_law 909 = .ok (.iaload, 1) := by decide +kernel
theorem dL_law_910 : decode cL_law 910 = .ok (.invokevirtual 97, 3) := by decide +kernel
theorem dL_law_913 : decode cL_law 913 = .ok (.pop, 1) := by decide +kernel
theorem dL_law_914 : decode cL_law 914 = .ok (.aload_n 2, 1) := by decide +kernel
theorem dL_law_915 : decode cL_law 915 = .ok (.aload_n 0, 1) := by decide +kernel
theorem dL_law_916 : decode cL_law 916 = .ok (.iload_n 3, 1) := by decide +kernel
theorem dL_law_917 : decode cL_law 917 = .ok (.iconst 1, 1) := by decide +kernel
theorem dL_law_918 : decode cL_law 918 = .ok (.iadd, 1) := by decide +kernel
theorem dL_law_919 : decode cL_law 919 = .ok (.iaload, 1) := by decide +kernel
theorem dL_law_920 : decode cL_law 920 = .ok (.invokevirtual 100, 3) := by decide +kernel
theorem dL_law_923 : decode cL_law 923 = .ok (.pop, 1) := by decide +kernel
theorem dL_law_924 : decode cL_law 924 = .ok (.goto 257, 3) := by decide +kernel
theorem dL_law_927 : decode cL_law 927 = .ok (.aload_n 1, 1) := by decide +kernel
theorem dL_law_928 : decode cL_law 928 = .ok (.aload_n 0, 1) := by decide +kernel
theorem dL_law_929 : decode cL_law 929 = .ok (.iload_n 3, 1) := by decide +kernel
theorem dL_law_930 : decode cL_law 930 = .ok (.iconst 1, 1) := by decide +kernel
theorem dL_law_931 : decode cL_law 931 = .ok (.iadd, 1) := by decide +kernel
theorem dL_law_932 : decode cL_law 932 = .ok (.iaload, 1) := by decide +kernel
theorem dL_law_933 : decode cL_law 933 = .ok (.aload_n 0, 1) := by decide +kernel
theorem dL_law_934 : decode cL_law 934 = .ok (.iload_n 3, 1) := by decide +kernel
theorem dL_law_935 : decode cL_law 935 = .ok (.iconst 2, 1) := by decide +kernel
theorem dL_law_936 : decode cL_law 936 = .ok (.iadd, 1) := by decide +kernel
theorem dL_law_937 : decode cL_law 937 = .ok (.iaload, 1) := by decide +kernel
theorem dL_law_938 : decode cL_law 938 = .ok (.aload_n 0, 1) := by decide +kernel
theorem dL_law_939 : decode cL_law 939 = .ok (.iload_n 3, 1) := by decide +kernel
theorem dL_law_940 : decode cL_law 940 = .ok (.iconst 3, 1) := by decide +kernel
theorem dL_law_941 : decode cL_law 941 = .ok (.iadd, 1) := by decide +kernel
theorem dL_law_942 : decode cL_law 942 = .ok (.iaload, 1) := by decide +kernel
theorem dL_law_943 : decode cL_law 943 = .ok (.invokevirtual 101, 3) := by decide +kernel
theorem dL_law_946 : decode cL_law 946 = .ok (.pop, 1) := by decide +kernel
theorem dL_law_947 : decode cL_law 947 = .ok (.aload_n 2, 1) := by decide +kernel
theorem dL_law_948 : decode cL_law 948 = .ok (.aload_n 0, 1) := by decide +kernel
theorem dL_law_949 : decode cL_law 949 = .ok (.iload_n 3, 1) := by decide +kernel
theorem dL_law_950 : decode cL_law 950 = .ok (.iconst 1, 1) := by decide +kernel
theorem dL_law_951 : decode cL_law 951 = .ok (.iadd, 1) := by decide +kernel
theorem dL_law_952 : decode cL_law 952 = .ok (.iaload, 1) := by decide +kernel
theorem dL_law_953 : decode cL_law 953 = .ok (.aload_n 0, 1) := by decide +kernel
theorem dL_law_954 : decode cL_law 954 = .ok (.iload_n 3, 1) := by decide +kernel
theorem dL_law_955 : decode cL_law 955 = .ok (.iconst 2, 1) := by decide +kernel
theorem dL_law_956 : decode cL_law 956 = .ok (.iadd, 1) := by decide +kernel
theorem dL_law_957 : decode cL_law 957 = .ok (.iaload, 1) := by decide +kernel
theorem dL_law_958 : decode cL_law 958 = .ok (.aload_n 0, 1) := by decide +kernel
theorem dL_law_959 : decode cL_law 959 = .ok (.iload_n 3, 1) := by decide +kernel
theorem dL_law_960 : decode cL_law 960 = .ok (.iconst 3, 1) := by decide +kernel
theorem dL_law_961 : decode cL_law 961 = .ok (.iadd, 1) := by decide +kernel
theorem dL_law_962 : decode cL_law 962 = .ok (.iaload, 1) := by decide +kernel
theorem dL_law_963 : decode cL_law 963 = .ok (.invokevirtual 104, 3) := by decide +kernel
theorem dL_law_966 : decode cL_law 966 = .ok (.pop, 1) := by decide +kernel
theorem dL_law_967 : decode cL_law 967 = .ok (.goto 214, 3) := by decide +kernel
theorem dL_law_970 : decode cL_law 970 = .ok (.aload_n 1, 1) := by decide +kernel
theorem dL_law_971 : decode cL_law 971 = .ok (.aload_n 0, 1) := by decide +kernel
theorem dL_law_972 : decode cL_law 972 = .ok (.iload_n 3, 1) := by decide +kernel
theorem dL_law_973 : decode cL_law 973 = .ok (.iconst 1, 1) := by decide +kernel
theorem dL_law_974 : decode cL_law 974 = .ok (.iadd, 1) := by decide +kernel
theorem dL_law_975 : decode cL_law 975 = .ok (.iaload, 1) := by decide +kernel
theorem dL_law_976 : decode cL_law 976 = .ok (.aload_n 0, 1) := by decide +kernel
theorem dL_law_977 : decode cL_law 977 = .ok (.iload_n 3, 1) := by decide +kernel
theorem dL_law_978 : decode cL_law 978 = .ok (.iconst 2, 1) := by decide +kernel
theorem dL_law_979 : decode cL_law 979 = .ok (.iadd, 1) := by decide +kernel
theorem dL_law_980 : decode cL_law 980 = .ok (.iaload, 1) := by decide +kernel
theorem dL_law_981 : decode cL_law 981 = .ok (.invokevirtual 105, 3) := by decide +kernel
theorem dL_law_984 : decode cL_law 984 = .ok (.pop, 1) := by decide +kernel
theorem dL_law_985 : decode cL_law 985 = .ok (.aload_n 2, 1) := by decide +kernel
theorem dL_law_986 : decode cL_law 986 = .ok (.aload_n 0, 1) := by decide +kernel
theorem dL_law_987 : decode cL_law 987 = .ok (.iload_n 3, 1) := by decide +kernel
theorem dL_law_988 : decode cL_law 988 = .ok (.iconst 1, 1) := by decide +kernel
theorem dL_law_989 : decode cL_law 989 = .ok (.iadd, 1) := by decide +kernel
theorem dL_law_990 : decode cL_law 990 = .ok (.iaload, 1) := by decide +kernel
theorem dL_law_991 : decode cL_law 991 = .ok (.aload_n 0, 1) := by decide +kernel
theorem dL_law_992 : decode cL_law 992 = .ok (.iload_n 3, 1) := by decide +kernel
theorem dL_law_993 : decode cL_law 993 = .ok (.iconst 2, 1) := by decide +kernel
theorem dL_law_994 : decode cL_law 994 = .ok (.iadd, 1) := by decide +kernel
theorem dL_law_995 : decode cL_law 995 = .ok (.iaload, 1) := by decide +kernel
theorem dL_law_996 : decode cL_law 996 = .ok (.invokevirtual 109, 3) := by decide +kernel
theorem dL_law_999 : decode cL_law 999 = .ok (.pop, 1) := by decide +kernel
theorem dL_law_1000 : decode cL_law 1000 = .ok (.goto 181, 3) := by decide +kernel
theorem dL_law_1003 : decode cL_law 1003 = .ok (.aload_n 1, 1) := by decide +kernel
theorem dL_law_1004 : decode cL_law 1004 = .ok (.aload_n 0, 1) := by decide +kernel
theorem dL_law_1005 : decode cL_law 1005 = .ok (.iload_n 3, 1) := by decide +kernel
theorem dL_law_1006 : decode cL_law 1006 = .ok (.iconst 1, 1) := by decide +kernel
theorem dL_law_1007 : decode cL_law 1007 = .ok (.iadd, 1) := by decide +kernel
theorem dL_law_1008 : decode cL_law 1008 = .ok (.iaload, 1) := by decide +kernel
theorem dL_law_1009 : decode cL_law 1009 = .ok (.aload_n 0, 1) := by decide +kernel
theorem dL_law_1010 : decode cL_law 1010 = .ok (.iload_n 3, 1) := by decide +kernel
theorem dL_law_1011 : decode cL_law 1011 = .ok (.iconst 2, 1) := by decide +kernel
theorem dL_law_1012 : decode cL_law 1012 = .ok (.iadd, 1) := by decide +kernel
theorem dL_law_1013 : decode cL_law 1013 = .ok (.iaload, 1) := by decide +kernel
theorem dL_law_1014 : decode cL_law 1014 = .ok (.aload_n 0, 1) := by decide +kernel
theorem dL_law_1015 : decode cL_law 1015 = .ok (.iload_n 3, 1) := by decide +kernel
theorem dL_law_1016 : decode cL_law 1016 = .ok (.iconst 3, 1) := by decide +kernel
theorem dL_law_1017 : decode cL_law 1017 = .ok (.iadd, 1) := by decide +kernel
theorem dL_law_1018 : decode cL_law 1018 = .ok (.iaload, 1) := by decide +kernel
theorem dL_law_1019 : decode cL_law 1019 = .ok (.invokevirtual 110, 3) := by decide +kernel
theorem dL_law_1022 : decode cL_law 1022 = .ok (.pop, 1) := by decide +kernel
theorem dL_law_1023 : decode cL_law 1023 = .ok (.aload_n 2, 1) := by decide +kernel
theorem dL_law_1024 : decode cL_law 1024 = .ok (.aload_n 0, 1) := by decide +kernel
theorem dL_law_1025 : decode cL_law 1025 = .ok (.iload_n 3, 1) := by decide +kernel
theorem dL_law_1026 : decode cL_law 1026 = .ok (.iconst 1, 1) := by decide +kernel
theorem dL_law_1027 : decode cL_law 1027 = .ok (.iadd, 1) := by decide +kernel
theorem dL_law_1028 : decode cL_law 1028 = .ok (.iaload, 1) := by decide +kernel
theorem dL_law_1029 : decode cL_law 1029 = .ok (.aload_n 0, 1) := by decide +kernel
theorem dL_law_1030 : decode cL_law 1030 = .ok (.iload_n 3, 1) := by decide +kernel
theorem dL_law_1031 : decode cL_law 1031 = .ok (.iconst 2, 1) := by decide +kernel
theorem dL_law_1032 : decode cL_law 1032 = .ok (.iadd, 1) := by decide +kernel
theorem dL_law_1033 : decode cL_law 1033 = .ok (.iaload, 1) := by decide +kernel
theorem dL_law_1034 : decode cL_law 1034 = .ok (.aload_n 0, 1) := by decide +kernel
theorem dL_law_1035 : decode cL_law 1035 = .ok (.iload_n 3, 1) := by decide +kernel
theorem dL_law_1036 : decode cL_law 1036 = .ok (.iconst 3, 1) := by decide +kernel
theorem dL_law_1037 : decode cL_law 1037 = .ok (.iadd, 1) := by decide +kernel
theorem dL_law_1038 : decode cL_law 1038 = .ok (.iaload, 1) := by decide +kernel
theorem dL_law_1039 : decode cL_law 1039 = .ok (.invokevirtual 113, 3) := by decide +kernel
theorem dL_law_1042 : decode cL_law 1042 = .ok (.pop, 1) := by decide +kernel
theorem dL_law_1043 : decode cL_law 1043 = .ok (.goto 138, 3) := by decide +kernel
theorem dL_law_1046 : decode cL_law 1046 = .ok (.aload_n 1, 1) := by decide +kernel
theorem dL_law_1047 : decode cL_law 1047 = .ok (.aload_n 0, 1) := by decide +kernel
theorem dL_law_1048 : decode cL_law 1048 = .ok (.iload_n 3, 1) := by decide +kernel
theorem dL_law_1049 : decode cL_law 1049 = .ok (.iconst 1, 1) := by decide +kernel
theorem dL_law_1050 : decode cL_law 1050 = .ok (.iadd, 1) := by decide +kernel
theorem dL_law_1051 : decode cL_law 1051 = .ok (.iaload, 1) := by decide +kernel
theorem dL_law_1052 : decode cL_law 1052 = .ok (.invokevirtual 114, 3) := by decide +kernel
theorem dL_law_1055 : decode cL_law 1055 = .ok (.pop, 1) := by decide +kernel
theorem dL_law_1056 : decode cL_law 1056 = .ok (.aload_n 2, 1) := by decide +kernel
theorem dL_law_1057 : decode cL_law 1057 = .ok (.aload_n 0, 1) := by decide +kernel
theorem dL_law_1058 : decode cL_law 1058 = .ok (.iload_n 3, 1) := by decide +kernel
theorem dL_law_1059 : decode cL_law 1059 = .ok (.iconst 1, 1) := by decide +kernel
theorem dL_law_1060 : decode cL_law 1060 = .ok (.iadd, 1) := by decide +kernel
theorem dL_law_1061 : decode cL_law 1061 = .ok (.iaload, 1) := by decide +kernel
theorem dL_law_1062 : decode cL_law 1062 = .ok (.invokevirtual 117, 3) := by decide +kernel
theorem dL_law_1065 : decode cL_law 1065 = .ok (.pop, 1) := by decide +kernel
theorem dL_law_1066 : decode cL_law 1066 = .ok (.goto 115, 3) := by decide +kernel
theorem dL_law_1069 : decode cL_law 1069 = .ok (.aload_n 1, 1) := by decide +kernel
theorem dL_law_1070 : decode cL_law 1070 = .ok (.aload_n 0, 1) := by decide +kernel
theorem dL_law_1071 : decode cL_law 1071 = .ok (.iload_n 3, 1) := by decide +kernel
theorem dL_law_1072 : decode cL_law 1072 = .ok (.iconst 1, 1) := by decide +kernel
theorem dL_law_1073 : decode cL_law 1073 = .ok (.iadd, 1) := by decide +kernel
theorem dL_law_1074 : decode cL_law 1074 = .ok (.iaload, 1) := by decide +kernel
theorem dL_law_1075 : decode cL_law 1075 = .ok (.invokevirtual 118, 3) := by decide +kernel
theorem dL_law_1078 : decode cL_law 1078 = .ok (.pop, 1) := by decide +kernel
theorem dL_law_1079 : decode cL_law 1079 = .ok (.aload_n 2, 1) := by decide +kernel
theorem dL_law_1080 : decode cL_law 1080 = .ok (.aload_n 0, 1) := by decide +kernel
theorem dL_law_1081 : decode cL_law 1081 = .ok (.iload_n 3, 1) := by decide +kernel
theorem dL_law_1082 : decode cL_law 1082 = .ok (.iconst 1, 1) := by decide +kernel
theorem dL_law_1083 : decode cL_law 1083 = .ok (.iadd, 1) := by decide +kernel
theorem dL_law_1084 : decode cL_law 1084 = .ok (.iaload, 1) := by decide +kernel
theorem dL_law_1085 : decode cL_law 1085 = .ok (.invokevirtual 121, 3) := by decide +kernel
theorem dL_law_1088 : decode cL_law 1088 = .ok (.pop, 1) := by decide +kernel
theorem dL_law_1089 : decode cL_law 1089 = .ok (.goto 92, 3) := by decide +kernel
theorem dL_law_1092 : decode cL_law 1092 = .ok (.aload_n 1, 1) := by decide +kernel
theorem dL_law_1093 : decode cL_law 1093 = .ok (.aload_n 0, 1) := by decide +kernel
theorem dL_law_1094 : decode cL_law 1094 = .ok (.iload_n 3, 1) := by decide +kernel
theorem dL_law_1095 : decode cL_law 1095 = .ok (.iconst 1, 1) := by decide +kernel
theorem dL_law_1096 : decode cL_law 1096 = .ok (.iadd, 1) := by decide +kernel
theorem dL_law_1097 : decode cL_law 1097 = .ok (.iaload, 1) := by decide +kernel
theorem dL_law_1098 : decode cL_law 1098 = .ok (.aload_n 0, 1) := by decide +kernel
theorem dL_law_1099 : decode cL_law 1099 = .ok (.iload_n 3, 1) := by decide +kernel
theorem dL_law_1100 : decode cL_law 1100 = .ok (.iconst 2, 1) := by decide +kernel
theorem dL_law_1101 : decode cL_law 1101 = .ok (.iadd, 1) := by decide +kernel
theorem dL_law_1102 : decode cL_law 1102 = .ok (.iaload, 1) := by decide +kernel
theorem dL_law_1103 : decode cL_law 1103 = .ok (.aload_n 0, 1) := by decide +kernel
theorem dL_law_1104 : decode cL_law 1104 = .ok (.iload_n 3, 1) := by decide +kernel
theorem dL_law_1105 : decode cL_law 1105 = .ok (.iconst 3, 1) := by decide +kernel
theorem dL_law_1106 : decode cL_law 1106 = .ok (.iadd, 1) := by decide +kernel
theorem dL_law_1107 : decode cL_law 1107 = .ok (.iaload, 1) := by decide +kernel
theorem dL_law_1108 : decode cL_law 1108 = .ok (.invokevirtual 122, 3) := by decide +kernel
theorem dL_law_1111 : decode cL_law 1111 = .ok (.pop, 1) := by decide +kernel
theorem dL_law_1112 : decode cL_law 1112 = .ok (.aload_n 2, 1) := by decide +kernel
theorem dL_law_1113 : decode cL_law 1113 = .ok (.aload_n 0, 1) := by decide +kernel
theorem dL_law_1114 : decode cL_law 1114 = .ok (.iload_n 3, 1) := by decide +kernel
theorem dL_law_1115 : decode cL_law 1115 = .ok (.iconst 1, 1) := by decide +kernel
theorem dL_law_1116 : decode cL_law 1116 = .ok (.iadd, 1) := by decide +kernel
theorem dL_law_1117 : decode cL_law 1117 = .ok (.iaload, 1) := by decide +kernel
theorem dL_law_1118 : decode cL_law 1118 = .ok (.aload_n 0, 1) := by decide +kernel
theorem dL_law_1119 : decode cL_law 1119 = .ok (.iload_n 3, 1) := by decide +kernel
theorem dL_law_1120 : decode cL_law 1120 = .ok (.iconst 2, 1) := by decide +kernel
theorem dL_law_1121 : decode cL_law 1121 = .ok (.iadd, 1) := by decide +kernel
theorem dL_law_1122 : decode cL_law 1122 = .ok (.iaload, 1) := by decide +kernel
theorem dL_law_1123 : decode cL_law 1123 = .ok (.aload_n 0, 1) := by decide +kernel
theorem dL_law_1124 : decode cL_law 1124 = .ok (.iload_n 3, 1) := by decide +kernel
theorem dL_law_1125 : decode cL_law 1125 = .ok (.iconst 3, 1) := by decide +kernel
theorem dL_law_1126 : decode cL_law 1126 = .ok (.iadd, 1) := by decide +kernel
theorem dL_law_1127 : decode cL_law 1127 = .ok (.iaload, 1) := by decide +kernel
theorem dL_law_1128 : decode cL_law 1128 = .ok (.invokevirtual 125, 3) := by decide +kernel
theorem dL_law_1131 : decode cL_law 1131 = .ok (.pop, 1) := by decide +kernel
theorem dL_law_1132 : decode cL_law 1132 = .ok (.goto 49, 3) := by decide +kernel
theorem dL_law_1135 : decode cL_law 1135 = .ok (.aload_n 1, 1) := by decide +kernel
theorem dL_law_1136 : decode cL_law 1136 = .ok (.aload_n 0, 1) := by decide +kernel
theorem dL_law_1137 : decode cL_law 1137 = .ok (.iload_n 3, 1) := by decide +kernel
theorem dL_law_1138 : decode cL_law 1138 = .ok (.iconst 1, 1) := by decide +kernel
theorem dL_law_1139 : decode cL_law 1139 = .ok (.iadd, 1) := by decide +kernel
theorem dL_law_1140 : decode cL_law 1140 = .ok (.iaload, 1) := by decide +kernel
theorem dL_law_1141 : decode cL_law 1141 = .ok (.invokevirtual 126, 3) := by decide +kernel
theorem dL_law_1144 : decode cL_law 1144 = .ok (.pop, 1) := by decide +kernel
theorem dL_law_1145 : decode cL_law 1145 = .ok (.aload_n 2, 1) := by decide +kernel
theorem dL_law_1146 : decode cL_law 1146 = .ok (.aload_n 0, 1) := by decide +kernel
theorem dL_law_1147 : decode cL_law 1147 = .ok (.iload_n 3, 1) := by decide +kernel
theorem dL_law_1148 : decode cL_law 1148 = .ok (.iconst 1, 1) := by decide +kernel
theorem dL_law_1149 : decode cL_law 1149 = .ok (.iadd, 1) := by decide +kernel
theorem dL_law_1150 : decode cL_law 1150 = .ok (.iaload, 1) := by decide +kernel
theorem dL_law_1151 : decode cL_law 1151 = .ok (.invokevirtual 129, 3) := by decide +kernel
theorem dL_law_1154 : decode cL_law 1154 = .ok (.pop, 1) := by decide +kernel
theorem dL_law_1155 : decode cL_law 1155 = .ok (.goto 26, 3) := by decide +kernel
theorem dL_law_1158 : decode cL_law 1158 = .ok (.aload_n 1, 1) := by decide +kernel
theorem dL_law_1159 : decode cL_law 1159 = .ok (.aload_n 0, 1) := by decide +kernel
theorem dL_law_1160 : decode cL_law 1160 = .ok (.iload_n 3, 1) := by decide +kernel
theorem dL_law_1161 : decode cL_law 1161 = .ok (.iconst 1, 1) := by decide +kernel
theorem dL_law_1162 : decode cL_law 1162 = .ok (.iadd, 1) := by decide +kernel
theorem dL_law_1163 : decode cL_law 1163 = .ok (.iaload, 1) := by decide +kernel
theorem dL_law_1164 : decode cL_law 1164 = .ok (.invokevirtual 130, 3) := by decide +kernel
theorem dL_law_1167 : decode cL_law 1167 = .ok (.aload_n 2, 1) := by decide +kernel
theorem dL_law_1168 : decode cL_law 1168 = .ok (.aload_n 0, 1) := by decide +kernel
theorem dL_law_1169 : decode cL_law 1169 = .ok (.iload_n 3, 1) := by decide +kernel
theorem dL_law_1170 : decode cL_law 1170 = .ok (.iconst 1, 1) := by decide +kernel
theorem dL_law_1171 : decode cL_law 1171 = .ok (.iadd, 1) := by decide +kernel
theorem dL_law_1172 : decode cL_law 1172 = .ok (.iaload, 1) := by decide +kernel
theorem dL_law_1173 : decode cL_law 1173 = .ok (.invokevirtual 133, 3) := by decide +kernel
theorem dL_law_1176 : decode cL_law 1176 = .ok (.if_icmp .eq 5, 3) := by decide +kernel
theorem dL_law_1179 : decode cL_law 1179 = .ok (.iconst 0, 1) := by decide +kernel
theorem dL_law_1180 : decode cL_law 1180 = .ok (.ireturn, 1) := by decide +kernel
theorem dL_law_1181 : decode cL_law 1181 = .ok (.iinc 3 8, 3) := by decide +kernel
theorem dL_law_1184 : decode cL_law 1184 = .ok (.goto (-1166), 3) := by decide +kernel
theorem dL_law_1187 : decode cL_law 1187 = .ok (.iconst 1, 1) := by decide +kernel
theorem dL_law_1188 : decode cL_law 1188 = .ok (.ireturn, 1) := by decide +kernel
def f_L_law_u1181 (Q : Int → Int) (K18 : ml_St → Int → Prop) (L : Int) (σ : ml_St) (x3 : Int) : Prop :=
I32 (x3 + 8) ∧
∀ y1 : Int, y1 = x3 + 8 →
K18 σ y1
def f_L_law_u18 (Q : Int → Int) (K1179 : ml_St → Prop) (K1187 : ml_St → Prop) (L : Int) : Nat → ml_St → Int → Prop
| 0, _, _ => False
| N + 1, σ, x3 =>
I32 (L - 8) ∧
((L - 8) < x3 →
K1187 σ) ∧
(¬ ((L - 8) < x3) →
(0 : Int) ≤ x3 ∧ (x3 : Int) < L ∧
((b_and (Q x3) 31) = 0 →
I32 (x3 + 1) ∧
(0 : Int) ≤ (x3 + 1) ∧ ((x3 + 1) : Int) < L ∧
f_X11_rails σ (Q (x3 + 1)) (fun r7 σ7 => ∀ _ : ml_B r7,
I32 (x3 + 1) ∧
(0 : Int) ≤ (x3 + 1) ∧ ((x3 + 1) : Int) < L ∧
f_X12_rails σ7 (Q (x3 + 1)) (fun r10 σ10 => ∀ _ : ml_B r10,
f_L_law_u1181 Q (f_L_law_u18 Q K1179 K1187 L N) L σ10 x3))) ∧
((b_and (Q x3) 31) = 1 →
I32 (x3 + 1) ∧
(0 : Int) ≤ (x3 + 1) ∧ ((x3 + 1) : Int) < L ∧
I32 (x3 + 2) ∧
(0 : Int) ≤ (x3 + 2) ∧ ((x3 + 2) : Int) < L ∧
I32 (x3 + 3) ∧
(0 : Int) ≤ (x3 + 3) ∧ ((x3 + 3) : Int) < L ∧
I32 (x3 + 4) ∧
(0 : Int) ≤ (x3 + 4) ∧ ((x3 + 4) : Int) < L ∧
I32 (x3 + 5) ∧
(0 : Int) ≤ (x3 + 5) ∧ ((x3 + 5) : Int) < L ∧
f_X11_feed σ (Q (x3 + 1)) (Q (x3 + 2)) (Q (x3 + 3)) (Q (x3 + 4)) (Q (x3 + 5)) (fun r21 σ21 => ∀ _ : I32 r21,
I32 (x3 + 1) ∧
(0 : Int) ≤ (x3 + 1) ∧ ((x3 + 1) : Int) < L ∧
I32 (x3 + 2) ∧
(0 : Int) ≤ (x3 + 2) ∧ ((x3 + 2) : Int) < L ∧
I32 (x3 + 3) ∧
(0 : Int) ≤ (x3 + 3) ∧ ((x3 + 3) : Int) < L ∧
I32 (x3 + 4) ∧
(0 : Int) ≤ (x3 + 4) ∧ ((x3 + 4) : Int) < L ∧
I32 (x3 + 5) ∧
(0 : Int) ≤ (x3 + 5) ∧ ((x3 + 5) : Int) < L ∧
f_X12_feed σ21 (Q (x3 + 1)) (Q (x3 + 2)) (Q (x3 + 3)) (Q (x3 + 4)) (Q (x3 + 5)) (fun r32 σ32 => ∀ _ : I32 r32,
f_L_law_u1181 Q (f_L_law_u18 Q K1179 K1187 L N) L σ32 x3))) ∧
((b_and (Q x3) 31) = 2 →
I32 (x3 + 1) ∧
(0 : Int) ≤ (x3 + 1) ∧ ((x3 + 1) : Int) < L ∧
f_X11_word σ (Q (x3 + 1)) (fun r35 σ35 => ∀ _ : I32 r35,
I32 (x3 + 1) ∧
(0 : Int) ≤ (x3 + 1) ∧ ((x3 + 1) : Int) < L ∧
f_X12_word σ35 (Q (x3 + 1)) (fun r38 σ38 => ∀ _ : I32 r38,
f_L_law_u1181 Q (f_L_law_u18 Q K1179 K1187 L N) L σ38 x3))) ∧
((b_and (Q x3) 31) = 3 →
I32 (x3 + 1) ∧
(0 : Int) ≤ (x3 + 1) ∧ ((x3 + 1) : Int) < L ∧
I32 (x3 + 2) ∧
(0 : Int) ≤ (x3 + 2) ∧ ((x3 + 2) : Int) < L ∧
f_X11_change σ (Q (x3 + 1)) (Q (x3 + 2)) (fun r43 σ43 => ∀ _ : I32 r43,
I32 (x3 + 1) ∧
(0 : Int) ≤ (x3 + 1) ∧ ((x3 + 1) : Int) < L ∧
I32 (x3 + 2) ∧
(0 : Int) ≤ (x3 + 2) ∧ ((x3 + 2) : Int) < L ∧
f_X12_change σ43 (Q (x3 + 1)) (Q (x3 + 2)) (fun r48 σ48 => ∀ _ : I32 r48,
f_L_law_u1181 Q (f_L_law_u18 Q K1179 K1187 L N) L σ48 x3))) ∧
((b_and (Q x3) 31) = 4 →
f_X11_round σ (fun r49 σ49 => ∀ _ : ml_B r49,
f_X12_round σ49 (fun r50 σ50 => ∀ _ : ml_B r50,
f_L_law_u1181 Q (f_L_law_u18 Q K1179 K1187 L N) L σ50 x3))) ∧
((b_and (Q x3) 31) = 5 →
f_X11_caps σ (fun r51 σ51 => ∀ _ : ml_B r51,
f_X12_caps σ51 (fun r52 σ52 => ∀ _ : ml_B r52,
f_L_law_u1181 Q (f_L_law_u18 Q K1179 K1187 L N) L σ52 x3))) ∧
((b_and (Q x3) 31) = 6 →
I32 (x3 + 1) ∧
(0 : Int) ≤ (x3 + 1) ∧ ((x3 + 1) : Int) < L ∧
f_X11_signs σ (Q (x3 + 1)) (fun r55 σ55 => ∀ _ : I64 r55,
I32 (x3 + 1) ∧
(0 : Int) ≤ (x3 + 1) ∧ ((x3 + 1) : Int) < L ∧
f_X12_signs σ55 (Q (x3 + 1)) (fun r58 σ58 => ∀ _ : I64 r58,
f_L_law_u1181 Q (f_L_law_u18 Q K1179 K1187 L N) L σ58 x3))) ∧
((b_and (Q x3) 31) = 7 →
I32 (x3 + 1) ∧
(0 : Int) ≤ (x3 + 1) ∧ ((x3 + 1) : Int) < L ∧
I32 (x3 + 2) ∧
(0 : Int) ≤ (x3 + 2) ∧ ((x3 + 2) : Int) < L ∧
f_X11_joined σ (Q (x3 + 1)) (Q (x3 + 2)) (fun r63 σ63 => ∀ _ : I32 r63,
I32 (x3 + 1) ∧
(0 : Int) ≤ (x3 + 1) ∧ ((x3 + 1) : Int) < L ∧
I32 (x3 + 2) ∧
(0 : Int) ≤ (x3 + 2) ∧ ((x3 + 2) : Int) < L ∧
f_X12_joined σ63 (Q (x3 + 1)) (Q (x3 + 2)) (fun r68 σ68 => ∀ _ : I32 r68,
f_L_law_u1181 Q (f_L_law_u18 Q K1179 K1187 L N) L σ68 x3))) ∧
((b_and (Q x3) 31) = 8 →
I32 (x3 + 1) ∧
(0 : Int) ≤ (x3 + 1) ∧ ((x3 + 1) : Int) < L ∧
I32 (x3 + 2) ∧
(0 : Int) ≤ (x3 + 2) ∧ ((x3 + 2) : Int) < L ∧
f_X11_length σ (Q (x3 + 1)) (Q (x3 + 2)) (fun r73 σ73 => ∀ _ : I64 r73,
I32 (x3 + 1) ∧
(0 : Int) ≤ (x3 + 1) ∧ ((x3 + 1) : Int) < L ∧
I32 (x3 + 2) ∧
(0 : Int) ≤ (x3 + 2) ∧ ((x3 + 2) : Int) < L ∧
f_X12_length σ73 (Q (x3 + 1)) (Q (x3 + 2)) (fun r78 σ78 => ∀ _ : I64 r78,
f_L_law_u1181 Q (f_L_law_u18 Q K1179 K1187 L N) L σ78 x3))) ∧
((b_and (Q x3) 31) = 9 →
I32 (x3 + 1) ∧
(0 : Int) ≤ (x3 + 1) ∧ ((x3 + 1) : Int) < L ∧
I32 (x3 + 2) ∧
(0 : Int) ≤ (x3 + 2) ∧ ((x3 + 2) : Int) < L ∧
f_X11_loops σ (Q (x3 + 1)) (Q (x3 + 2)) (fun r83 σ83 => ∀ _ : I64 r83,
I32 (x3 + 1) ∧
(0 : Int) ≤ (x3 + 1) ∧ ((x3 + 1) : Int) < L ∧
I32 (x3 + 2) ∧
(0 : Int) ≤ (x3 + 2) ∧ ((x3 + 2) : Int) < L ∧
f_X12_loops σ83 (Q (x3 + 1)) (Q (x3 + 2)) (fun r88 σ88 => ∀ _ : I64 r88,
f_L_law_u1181 Q (f_L_law_u18 Q K1179 K1187 L N) L σ88 x3))) ∧
((b_and (Q x3) 31) = 10 →
I32 (x3 + 1) ∧
(0 : Int) ≤ (x3 + 1) ∧ ((x3 + 1) : Int) < L ∧
I32 (x3 + 2) ∧
(0 : Int) ≤ (x3 + 2) ∧ ((x3 + 2) : Int) < L ∧
f_X11_power σ (Q (x3 + 1)) (Q (x3 + 2)) (fun r93 σ93 => ∀ _ : I32 r93,
I32 (x3 + 1) ∧
(0 : Int) ≤ (x3 + 1) ∧ ((x3 + 1) : Int) < L ∧
I32 (x3 + 2) ∧
(0 : Int) ≤ (x3 + 2) ∧ ((x3 + 2) : Int) < L ∧
f_X12_power σ93 (Q (x3 + 1)) (Q (x3 + 2)) (fun r98 σ98 => ∀ _ : I32 r98,
f_L_law_u1181 Q (f_L_law_u18 Q K1179 K1187 L N) L σ98 x3))) ∧
((b_and (Q x3) 31) = 11 →
I32 (x3 + 1) ∧
(0 : Int) ≤ (x3 + 1) ∧ ((x3 + 1) : Int) < L ∧
I32 (x3 + 2) ∧
(0 : Int) ≤ (x3 + 2) ∧ ((x3 + 2) : Int) < L ∧
f_X11_rule σ (Q (x3 + 1)) (Q (x3 + 2)) (fun r103 σ103 => ∀ _ : I64 r103,
I32 (x3 + 1) ∧
(0 : Int) ≤ (x3 + 1) ∧ ((x3 + 1) : Int) < L ∧
I32 (x3 + 2) ∧
(0 : Int) ≤ (x3 + 2) ∧ ((x3 + 2) : Int) < L ∧
f_X12_rule σ103 (Q (x3 + 1)) (Q (x3 + 2)) (fun r108 σ108 => ∀ _ : I64 r108,
f_L_law_u1181 Q (f_L_law_u18 Q K1179 K1187 L N) L σ108 x3))) ∧
((b_and (Q x3) 31) = 12 →
I32 (x3 + 1) ∧
(0 : Int) ≤ (x3 + 1) ∧ ((x3 + 1) : Int) < L ∧
I32 (x3 + 2) ∧
(0 : Int) ≤ (x3 + 2) ∧ ((x3 + 2) : Int) < L ∧
I32 (x3 + 3) ∧
(0 : Int) ≤ (x3 + 3) ∧ ((x3 + 3) : Int) < L ∧
f_X11_left σ (Q (x3 + 1)) (b_lor (b_lshl (Q (x3 + 2)) 32) (b_land (Q (x3 + 3)) 4294967295)) (fun r115 σ115 => ∀ _ : I64 r115,
I32 (x3 + 1) ∧
(0 : Int) ≤ (x3 + 1) ∧ ((x3 + 1) : Int) < L ∧
I32 (x3 + 2) ∧
(0 : Int) ≤ (x3 + 2) ∧ ((x3 + 2) : Int) < L ∧
I32 (x3 + 3) ∧
(0 : Int) ≤ (x3 + 3) ∧ ((x3 + 3) : Int) < L ∧
f_X12_left σ115 (Q (x3 + 1)) (b_lor (b_lshl (Q (x3 + 2)) 32) (b_land (Q (x3 + 3)) 4294967295)) (fun r122 σ122 => ∀ _ : I64 r122,
f_L_law_u1181 Q (f_L_law_u18 Q K1179 K1187 L N) L σ122 x3))) ∧
((b_and (Q x3) 31) = 13 →
I32 (x3 + 1) ∧
(0 : Int) ≤ (x3 + 1) ∧ ((x3 + 1) : Int) < L ∧
I32 (x3 + 2) ∧
(0 : Int) ≤ (x3 + 2) ∧ ((x3 + 2) : Int) < L ∧
I32 (x3 + 3) ∧
(0 : Int) ≤ (x3 + 3) ∧ ((x3 + 3) : Int) < L ∧
I32 (x3 + 4) ∧
(0 : Int) ≤ (x3 + 4) ∧ ((x3 + 4) : Int) < L ∧
I32 (x3 + 5) ∧
(0 : Int) ≤ (x3 + 5) ∧ ((x3 + 5) : Int) < L ∧
I32 (x3 + 6) ∧
(0 : Int) ≤ (x3 + 6) ∧ ((x3 + 6) : Int) < L ∧
I32 (x3 + 7) ∧
(0 : Int) ≤ (x3 + 7) ∧ ((x3 + 7) : Int) < L ∧
f_X11_those σ (Q (x3 + 1)) (b_lor (b_lshl (Q (x3 + 2)) 32) (b_land (Q (x3 + 3)) 4294967295)) (b_lor (b_lshl (Q (x3 + 4)) 32) (b_land (Q (x3 + 5)) 4294967295)) (b_lor (b_lshl (Q (x3 + 6)) 32) (b_land (Q (x3 + 7)) 4294967295)) (fun r137 σ137 => ∀ _ : I64 r137,
I32 (x3 + 1) ∧
(0 : Int) ≤ (x3 + 1) ∧ ((x3 + 1) : Int) < L ∧
I32 (x3 + 2) ∧
(0 : Int) ≤ (x3 + 2) ∧ ((x3 + 2) : Int) < L ∧
I32 (x3 + 3) ∧
(0 : Int) ≤ (x3 + 3) ∧ ((x3 + 3) : Int) < L ∧
I32 (x3 + 4) ∧
(0 : Int) ≤ (x3 + 4) ∧ ((x3 + 4) : Int) < L ∧
I32 (x3 + 5) ∧
(0 : Int) ≤ (x3 + 5) ∧ ((x3 + 5) : Int) < L ∧
I32 (x3 + 6) ∧
(0 : Int) ≤ (x3 + 6) ∧ ((x3 + 6) : Int) < L ∧
I32 (x3 + 7) ∧
(0 : Int) ≤ (x3 + 7) ∧ ((x3 + 7) : Int) < L ∧
f_X12_those σ137 (Q (x3 + 1)) (b_lor (b_lshl (Q (x3 + 2)) 32) (b_land (Q (x3 + 3)) 4294967295)) (b_lor (b_lshl (Q (x3 + 4)) 32) (b_land (Q (x3 + 5)) 4294967295)) (b_lor (b_lshl (Q (x3 + 6)) 32) (b_land (Q (x3 + 7)) 4294967295)) (fun r152 σ152 => ∀ _ : I64 r152,
f_L_law_u1181 Q (f_L_law_u18 Q K1179 K1187 L N) L σ152 x3))) ∧
((b_and (Q x3) 31) = 14 →
I32 (x3 + 1) ∧
(0 : Int) ≤ (x3 + 1) ∧ ((x3 + 1) : Int) < L ∧
I32 (x3 + 2) ∧
(0 : Int) ≤ (x3 + 2) ∧ ((x3 + 2) : Int) < L ∧
I32 (x3 + 3) ∧
(0 : Int) ≤ (x3 + 3) ∧ ((x3 + 3) : Int) < L ∧
f_X11_first σ (Q (x3 + 1)) (b_lor (b_lshl (Q (x3 + 2)) 32) (b_land (Q (x3 + 3)) 4294967295)) (fun r159 σ159 => ∀ _ : I64 r159,
I32 (x3 + 1) ∧
(0 : Int) ≤ (x3 + 1) ∧ ((x3 + 1) : Int) < L ∧
I32 (x3 + 2) ∧
(0 : Int) ≤ (x3 + 2) ∧ ((x3 + 2) : Int) < L ∧
I32 (x3 + 3) ∧
(0 : Int) ≤ (x3 + 3) ∧ ((x3 + 3) : Int) < L ∧
f_X12_first σ159 (Q (x3 + 1)) (b_lor (b_lshl (Q (x3 + 2)) 32) (b_land (Q (x3 + 3)) 4294967295)) (fun r166 σ166 => ∀ _ : I64 r166,
f_L_law_u1181 Q (f_L_law_u18 Q K1179 K1187 L N) L σ166 x3))) ∧
((b_and (Q x3) 31) = 15 →
I32 (x3 + 1) ∧
(0 : Int) ≤ (x3 + 1) ∧ ((x3 + 1) : Int) < L ∧
I32 (x3 + 2) ∧
(0 : Int) ≤ (x3 + 2) ∧ ((x3 + 2) : Int) < L ∧
I32 (x3 + 3) ∧
(0 : Int) ≤ (x3 + 3) ∧ ((x3 + 3) : Int) < L ∧
f_X11_both σ (Q (x3 + 1)) (Q (x3 + 2)) (Q (x3 + 3)) (fun r173 σ173 => ∀ _ : I32 r173,
I32 (x3 + 1) ∧
(0 : Int) ≤ (x3 + 1) ∧ ((x3 + 1) : Int) < L ∧
I32 (x3 + 2) ∧
(0 : Int) ≤ (x3 + 2) ∧ ((x3 + 2) : Int) < L ∧
I32 (x3 + 3) ∧
(0 : Int) ≤ (x3 + 3) ∧ ((x3 + 3) : Int) < L ∧
f_X12_both σ173 (Q (x3 + 1)) (Q (x3 + 2)) (Q (x3 + 3)) (fun r180 σ180 => ∀ _ : I32 r180,
f_L_law_u1181 Q (f_L_law_u18 Q K1179 K1187 L N) L σ180 x3))) ∧
((b_and (Q x3) 31) = 16 →
I32 (x3 + 1) ∧
(0 : Int) ≤ (x3 + 1) ∧ ((x3 + 1) : Int) < L ∧
I32 (x3 + 2) ∧
(0 : Int) ≤ (x3 + 2) ∧ ((x3 + 2) : Int) < L ∧
f_X11_is σ (Q (x3 + 1)) (Q (x3 + 2)) (fun r185 σ185 => ∀ _ : I32 r185,
I32 (x3 + 1) ∧
(0 : Int) ≤ (x3 + 1) ∧ ((x3 + 1) : Int) < L ∧
I32 (x3 + 2) ∧
(0 : Int) ≤ (x3 + 2) ∧ ((x3 + 2) : Int) < L ∧
f_X12_is σ185 (Q (x3 + 1)) (Q (x3 + 2)) (fun r190 σ190 => ∀ _ : I32 r190,
f_L_law_u1181 Q (f_L_law_u18 Q K1179 K1187 L N) L σ190 x3))) ∧
((b_and (Q x3) 31) = 17 →
I32 (x3 + 1) ∧
(0 : Int) ≤ (x3 + 1) ∧ ((x3 + 1) : Int) < L ∧
I32 (x3 + 2) ∧
(0 : Int) ≤ (x3 + 2) ∧ ((x3 + 2) : Int) < L ∧
I32 (x3 + 3) ∧
(0 : Int) ≤ (x3 + 3) ∧ ((x3 + 3) : Int) < L ∧
f_X11_many σ (Q (x3 + 1)) (Q (x3 + 2)) (Q (x3 + 3)) (fun r197 σ197 => ∀ _ : I32 r197,
I32 (x3 + 1) ∧
(0 : Int) ≤ (x3 + 1) ∧ ((x3 + 1) : Int) < L ∧
I32 (x3 + 2) ∧
(0 : Int) ≤ (x3 + 2) ∧ ((x3 + 2) : Int) < L ∧
I32 (x3 + 3) ∧
(0 : Int) ≤ (x3 + 3) ∧ ((x3 + 3) : Int) < L ∧
f_X12_many σ197 (Q (x3 + 1)) (Q (x3 + 2)) (Q (x3 + 3)) (fun r204 σ204 => ∀ _ : I32 r204,
f_L_law_u1181 Q (f_L_law_u18 Q K1179 K1187 L N) L σ204 x3))) ∧
((b_and (Q x3) 31) = 18 →
I32 (x3 + 1) ∧
(0 : Int) ≤ (x3 + 1) ∧ ((x3 + 1) : Int) < L ∧
f_X11_made σ (Q (x3 + 1)) (fun r207 σ207 => ∀ _ : I32 r207,
I32 (x3 + 1) ∧
(0 : Int) ≤ (x3 + 1) ∧ ((x3 + 1) : Int) < L ∧
f_X12_made σ207 (Q (x3 + 1)) (fun r210 σ210 => ∀ _ : I32 r210,
f_L_law_u1181 Q (f_L_law_u18 Q K1179 K1187 L N) L σ210 x3))) ∧
((b_and (Q x3) 31) = 19 →
I32 (x3 + 1) ∧
(0 : Int) ≤ (x3 + 1) ∧ ((x3 + 1) : Int) < L ∧
I32 (x3 + 2) ∧
(0 : Int) ≤ (x3 + 2) ∧ ((x3 + 2) : Int) < L ∧
I32 (x3 + 3) ∧
(0 : Int) ≤ (x3 + 3) ∧ ((x3 + 3) : Int) < L ∧
f_X11_shortest σ (Q (x3 + 1)) (Q (x3 + 2)) (Q (x3 + 3)) (fun r217 σ217 => ∀ _ : I32 r217,
I32 (x3 + 1) ∧
(0 : Int) ≤ (x3 + 1) ∧ ((x3 + 1) : Int) < L ∧
I32 (x3 + 2) ∧
(0 : Int) ≤ (x3 + 2) ∧ ((x3 + 2) : Int) < L ∧
I32 (x3 + 3) ∧
(0 : Int) ≤ (x3 + 3) ∧ ((x3 + 3) : Int) < L ∧
f_X12_shortest σ217 (Q (x3 + 1)) (Q (x3 + 2)) (Q (x3 + 3)) (fun r224 σ224 => ∀ _ : I32 r224,
f_L_law_u1181 Q (f_L_law_u18 Q K1179 K1187 L N) L σ224 x3))) ∧
((b_and (Q x3) 31) = 20 →
I32 (x3 + 1) ∧
(0 : Int) ≤ (x3 + 1) ∧ ((x3 + 1) : Int) < L ∧
I32 (x3 + 2) ∧
(0 : Int) ≤ (x3 + 2) ∧ ((x3 + 2) : Int) < L ∧
f_X11_cost σ (Q (x3 + 1)) (Q (x3 + 2)) (fun r229 σ229 => ∀ _ : ml_B r229,
I32 (x3 + 1) ∧
(0 : Int) ≤ (x3 + 1) ∧ ((x3 + 1) : Int) < L ∧
I32 (x3 + 2) ∧
(0 : Int) ≤ (x3 + 2) ∧ ((x3 + 2) : Int) < L ∧
f_X12_cost σ229 (Q (x3 + 1)) (Q (x3 + 2)) (fun r234 σ234 => ∀ _ : ml_B r234,
f_L_law_u1181 Q (f_L_law_u18 Q K1179 K1187 L N) L σ234 x3))) ∧
((b_and (Q x3) 31) = 21 →
I32 (x3 + 1) ∧
(0 : Int) ≤ (x3 + 1) ∧ ((x3 + 1) : Int) < L ∧
I32 (x3 + 2) ∧
(0 : Int) ≤ (x3 + 2) ∧ ((x3 + 2) : Int) < L ∧
I32 (x3 + 3) ∧
(0 : Int) ≤ (x3 + 3) ∧ ((x3 + 3) : Int) < L ∧
f_X11_cheapest σ (Q (x3 + 1)) (Q (x3 + 2)) (Q (x3 + 3)) (fun r241 σ241 => ∀ _ : I32 r241,
I32 (x3 + 1) ∧
(0 : Int) ≤ (x3 + 1) ∧ ((x3 + 1) : Int) < L ∧
I32 (x3 + 2) ∧
(0 : Int) ≤ (x3 + 2) ∧ ((x3 + 2) : Int) < L ∧
I32 (x3 + 3) ∧
(0 : Int) ≤ (x3 + 3) ∧ ((x3 + 3) : Int) < L ∧
f_X12_cheapest σ241 (Q (x3 + 1)) (Q (x3 + 2)) (Q (x3 + 3)) (fun r248 σ248 => ∀ _ : I32 r248,
f_L_law_u1181 Q (f_L_law_u18 Q K1179 K1187 L N) L σ248 x3))) ∧
((b_and (Q x3) 31) = 22 →
I32 (x3 + 1) ∧
(0 : Int) ≤ (x3 + 1) ∧ ((x3 + 1) : Int) < L ∧
f_X11_mend σ (Q (x3 + 1)) (fun r251 σ251 => ∀ _ : I32 r251,
I32 (x3 + 1) ∧
(0 : Int) ≤ (x3 + 1) ∧ ((x3 + 1) : Int) < L ∧
f_X12_mend σ251 (Q (x3 + 1)) (fun r254 σ254 => ∀ _ : I32 r254,
f_L_law_u1181 Q (f_L_law_u18 Q K1179 K1187 L N) L σ254 x3))) ∧
((b_and (Q x3) 31) = 23 →
I32 (x3 + 1) ∧
(0 : Int) ≤ (x3 + 1) ∧ ((x3 + 1) : Int) < L ∧
f_X11_back σ (Q (x3 + 1)) (fun r257 σ257 => ∀ _ : I32 r257,
I32 (x3 + 1) ∧
(0 : Int) ≤ (x3 + 1) ∧ ((x3 + 1) : Int) < L ∧
f_X12_back σ257 (Q (x3 + 1)) (fun r260 σ260 => ∀ _ : I32 r260,
f_L_law_u1181 Q (f_L_law_u18 Q K1179 K1187 L N) L σ260 x3))) ∧
((b_and (Q x3) 31) = 24 →
I32 (x3 + 1) ∧
(0 : Int) ≤ (x3 + 1) ∧ ((x3 + 1) : Int) < L ∧
I32 (x3 + 2) ∧
(0 : Int) ≤ (x3 + 2) ∧ ((x3 + 2) : Int) < L ∧
I32 (x3 + 3) ∧
(0 : Int) ≤ (x3 + 3) ∧ ((x3 + 3) : Int) < L ∧
f_X11_walk σ (Q (x3 + 1)) (Q (x3 + 2)) (Q (x3 + 3)) (fun r267 σ267 => ∀ _ : I32 r267,
I32 (x3 + 1) ∧
(0 : Int) ≤ (x3 + 1) ∧ ((x3 + 1) : Int) < L ∧
I32 (x3 + 2) ∧
(0 : Int) ≤ (x3 + 2) ∧ ((x3 + 2) : Int) < L ∧
I32 (x3 + 3) ∧
(0 : Int) ≤ (x3 + 3) ∧ ((x3 + 3) : Int) < L ∧
f_X12_walk σ267 (Q (x3 + 1)) (Q (x3 + 2)) (Q (x3 + 3)) (fun r274 σ274 => ∀ _ : I32 r274,
f_L_law_u1181 Q (f_L_law_u18 Q K1179 K1187 L N) L σ274 x3))) ∧
((b_and (Q x3) 31) = 25 →
I32 (x3 + 1) ∧
(0 : Int) ≤ (x3 + 1) ∧ ((x3 + 1) : Int) < L ∧
f_X11_check σ (Q (x3 + 1)) (fun r277 σ277 => ∀ _ : I32 r277,
I32 (x3 + 1) ∧
(0 : Int) ≤ (x3 + 1) ∧ ((x3 + 1) : Int) < L ∧
f_X12_check σ277 (Q (x3 + 1)) (fun r280 σ280 => ∀ _ : I32 r280,
f_L_law_u1181 Q (f_L_law_u18 Q K1179 K1187 L N) L σ280 x3))) ∧
((b_and (Q x3) 31) = 26 →
I32 (x3 + 1) ∧
(0 : Int) ≤ (x3 + 1) ∧ ((x3 + 1) : Int) < L ∧
f_X11_count σ (Q (x3 + 1)) (fun r283 σ283 => ∀ _ : I32 r283,
I32 (x3 + 1) ∧
(0 : Int) ≤ (x3 + 1) ∧ ((x3 + 1) : Int) < L ∧
f_X12_count σ283 (Q (x3 + 1)) (fun r286 σ286 => ∀ _ : I32 r286,
(r283 = r286 →
f_L_law_u1181 Q (f_L_law_u18 Q K1179 K1187 L N) L σ286 x3) ∧
(r283 ≠ r286 →
K1179 σ286)))) ∧
((b_and (Q x3) 31) < 0 ∨ 26 < (b_and (Q x3) 31) →
f_L_law_u1181 Q (f_L_law_u18 Q K1179 K1187 L N) L σ x3))
def f_L_law_u1179 (Q : Int → Int) (L : Int) (σ : ml_St) : Prop :=
False
def f_L_law_u1187 (Q : Int → Int) (L : Int) (σ : ml_St) : Prop :=
True
def f_L_law_u0 (Q : Int → Int) (L : Int) (σ : ml_St) : Prop :=
(∀ j : Int, σ 1 j = 0) ∧
f_X11_init σ (fun σ2 =>
(∀ j : Int, σ2 215 j = 0) ∧
f_X12_init σ2 (fun σ4 =>
ml_RO 256 σ4 ∧
∃ N1, f_L_law_u18 Q (f_L_law_u1179 Q L) (f_L_law_u1187 Q L) L N1 σ4 0))
set_option maxRecDepth 100000 in
set_option maxHeartbeats 8000000 in
theorem u_L_law_1181 {p : Program} {e : Env} {s : State} {m : MethodId} {below : List Frame} {meth : Method} {c : Code} {base : Nat} {D : va_G} {cA : Nat → ClassId} {l : Launch} {b : Nat} {L : Int} {xs : Nat → Int32} {Q : Int → Int} {K18 : ml_St → Int → Prop} (X : ml_X p s m c meth #[Value.ref b] D cA cL_law 4 RL ret) (hn : lw_S s base b L xs Q) (hK18 : ∀ (σ : ml_St) (x3 : Int) (h_x3 : I32 x3) (ls : Array Slot), lv_has ls 4 [(0, .ref b), (1, .ref (base + (1 : Int).toNat)), (2, .ref (base + (215 : Int).toNat)), (3, .int (Int32.ofInt x3))] → K18 σ x3 → ml_V p l e room_1 s m #[Value.ref b] below meth c (lw_Z below #[Value.ref b] s) base D cA 256 163205 256 (256) σ (F0 m 18 ls [])) (σ : ml_St) (x3 : Int) (h_x3 : I32 x3) (ls : Array Slot) (hl : lv_has ls 4 [(0, .ref b), (1, .ref (base + (1 : Int).toNat)), (2, .ref (base + (215 : Int).toNat)), (3, .int (Int32.ofInt x3))]) (hw : f_L_law_u1181 Q K18 L σ x3) : ml_V p l e room_1 s m #[Value.ref b] below meth c (lw_Z below #[Value.ref b] s) base D cA 256 163205 256 (256) σ (F0 m 1181 ls []) := by
  unfold f_L_law_u1181 at hw
  obtain ⟨v1, hw⟩ := hw
  obtain ⟨y1, e1⟩ : ∃ y : Int, y = x3 + 8 := ⟨_, rfl⟩
  have hw := hw y1 e1
  rw [← e1] at v1
  refine ml_iinc (pc := 1181) X e1 hl 3 rfl (by decide) (lst' := [(3, .int (Int32.ofInt y1)), (0, .ref b), (1, .ref (base + (1 : Int).toNat)), (2, .ref (base + (215 : Int).toNat))]) rfl dL_law_1181 (fun ls hl => ?_)
  refine ml_goto (pc := 1184) (tgt := 18) X dL_law_1184 (by decide) ?_
  exact hK18 σ y1 v1 _ (lv_sub hl [1, 2, 3, 0] rfl) hw
set_option maxRecDepth 100000 in
set_option maxHeartbeats 8000000 in
theorem u_L_law_18 {p : Program} {e : Env} {s : State} {m : MethodId} {below : List Frame} {meth : Method} {c : Code} {base : Nat} {D : va_G} {cA : Nat → ClassId} {l : Launch} {b : Nat} {L : Int} {xs : Nat → Int32} {Q : Int → Int} {K1179 : ml_St → Prop} {K1187 : ml_St → Prop} (X : ml_X p s m c meth #[Value.ref b] D cA cL_law 4 RL ret) (hn : lw_S s base b L xs Q) (hK1179 : ∀ (σ : ml_St) (ls : Array Slot), lv_has ls 4 [] → K1179 σ → ml_V p l e room_1 s m #[Value.ref b] below meth c (lw_Z below #[Value.ref b] s) base D cA 256 163205 256 (256) σ (F0 m 1179 ls [])) (hK1187 : ∀ (σ : ml_St) (ls : Array Slot), lv_has ls 4 [] → K1187 σ → ml_V p l e room_1 s m #[Value.ref b] below meth c (lw_Z below #[Value.ref b] s) base D cA 256 163205 256 (256) σ (F0 m 1187 ls [])) : ∀ (N : Nat) (σ : ml_St) (x3 : Int) (h_x3 : I32 x3) (ls : Array Slot), lv_has ls 4 [(0, .ref b), (1, .ref (base + (1 : Int).toNat)), (2, .ref (base + (215 : Int).toNat)), (3, .int (Int32.ofInt x3))] → f_L_law_u18 Q K1179 K1187 L N σ x3 → ml_V p l e room_1 s m #[Value.ref b] below meth c (lw_Z below #[Value.ref b] s) base D cA 256 163205 256 (256) σ (F0 m 18 ls []) := by
  intro N
  induction N with
  | zero => intro σ x3 h_x3 ls hl hw; exact False.elim hw
  | succ N ih =>
    intro σ x3 h_x3 ls hl hw
    unfold f_L_law_u18 at hw
    refine ml_iload_n (pc := 18) X hl 3 rfl rfl dL_law_18 ?_
    refine ml_aload_n (pc := 19) X hl 0 rfl rfl dL_law_19 ?_
    refine ml_slen (pc := 20) X hn dL_law_20 ?_
    refine ml_bipush (pc := 21) X dL_law_21 (by decide) ?_
    obtain ⟨v1, hw⟩ := hw
    refine ml_isub (pc := 23) X dL_law_23 ?_
    refine ml_icmp_gt (pc := 24) (tgt := 1187) X h_x3 v1 dL_law_24 (by decide) (fun c2 => ?_) (fun c2 => ?_)
    · have hw := hw.1 c2
      exact hK1187 σ   _ (lv_sub hl [] rfl) hw
    · have hw := hw.2 c2
      refine ml_aload_n (pc := 27) X hl 0 rfl rfl dL_law_27 ?_
      refine ml_iload_n (pc := 28) X hl 3 rfl rfl dL_law_28 ?_
      obtain ⟨a3, b3, hw⟩ := hw
      refine ml_sld (pc := 29) (i := x3) X hn a3 b3 dL_law_29 ?_
      refine ml_bipush (pc := 30) X dL_law_30 (by decide) ?_
      refine ml_iand (pc := 32) X dL_law_32 ?_
      rcases (show (b_and (Q x3) 31) = 0 ∨ (b_and (Q x3) 31) = 1 ∨ (b_and (Q x3) 31) = 2 ∨ (b_and (Q x3) 31) = 3 ∨ (b_and (Q x3) 31) = 4 ∨ (b_and (Q x3) 31) = 5 ∨ (b_and (Q x3) 31) = 6 ∨ (b_and (Q x3) 31) = 7 ∨ (b_and (Q x3) 31) = 8 ∨ (b_and (Q x3) 31) = 9 ∨ (b_and (Q x3) 31) = 10 ∨ (b_and (Q x3) 31) = 11 ∨ (b_and (Q x3) 31) = 12 ∨ (b_and (Q x3) 31) = 13 ∨ (b_and (Q x3) 31) = 14 ∨ (b_and (Q x3) 31) = 15 ∨ (b_and (Q x3) 31) = 16 ∨ (b_and (Q x3) 31) = 17 ∨ (b_and (Q x3) 31) = 18 ∨ (b_and (Q x3) 31) = 19 ∨ (b_and (Q x3) 31) = 20 ∨ (b_and (Q x3) 31) = 21 ∨ (b_and (Q x3) 31) = 22 ∨ (b_and (Q x3) 31) = 23 ∨ (b_and (Q x3) 31) = 24 ∨ (b_and (Q x3) 31) = 25 ∨ (b_and (Q x3) 31) = 26 ∨ ((b_and (Q x3) 31) < 0 ∨ 26 < (b_and (Q x3) 31)) by omega) with c4 | c4 | c4 | c4 | c4 | c4 | c4 | c4 | c4 | c4 | c4 | c4 | c4 | c4 | c4 | c4 | c4 | c4 | c4 | c4 | c4 | c4 | c4 | c4 | c4 | c4 | c4 | c4
      · have hw := hw.1 c4
        refine ml_tIn (pc := 33) (off := 123) (tgt := 156) X c4 dL_law_33 (by decide) (by decide) (by decide +kernel) (by decide) ?_
        refine ml_aload_n (pc := 156) X hl 1 rfl rfl dL_law_156 ?_
        refine ml_aload_n (pc := 157) X hl 0 rfl rfl dL_law_157 ?_
        refine ml_iload_n (pc := 158) X hl 3 rfl rfl dL_law_158 ?_
        refine ml_iconst (pc := 159) X dL_law_159 ?_
        obtain ⟨v5, hw⟩ := hw
        refine ml_iadd (pc := 160) X dL_law_160 ?_
        obtain ⟨a6, b6, hw⟩ := hw
        refine ml_sld (pc := 161) (i := x3 + 1) X hn a6 b6 dL_law_161 ?_
        refine ml_callzV (pc := 162) (rest := []) X [.int (Int32.ofInt (Q (x3 + 1)))] (by decide) rfl (ml_k1 (by decide)) (c_X11_rails l base D cA 256 (by decide) σ (Q (x3 + 1)) (hn.2.2.2.2.2.1 _) _ hw) cv_L_13 ⟨rfl, rfl⟩ ⟨by decide, by decide⟩ rfl rfl hl (Nat.le_of_ble_eq_true rfl) ⟨by decide, by decide⟩ dL_law_162 (fun r7 σ7 t7 hw => ?_)
        have hw := hw t7
        refine ml_pop (pc := 165) X dL_law_165 rfl ?_
        refine ml_aload_n (pc := 166) X hl 2 rfl rfl dL_law_166 ?_
        refine ml_aload_n (pc := 167) X hl 0 rfl rfl dL_law_167 ?_
        refine ml_iload_n (pc := 168) X hl 3 rfl rfl dL_law_168 ?_
        refine ml_iconst (pc := 169) X dL_law_169 ?_
        obtain ⟨v8, hw⟩ := hw
        refine ml_iadd (pc := 170) X dL_law_170 ?_
        obtain ⟨a9, b9, hw⟩ := hw
        refine ml_sld (pc := 171) (i := x3 + 1) X hn a9 b9 dL_law_171 ?_
        refine ml_callzV (pc := 172) (rest := []) X [.int (Int32.ofInt (Q (x3 + 1)))] (by decide) rfl (ml_k215 (by decide)) (c_X12_rails l base D cA 256 (by decide) σ7 (Q (x3 + 1)) (hn.2.2.2.2.2.1 _) _ hw) cv_L_17 ⟨rfl, rfl⟩ ⟨by decide, by decide⟩ rfl rfl hl (Nat.le_of_ble_eq_true rfl) ⟨by decide, by decide⟩ dL_law_172 (fun r10 σ10 t10 hw => ?_)
        have hw := hw t10
        refine ml_pop (pc := 175) X dL_law_175 rfl ?_
        refine ml_goto (pc := 176) (tgt := 1181) X dL_law_176 (by decide) ?_
        exact u_L_law_1181 X hn ih σ10 x3 h_x3 _ (lv_sub hl [0, 1, 2, 3] rfl) hw
      · have hw := hw.2.1 c4
        refine ml_tIn (pc := 33) (off := 146) (tgt := 179) X c4 dL_law_33 (by decide) (by decide) (by decide +kernel) (by decide) ?_
        refine ml_aload_n (pc := 179) X hl 1 rfl rfl dL_law_179 ?_
        refine ml_aload_n (pc := 180) X hl 0 rfl rfl dL_law_180 ?_
        refine ml_iload_n (pc := 181) X hl 3 rfl rfl dL_law_181 ?_
        refine ml_iconst (pc := 182) X dL_law_182 ?_
        obtain ⟨v11, hw⟩ := hw
        refine ml_iadd (pc := 183) X dL_law_183 ?_
        obtain ⟨a12, b12, hw⟩ := hw
        refine ml_sld (pc := 184) (i := x3 + 1) X hn a12 b12 dL_law_184 ?_
        refine ml_aload_n (pc := 185) X hl 0 rfl rfl dL_law_185 ?_
        refine ml_iload_n (pc := 186) X hl 3 rfl rfl dL_law_186 ?_
        refine ml_iconst (pc := 187) X dL_law_187 ?_
        obtain ⟨v13, hw⟩ := hw
        refine ml_iadd (pc := 188) X dL_law_188 ?_
        obtain ⟨a14, b14, hw⟩ := hw
        refine ml_sld (pc := 189) (i := x3 + 2) X hn a14 b14 dL_law_189 ?_
        refine ml_aload_n (pc := 190) X hl 0 rfl rfl dL_law_190 ?_
        refine ml_iload_n (pc := 191) X hl 3 rfl rfl dL_law_191 ?_
        refine ml_iconst (pc := 192) X dL_law_192 ?_
        obtain ⟨v15, hw⟩ := hw
        refine ml_iadd (pc := 193) X dL_law_193 ?_
        obtain ⟨a16, b16, hw⟩ := hw
        refine ml_sld (pc := 194) (i := x3 + 3) X hn a16 b16 dL_law_194 ?_
        refine ml_aload_n (pc := 195) X hl 0 rfl rfl dL_law_195 ?_
        refine ml_iload_n (pc := 196) X hl 3 rfl rfl dL_law_196 ?_
        refine ml_iconst (pc := 197) X dL_law_197 ?_
        obtain ⟨v17, hw⟩ := hw
        refine ml_iadd (pc := 198) X dL_law_198 ?_
        obtain ⟨a18, b18, hw⟩ := hw
        refine ml_sld (pc := 199) (i := x3 + 4) X hn a18 b18 dL_law_199 ?_
        refine ml_aload_n (pc := 200) X hl 0 rfl rfl dL_law_200 ?_
        refine ml_iload_n (pc := 201) X hl 3 rfl rfl dL_law_201 ?_
        refine ml_iconst (pc := 202) X dL_law_202 ?_
        obtain ⟨v19, hw⟩ := hw
        refine ml_iadd (pc := 203) X dL_law_203 ?_
        obtain ⟨a20, b20, hw⟩ := hw
        refine ml_sld (pc := 204) (i := x3 + 5) X hn a20 b20 dL_law_204 ?_
        refine ml_calliV (pc := 205) (rest := []) X [.int (Int32.ofInt (Q (x3 + 1))), .int (Int32.ofInt (Q (x3 + 2))), .int (Int32.ofInt (Q (x3 + 3))), .int (Int32.ofInt (Q (x3 + 4))), .int (Int32.ofInt (Q (x3 + 5)))] (by decide) rfl (ml_k1 (by decide)) (c_X11_feed l base D cA 256 (by decide) σ (Q (x3 + 1)) (Q (x3 + 2)) (Q (x3 + 3)) (Q (x3 + 4)) (Q (x3 + 5)) (hn.2.2.2.2.2.1 _) (hn.2.2.2.2.2.1 _) (hn.2.2.2.2.2.1 _) (hn.2.2.2.2.2.1 _) (hn.2.2.2.2.2.1 _) _ hw) cv_L_18 ⟨rfl, rfl⟩ ⟨by decide, by decide⟩ rfl rfl hl (Nat.le_of_ble_eq_true rfl) ⟨by decide, by decide⟩ dL_law_205 (fun r21 σ21 t21 hw => ?_)
        have hw := hw t21
        refine ml_pop (pc := 208) X dL_law_208 rfl ?_
        refine ml_aload_n (pc := 209) X hl 2 rfl rfl dL_law_209 ?_
        refine ml_aload_n (pc := 210) X hl 0 rfl rfl dL_law_210 ?_
        refine ml_iload_n (pc := 211) X hl 3 rfl rfl dL_law_211 ?_
        refine ml_iconst (pc := 212) X dL_law_212 ?_
        obtain ⟨v22, hw⟩ := hw
        refine ml_iadd (pc := 213) X dL_law_213 ?_
        obtain ⟨a23, b23, hw⟩ := hw
        refine ml_sld (pc := 214) (i := x3 + 1) X hn a23 b23 dL_law_214 ?_
        refine ml_aload_n (pc := 215) X hl 0 rfl rfl dL_law_215 ?_
        refine ml_iload_n (pc := 216) X hl 3 rfl rfl dL_law_216 ?_
        refine ml_iconst (pc := 217) X dL_law_217 ?_
        obtain ⟨v24, hw⟩ := hw
        refine ml_iadd (pc := 218) X dL_law_218 ?_
        obtain ⟨a25, b25, hw⟩ := hw
        refine ml_sld (pc := 219) (i := x3 + 2) X hn a25 b25 dL_law_219 ?_
        refine ml_aload_n (pc := 220) X hl 0 rfl rfl dL_law_220 ?_
        refine ml_iload_n (pc := 221) X hl 3 rfl rfl dL_law_221 ?_
        refine ml_iconst (pc := 222) X dL_law_222 ?_
        obtain ⟨v26, hw⟩ := hw
        refine ml_iadd (pc := 223) X dL_law_223 ?_
        obtain ⟨a27, b27, hw⟩ := hw
        refine ml_sld (pc := 224) (i := x3 + 3) X hn a27 b27 dL_law_224 ?_
        refine ml_aload_n (pc := 225) X hl 0 rfl rfl dL_law_225 ?_
        refine ml_iload_n (pc := 226) X hl 3 rfl rfl dL_law_226 ?_
        refine ml_iconst (pc := 227) X dL_law_227 ?_
        obtain ⟨v28, hw⟩ := hw
        refine ml_iadd (pc := 228) X dL_law_228 ?_
        obtain ⟨a29, b29, hw⟩ := hw
        refine ml_sld (pc := 229) (i := x3 + 4) X hn a29 b29 dL_law_229 ?_
        refine ml_aload_n (pc := 230) X hl 0 rfl rfl dL_law_230 ?_
        refine ml_iload_n (pc := 231) X hl 3 rfl rfl dL_law_231 ?_
        refine ml_iconst (pc := 232) X dL_law_232 ?_
        obtain ⟨v30, hw⟩ := hw
        refine ml_iadd (pc := 233) X dL_law_233 ?_
        obtain ⟨a31, b31, hw⟩ := hw
        refine ml_sld (pc := 234) (i := x3 + 5) X hn a31 b31 dL_law_234 ?_
        refine ml_calliV (pc := 235) (rest := []) X [.int (Int32.ofInt (Q (x3 + 1))), .int (Int32.ofInt (Q (x3 + 2))), .int (Int32.ofInt (Q (x3 + 3))), .int (Int32.ofInt (Q (x3 + 4))), .int (Int32.ofInt (Q (x3 + 5)))] (by decide) rfl (ml_k215 (by decide)) (c_X12_feed l base D cA 256 (by decide) σ21 (Q (x3 + 1)) (Q (x3 + 2)) (Q (x3 + 3)) (Q (x3 + 4)) (Q (x3 + 5)) (hn.2.2.2.2.2.1 _) (hn.2.2.2.2.2.1 _) (hn.2.2.2.2.2.1 _) (hn.2.2.2.2.2.1 _) (hn.2.2.2.2.2.1 _) _ hw) cv_L_22 ⟨rfl, rfl⟩ ⟨by decide, by decide⟩ rfl rfl hl (Nat.le_of_ble_eq_true rfl) ⟨by decide, by decide⟩ dL_law_235 (fun r32 σ32 t32 hw => ?_)
        have hw := hw t32
        refine ml_pop (pc := 238) X dL_law_238 rfl ?_
        refine ml_goto (pc := 239) (tgt := 1181) X dL_law_239 (by decide) ?_
        exact u_L_law_1181 X hn ih σ32 x3 h_x3 _ (lv_sub hl [0, 1, 2, 3] rfl) hw
      · have hw := hw.2.2.1 c4
        refine ml_tIn (pc := 33) (off := 209) (tgt := 242) X c4 dL_law_33 (by decide) (by decide) (by decide +kernel) (by decide) ?_
        refine ml_aload_n (pc := 242) X hl 1 rfl rfl dL_law_242 ?_
        refine ml_aload_n (pc := 243) X hl 0 rfl rfl dL_law_243 ?_
        refine ml_iload_n (pc := 244) X hl 3 rfl rfl dL_law_244 ?_
        refine ml_iconst (pc := 245) X dL_law_245 ?_
        obtain ⟨v33, hw⟩ := hw
        refine ml_iadd (pc := 246) X dL_law_246 ?_
        obtain ⟨a34, b34, hw⟩ := hw
        refine ml_sld (pc := 247) (i := x3 + 1) X hn a34 b34 dL_law_247 ?_
        refine ml_calliV (pc := 248) (rest := []) X [.int (Int32.ofInt (Q (x3 + 1)))] (by decide) rfl (ml_k1 (by decide)) (c_X11_word l base D cA 256 (by decide) σ (Q (x3 + 1)) (hn.2.2.2.2.2.1 _) _ hw) cv_L_23 ⟨rfl, rfl⟩ ⟨by decide, by decide⟩ rfl rfl hl (Nat.le_of_ble_eq_true rfl) ⟨by decide, by decide⟩ dL_law_248 (fun r35 σ35 t35 hw => ?_)
        have hw := hw t35
        refine ml_pop (pc := 251) X dL_law_251 rfl ?_
        refine ml_aload_n (pc := 252) X hl 2 rfl rfl dL_law_252 ?_
        refine ml_aload_n (pc := 253) X hl 0 rfl rfl dL_law_253 ?_
        refine ml_iload_n (pc := 254) X hl 3 rfl rfl dL_law_254 ?_
        refine ml_iconst (pc := 255) X dL_law_255 ?_
        obtain ⟨v36, hw⟩ := hw
        refine ml_iadd (pc := 256) X dL_law_256 ?_
        obtain ⟨a37, b37, hw⟩ := hw
        refine ml_sld (pc := 257) (i := x3 + 1) X hn a37 b37 dL_law_257 ?_
        refine ml_calliV (pc := 258) (rest := []) X [.int (Int32.ofInt (Q (x3 + 1)))] (by decide) rfl (ml_k215 (by decide)) (c_X12_word l base D cA 256 (by decide) σ35 (Q (x3 + 1)) (hn.2.2.2.2.2.1 _) _ hw) cv_L_27 ⟨rfl, rfl⟩ ⟨by decide, by decide⟩ rfl rfl hl (Nat.le_of_ble_eq_true rfl) ⟨by decide, by decide⟩ dL_law_258 (fun r38 σ38 t38 hw => ?_)
        have hw := hw t38
        refine ml_pop (pc := 261) X dL_law_261 rfl ?_
        refine ml_goto (pc := 262) (tgt := 1181) X dL_law_262 (by decide) ?_
        exact u_L_law_1181 X hn ih σ38 x3 h_x3 _ (lv_sub hl [0, 1, 2, 3] rfl) hw
      · have hw := hw.2.2.2.1 c4
        refine ml_tIn (pc := 33) (off := 232) (tgt := 265) X c4 dL_law_33 (by decide) (by decide) (by decide +kernel) (by decide) ?_
        refine ml_aload_n (pc := 265) X hl 1 rfl rfl dL_law_265 ?_
        refine ml_aload_n (pc := 266) X hl 0 rfl rfl dL_law_266 ?_
        refine ml_iload_n (pc := 267) X hl 3 rfl rfl dL_law_267 ?_
        refine ml_iconst (pc := 268) X dL_law_268 ?_
        obtain ⟨v39, hw⟩ := hw
        refine ml_iadd (pc := 269) X dL_law_269 ?_
        obtain ⟨a40, b40, hw⟩ := hw
        refine ml_sld (pc := 270) (i := x3 + 1) X hn a40 b40 dL_law_270 ?_
        refine ml_aload_n (pc := 271) X hl 0 rfl rfl dL_law_271 ?_
        refine ml_iload_n (pc := 272) X hl 3 rfl rfl dL_law_272 ?_
        refine ml_iconst (pc := 273) X dL_law_273 ?_
        obtain ⟨v41, hw⟩ := hw
        refine ml_iadd (pc := 274) X dL_law_274 ?_
        obtain ⟨a42, b42, hw⟩ := hw
        refine ml_sld (pc := 275) (i := x3 + 2) X hn a42 b42 dL_law_275 ?_
        refine ml_calliV (pc := 276) (rest := []) X [.int (Int32.ofInt (Q (x3 + 1))), .int (Int32.ofInt (Q (x3 + 2)))] (by decide) rfl (ml_k1 (by decide)) (c_X11_change l base D cA 256 (by decide) σ (Q (x3 + 1)) (Q (x3 + 2)) (hn.2.2.2.2.2.1 _) (hn.2.2.2.2.2.1 _) _ hw) cv_L_28 ⟨rfl, rfl⟩ ⟨by decide, by decide⟩ rfl rfl hl (Nat.le_of_ble_eq_true rfl) ⟨by decide, by decide⟩ dL_law_276 (fun r43 σ43 t43 hw => ?_)
        have hw := hw t43
        refine ml_pop (pc := 279) X dL_law_279 rfl ?_
        refine ml_aload_n (pc := 280) X hl 2 rfl rfl dL_law_280 ?_
        refine ml_aload_n (pc := 281) X hl 0 rfl rfl dL_law_281 ?_
        refine ml_iload_n (pc := 282) X hl 3 rfl rfl dL_law_282 ?_
        refine ml_iconst (pc := 283) X dL_law_283 ?_
        obtain ⟨v44, hw⟩ := hw
        refine ml_iadd (pc := 284) X dL_law_284 ?_
        obtain ⟨a45, b45, hw⟩ := hw
        refine ml_sld (pc := 285) (i := x3 + 1) X hn a45 b45 dL_law_285 ?_
        refine ml_aload_n (pc := 286) X hl 0 rfl rfl dL_law_286 ?_
        refine ml_iload_n (pc := 287) X hl 3 rfl rfl dL_law_287 ?_
        refine ml_iconst (pc := 288) X dL_law_288 ?_
        obtain ⟨v46, hw⟩ := hw
        refine ml_iadd (pc := 289) X dL_law_289 ?_
        obtain ⟨a47, b47, hw⟩ := hw
        refine ml_sld (pc := 290) (i := x3 + 2) X hn a47 b47 dL_law_290 ?_
        refine ml_calliV (pc := 291) (rest := []) X [.int (Int32.ofInt (Q (x3 + 1))), .int (Int32.ofInt (Q (x3 + 2)))] (by decide) rfl (ml_k215 (by decide)) (c_X12_change l base D cA 256 (by decide) σ43 (Q (x3 + 1)) (Q (x3 + 2)) (hn.2.2.2.2.2.1 _) (hn.2.2.2.2.2.1 _) _ hw) cv_L_32 ⟨rfl, rfl⟩ ⟨by decide, by decide⟩ rfl rfl hl (Nat.le_of_ble_eq_true rfl) ⟨by decide, by decide⟩ dL_law_291 (fun r48 σ48 t48 hw => ?_)
        have hw := hw t48
        refine ml_pop (pc := 294) X dL_law_294 rfl ?_
        refine ml_goto (pc := 295) (tgt := 1181) X dL_law_295 (by decide) ?_
        exact u_L_law_1181 X hn ih σ48 x3 h_x3 _ (lv_sub hl [0, 1, 2, 3] rfl) hw
      · have hw := hw.2.2.2.2.1 c4
        refine ml_tIn (pc := 33) (off := 265) (tgt := 298) X c4 dL_law_33 (by decide) (by decide) (by decide +kernel) (by decide) ?_
        refine ml_aload_n (pc := 298) X hl 1 rfl rfl dL_law_298 ?_
        refine ml_callzV (pc := 299) (rest := []) X [] (by decide) rfl (ml_k1 (by decide)) (c_X11_round l base D cA 256 (by decide) σ _ hw) cv_L_33 ⟨rfl, rfl⟩ ⟨by decide, by decide⟩ rfl rfl hl (Nat.le_of_ble_eq_true rfl) ⟨by decide, by decide⟩ dL_law_299 (fun r49 σ49 t49 hw => ?_)
        have hw := hw t49
        refine ml_pop (pc := 302) X dL_law_302 rfl ?_
        refine ml_aload_n (pc := 303) X hl 2 rfl rfl dL_law_303 ?_
        refine ml_callzV (pc := 304) (rest := []) X [] (by decide) rfl (ml_k215 (by decide)) (c_X12_round l base D cA 256 (by decide) σ49 _ hw) cv_L_37 ⟨rfl, rfl⟩ ⟨by decide, by decide⟩ rfl rfl hl (Nat.le_of_ble_eq_true rfl) ⟨by decide, by decide⟩ dL_law_304 (fun r50 σ50 t50 hw => ?_)
        have hw := hw t50
        refine ml_pop (pc := 307) X dL_law_307 rfl ?_
        refine ml_goto (pc := 308) (tgt := 1181) X dL_law_308 (by decide) ?_
        exact u_L_law_1181 X hn ih σ50 x3 h_x3 _ (lv_sub hl [0, 1, 2, 3] rfl) hw
      · have hw := hw.2.2.2.2.2.1 c4
        refine ml_tIn (pc := 33) (off := 278) (tgt := 311) X c4 dL_law_33 (by decide) (by decide) (by decide +kernel) (by decide) ?_
        refine ml_aload_n (pc := 311) X hl 1 rfl rfl dL_law_311 ?_
        refine ml_callzV (pc := 312) (rest := []) X [] (by decide) rfl (ml_k1 (by decide)) (c_X11_caps l base D cA 256 (by decide) σ _ hw) cv_L_38 ⟨rfl, rfl⟩ ⟨by decide, by decide⟩ rfl rfl hl (Nat.le_of_ble_eq_true rfl) ⟨by decide, by decide⟩ dL_law_312 (fun r51 σ51 t51 hw => ?_)
        have hw := hw t51
        refine ml_pop (pc := 315) X dL_law_315 rfl ?_
        refine ml_aload_n (pc := 316) X hl 2 rfl rfl dL_law_316 ?_
        refine ml_callzV (pc := 317) (rest := []) X [] (by decide) rfl (ml_k215 (by decide)) (c_X12_caps l base D cA 256 (by decide) σ51 _ hw) cv_L_41 ⟨rfl, rfl⟩ ⟨by decide, by decide⟩ rfl rfl hl (Nat.le_of_ble_eq_true rfl) ⟨by decide, by decide⟩ dL_law_317 (fun r52 σ52 t52 hw => ?_)
        have hw := hw t52
        refine ml_pop (pc := 320) X dL_law_320 rfl ?_
        refine ml_goto (pc := 321) (tgt := 1181) X dL_law_321 (by decide) ?_
        exact u_L_law_1181 X hn ih σ52 x3 h_x3 _ (lv_sub hl [0, 1, 2, 3] rfl) hw
      · have hw := hw.2.2.2.2.2.2.1 c4
        refine ml_tIn (pc := 33) (off := 291) (tgt := 324) X c4 dL_law_33 (by decide) (by decide) (by decide +kernel) (by decide) ?_
        refine ml_aload_n (pc := 324) X hl 1 rfl rfl dL_law_324 ?_
        refine ml_aload_n (pc := 325) X hl 0 rfl rfl dL_law_325 ?_
        refine ml_iload_n (pc := 326) X hl 3 rfl rfl dL_law_326 ?_
        refine ml_iconst (pc := 327) X dL_law_327 ?_
        obtain ⟨v53, hw⟩ := hw
        refine ml_iadd (pc := 328) X dL_law_328 ?_
        obtain ⟨a54, b54, hw⟩ := hw
        refine ml_sld (pc := 329) (i := x3 + 1) X hn a54 b54 dL_law_329 ?_
        refine ml_calllV (pc := 330) (rest := []) X [.int (Int32.ofInt (Q (x3 + 1)))] (by decide) rfl (ml_k1 (by decide)) (c_X11_signs l base D cA 256 (by decide) σ (Q (x3 + 1)) (hn.2.2.2.2.2.1 _) _ hw) cv_L_42 ⟨rfl, rfl⟩ ⟨by decide, by decide⟩ rfl rfl hl (Nat.le_of_ble_eq_true rfl) ⟨by decide, by decide⟩ dL_law_330 (fun r55 σ55 t55 hw => ?_)
        have hw := hw t55
        refine ml_pop2 (pc := 333) X dL_law_333 rfl ?_
        refine ml_aload_n (pc := 334) X hl 2 rfl rfl dL_law_334 ?_
        refine ml_aload_n (pc := 335) X hl 0 rfl rfl dL_law_335 ?_
        refine ml_iload_n (pc := 336) X hl 3 rfl rfl dL_law_336 ?_
        refine ml_iconst (pc := 337) X dL_law_337 ?_
        obtain ⟨v56, hw⟩ := hw
        refine ml_iadd (pc := 338) X dL_law_338 ?_
        obtain ⟨a57, b57, hw⟩ := hw
        refine ml_sld (pc := 339) (i := x3 + 1) X hn a57 b57 dL_law_339 ?_
        refine ml_calllV (pc := 340) (rest := []) X [.int (Int32.ofInt (Q (x3 + 1)))] (by decide) rfl (ml_k215 (by decide)) (c_X12_signs l base D cA 256 (by decide) σ55 (Q (x3 + 1)) (hn.2.2.2.2.2.1 _) _ hw) cv_L_46 ⟨rfl, rfl⟩ ⟨by decide, by decide⟩ rfl rfl hl (Nat.le_of_ble_eq_true rfl) ⟨by decide, by decide⟩ dL_law_340 (fun r58 σ58 t58 hw => ?_)
        have hw := hw t58
        refine ml_pop2 (pc := 343) X dL_law_343 rfl ?_
        refine ml_goto (pc := 344) (tgt := 1181) X dL_law_344 (by decide) ?_
        exact u_L_law_1181 X hn ih σ58 x3 h_x3 _ (lv_sub hl [0, 1, 2, 3] rfl) hw
      · have hw := hw.2.2.2.2.2.2.2.1 c4
        refine ml_tIn (pc := 33) (off := 314) (tgt := 347) X c4 dL_law_33 (by decide) (by decide) (by decide +kernel) (by decide) ?_
        refine ml_aload_n (pc := 347) X hl 1 rfl rfl dL_law_347 ?_
        refine ml_aload_n (pc := 348) X hl 0 rfl rfl dL_law_348 ?_
        refine ml_iload_n (pc := 349) X hl 3 rfl rfl dL_law_349 ?_
        refine ml_iconst (pc := 350) X dL_law_350 ?_
        obtain ⟨v59, hw⟩ := hw
        refine ml_iadd (pc := 351) X dL_law_351 ?_
        obtain ⟨a60, b60, hw⟩ := hw
        refine ml_sld (pc := 352) (i := x3 + 1) X hn a60 b60 dL_law_352 ?_
        refine ml_aload_n (pc := 353) X hl 0 rfl rfl dL_law_353 ?_
        refine ml_iload_n (pc := 354) X hl 3 rfl rfl dL_law_354 ?_
        refine ml_iconst (pc := 355) X dL_law_355 ?_
        obtain ⟨v61, hw⟩ := hw
        refine ml_iadd (pc := 356) X dL_law_356 ?_
        obtain ⟨a62, b62, hw⟩ := hw
        refine ml_sld (pc := 357) (i := x3 + 2) X hn a62 b62 dL_law_357 ?_
        refine ml_calliV (pc := 358) (rest := []) X [.int (Int32.ofInt (Q (x3 + 1))), .int (Int32.ofInt (Q (x3 + 2)))] (by decide) rfl (ml_k1 (by decide)) (c_X11_joined l base D cA 256 (by decide) σ (Q (x3 + 1)) (Q (x3 + 2)) (hn.2.2.2.2.2.1 _) (hn.2.2.2.2.2.1 _) _ hw) cv_L_47 ⟨rfl, rfl⟩ ⟨by decide, by decide⟩ rfl rfl hl (Nat.le_of_ble_eq_true rfl) ⟨by decide, by decide⟩ dL_law_358 (fun r63 σ63 t63 hw => ?_)
        have hw := hw t63
        refine ml_pop (pc := 361) X dL_law_361 rfl ?_
        refine ml_aload_n (pc := 362) X hl 2 rfl rfl dL_law_362 ?_
        refine ml_aload_n (pc := 363) X hl 0 rfl rfl dL_law_363 ?_
        refine ml_iload_n (pc := 364) X hl 3 rfl rfl dL_law_364 ?_
        refine ml_iconst (pc := 365) X dL_law_365 ?_
        obtain ⟨v64, hw⟩ := hw
        refine ml_iadd (pc := 366) X dL_law_366 ?_
        obtain ⟨a65, b65, hw⟩ := hw
        refine ml_sld (pc := 367) (i := x3 + 1) X hn a65 b65 dL_law_367 ?_
        refine ml_aload_n (pc := 368) X hl 0 rfl rfl dL_law_368 ?_
        refine ml_iload_n (pc := 369) X hl 3 rfl rfl dL_law_369 ?_
        refine ml_iconst (pc := 370) X dL_law_370 ?_
        obtain ⟨v66, hw⟩ := hw
        refine ml_iadd (pc := 371) X dL_law_371 ?_
        obtain ⟨a67, b67, hw⟩ := hw
        refine ml_sld (pc := 372) (i := x3 + 2) X hn a67 b67 dL_law_372 ?_
        refine ml_calliV (pc := 373) (rest := []) X [.int (Int32.ofInt (Q (x3 + 1))), .int (Int32.ofInt (Q (x3 + 2)))] (by decide) rfl (ml_k215 (by decide)) (c_X12_joined l base D cA 256 (by decide) σ63 (Q (x3 + 1)) (Q (x3 + 2)) (hn.2.2.2.2.2.1 _) (hn.2.2.2.2.2.1 _) _ hw) cv_L_50 ⟨rfl, rfl⟩ ⟨by decide, by decide⟩ rfl rfl hl (Nat.le_of_ble_eq_true rfl) ⟨by decide, by decide⟩ dL_law_373 (fun r68 σ68 t68 hw => ?_)
        have hw := hw t68
        refine ml_pop (pc := 376) X dL_law_376 rfl ?_
        refine ml_goto (pc := 377) (tgt := 1181) X dL_law_377 (by decide) ?_
        exact u_L_law_1181 X hn ih σ68 x3 h_x3 _ (lv_sub hl [0, 1, 2, 3] rfl) hw
      · have hw := hw.2.2.2.2.2.2.2.2.1 c4
        refine ml_tIn (pc := 33) (off := 347) (tgt := 380) X c4 dL_law_33 (by decide) (by decide) (by decide +kernel) (by decide) ?_
        refine ml_aload_n (pc := 380) X hl 1 rfl rfl dL_law_380 ?_
        refine ml_aload_n (pc := 381) X hl 0 rfl rfl dL_law_381 ?_
        refine ml_iload_n (pc := 382) X hl 3 rfl rfl dL_law_382 ?_
        refine ml_iconst (pc := 383) X dL_law_383 ?_
        obtain ⟨v69, hw⟩ := hw
        refine ml_iadd (pc := 384) X dL_law_384 ?_
        obtain ⟨a70, b70, hw⟩ := hw
        refine ml_sld (pc := 385) (i := x3 + 1) X hn a70 b70 dL_law_385 ?_
        refine ml_aload_n (pc := 386) X hl 0 rfl rfl dL_law_386 ?_
        refine ml_iload_n (pc := 387) X hl 3 rfl rfl dL_law_387 ?_
        refine ml_iconst (pc := 388) X dL_law_388 ?_
        obtain ⟨v71, hw⟩ := hw
        refine ml_iadd (pc := 389) X dL_law_389 ?_
        obtain ⟨a72, b72, hw⟩ := hw
        refine ml_sld (pc := 390) (i := x3 + 2) X hn a72 b72 dL_law_390 ?_
        refine ml_calllV (pc := 391) (rest := []) X [.int (Int32.ofInt (Q (x3 + 1))), .int (Int32.ofInt (Q (x3 + 2)))] (by decide) rfl (ml_k1 (by decide)) (c_X11_length l base D cA 256 (by decide) σ (Q (x3 + 1)) (Q (x3 + 2)) (hn.2.2.2.2.2.1 _) (hn.2.2.2.2.2.1 _) _ hw) cv_L_51 ⟨rfl, rfl⟩ ⟨by decide, by decide⟩ rfl rfl hl (Nat.le_of_ble_eq_true rfl) ⟨by decide, by decide⟩ dL_law_391 (fun r73 σ73 t73 hw => ?_)
        have hw := hw t73
        refine ml_pop2 (pc := 394) X dL_law_394 rfl ?_
        refine ml_aload_n (pc := 395) X hl 2 rfl rfl dL_law_395 ?_
        refine ml_aload_n (pc := 396) X hl 0 rfl rfl dL_law_396 ?_
        refine ml_iload_n (pc := 397) X hl 3 rfl rfl dL_law_397 ?_
        refine ml_iconst (pc := 398) X dL_law_398 ?_
        obtain ⟨v74, hw⟩ := hw
        refine ml_iadd (pc := 399) X dL_law_399 ?_
        obtain ⟨a75, b75, hw⟩ := hw
        refine ml_sld (pc := 400) (i := x3 + 1) X hn a75 b75 dL_law_400 ?_
        refine ml_aload_n (pc := 401) X hl 0 rfl rfl dL_law_401 ?_
        refine ml_iload_n (pc := 402) X hl 3 rfl rfl dL_law_402 ?_
        refine ml_iconst (pc := 403) X dL_law_403 ?_
        obtain ⟨v76, hw⟩ := hw
        refine ml_iadd (pc := 404) X dL_law_404 ?_
        obtain ⟨a77, b77, hw⟩ := hw
        refine ml_sld (pc := 405) (i := x3 + 2) X hn a77 b77 dL_law_405 ?_
        refine ml_calllV (pc := 406) (rest := []) X [.int (Int32.ofInt (Q (x3 + 1))), .int (Int32.ofInt (Q (x3 + 2)))] (by decide) rfl (ml_k215 (by decide)) (c_X12_length l base D cA 256 (by decide) σ73 (Q (x3 + 1)) (Q (x3 + 2)) (hn.2.2.2.2.2.1 _) (hn.2.2.2.2.2.1 _) _ hw) cv_L_55 ⟨rfl, rfl⟩ ⟨by decide, by decide⟩ rfl rfl hl (Nat.le_of_ble_eq_true rfl) ⟨by decide, by decide⟩ dL_law_406 (fun r78 σ78 t78 hw => ?_)
        have hw := hw t78
        refine ml_pop2 (pc := 409) X dL_law_409 rfl ?_
        refine ml_goto (pc := 410) (tgt := 1181) X dL_law_410 (by decide) ?_
        exact u_L_law_1181 X hn ih σ78 x3 h_x3 _ (lv_sub hl [0, 1, 2, 3] rfl) hw
      · have hw := hw.2.2.2.2.2.2.2.2.2.1 c4
        refine ml_tIn (pc := 33) (off := 380) (tgt := 413) X c4 dL_law_33 (by decide) (by decide) (by decide +kernel) (by decide) ?_
        refine ml_aload_n (pc := 413) X hl 1 rfl rfl dL_law_413 ?_
        refine ml_aload_n (pc := 414) X hl 0 rfl rfl dL_law_414 ?_
        refine ml_iload_n (pc := 415) X hl 3 rfl rfl dL_law_415 ?_
        refine ml_iconst (pc := 416) X dL_law_416 ?_
        obtain ⟨v79, hw⟩ := hw
        refine ml_iadd (pc := 417) X dL_law_417 ?_
        obtain ⟨a80, b80, hw⟩ := hw
        refine ml_sld (pc := 418) (i := x3 + 1) X hn a80 b80 dL_law_418 ?_
        refine ml_aload_n (pc := 419) X hl 0 rfl rfl dL_law_419 ?_
        refine ml_iload_n (pc := 420) X hl 3 rfl rfl dL_law_420 ?_
        refine ml_iconst (pc := 421) X dL_law_421 ?_
        obtain ⟨v81, hw⟩ := hw
        refine ml_iadd (pc := 422) X dL_law_422 ?_
        obtain ⟨a82, b82, hw⟩ := hw
        refine ml_sld (pc := 423) (i := x3 + 2) X hn a82 b82 dL_law_423 ?_
        refine ml_calllV (pc := 424) (rest := []) X [.int (Int32.ofInt (Q (x3 + 1))), .int (Int32.ofInt (Q (x3 + 2)))] (by decide) rfl (ml_k1 (by decide)) (c_X11_loops l base D cA 256 (by decide) σ (Q (x3 + 1)) (Q (x3 + 2)) (hn.2.2.2.2.2.1 _) (hn.2.2.2.2.2.1 _) _ hw) cv_L_56 ⟨rfl, rfl⟩ ⟨by decide, by decide⟩ rfl rfl hl (Nat.le_of_ble_eq_true rfl) ⟨by decide, by decide⟩ dL_law_424 (fun r83 σ83 t83 hw => ?_)
        have hw := hw t83
        refine ml_pop2 (pc := 427) X dL_law_427 rfl ?_
        refine ml_aload_n (pc := 428) X hl 2 rfl rfl dL_law_428 ?_
        refine ml_aload_n (pc := 429) X hl 0 rfl rfl dL_law_429 ?_
        refine ml_iload_n (pc := 430) X hl 3 rfl rfl dL_law_430 ?_
        refine ml_iconst (pc := 431) X dL_law_431 ?_
        obtain ⟨v84, hw⟩ := hw
        refine ml_iadd (pc := 432) X dL_law_432 ?_
        obtain ⟨a85, b85, hw⟩ := hw
        refine ml_sld (pc := 433) (i := x3 + 1) X hn a85 b85 dL_law_433 ?_
        refine ml_aload_n (pc := 434) X hl 0 rfl rfl dL_law_434 ?_
        refine ml_iload_n (pc := 435) X hl 3 rfl rfl dL_law_435 ?_
        refine ml_iconst (pc := 436) X dL_law_436 ?_
        obtain ⟨v86, hw⟩ := hw
        refine ml_iadd (pc := 437) X dL_law_437 ?_
        obtain ⟨a87, b87, hw⟩ := hw
        refine ml_sld (pc := 438) (i := x3 + 2) X hn a87 b87 dL_law_438 ?_
        refine ml_calllV (pc := 439) (rest := []) X [.int (Int32.ofInt (Q (x3 + 1))), .int (Int32.ofInt (Q (x3 + 2)))] (by decide) rfl (ml_k215 (by decide)) (c_X12_loops l base D cA 256 (by decide) σ83 (Q (x3 + 1)) (Q (x3 + 2)) (hn.2.2.2.2.2.1 _) (hn.2.2.2.2.2.1 _) _ hw) cv_L_59 ⟨rfl, rfl⟩ ⟨by decide, by decide⟩ rfl rfl hl (Nat.le_of_ble_eq_true rfl) ⟨by decide, by decide⟩ dL_law_439 (fun r88 σ88 t88 hw => ?_)
        have hw := hw t88
        refine ml_pop2 (pc := 442) X dL_law_442 rfl ?_
        refine ml_goto (pc := 443) (tgt := 1181) X dL_law_443 (by decide) ?_
        exact u_L_law_1181 X hn ih σ88 x3 h_x3 _ (lv_sub hl [0, 1, 2, 3] rfl) hw
      · have hw := hw.2.2.2.2.2.2.2.2.2.2.1 c4
        refine ml_tIn (pc := 33) (off := 413) (tgt := 446) X c4 dL_law_33 (by decide) (by decide) (by decide +kernel) (by decide) ?_
        refine ml_aload_n (pc := 446) X hl 1 rfl rfl dL_law_446 ?_
        refine ml_aload_n (pc := 447) X hl 0 rfl rfl dL_law_447 ?_
        refine ml_iload_n (pc := 448) X hl 3 rfl rfl dL_law_448 ?_
        refine ml_iconst (pc := 449) X dL_law_449 ?_
        obtain ⟨v89, hw⟩ := hw
        refine ml_iadd (pc := 450) X dL_law_450 ?_
        obtain ⟨a90, b90, hw⟩ := hw
        refine ml_sld (pc := 451) (i := x3 + 1) X hn a90 b90 dL_law_451 ?_
        refine ml_aload_n (pc := 452) X hl 0 rfl rfl dL_law_452 ?_
        refine ml_iload_n (pc := 453) X hl 3 rfl rfl dL_law_453 ?_
        refine ml_iconst (pc := 454) X dL_law_454 ?_
        obtain ⟨v91, hw⟩ := hw
        refine ml_iadd (pc := 455) X dL_law_455 ?_
        obtain ⟨a92, b92, hw⟩ := hw
        refine ml_sld (pc := 456) (i := x3 + 2) X hn a92 b92 dL_law_456 ?_
        refine ml_calliV (pc := 457) (rest := []) X [.int (Int32.ofInt (Q (x3 + 1))), .int (Int32.ofInt (Q (x3 + 2)))] (by decide) rfl (ml_k1 (by decide)) (c_X11_power l base D cA 256 (by decide) σ (Q (x3 + 1)) (Q (x3 + 2)) (hn.2.2.2.2.2.1 _) (hn.2.2.2.2.2.1 _) _ hw) cv_L_60 ⟨rfl, rfl⟩ ⟨by decide, by decide⟩ rfl rfl hl (Nat.le_of_ble_eq_true rfl) ⟨by decide, by decide⟩ dL_law_457 (fun r93 σ93 t93 hw => ?_)
        have hw := hw t93
        refine ml_pop (pc := 460) X dL_law_460 rfl ?_
        refine ml_aload_n (pc := 461) X hl 2 rfl rfl dL_law_461 ?_
        refine ml_aload_n (pc := 462) X hl 0 rfl rfl dL_law_462 ?_
        refine ml_iload_n (pc := 463) X hl 3 rfl rfl dL_law_463 ?_
        refine ml_iconst (pc := 464) X dL_law_464 ?_
        obtain ⟨v94, hw⟩ := hw
        refine ml_iadd (pc := 465) X dL_law_465 ?_
        obtain ⟨a95, b95, hw⟩ := hw
        refine ml_sld (pc := 466) (i := x3 + 1) X hn a95 b95 dL_law_466 ?_
        refine ml_aload_n (pc := 467) X hl 0 rfl rfl dL_law_467 ?_
        refine ml_iload_n (pc := 468) X hl 3 rfl rfl dL_law_468 ?_
        refine ml_iconst (pc := 469) X dL_law_469 ?_
        obtain ⟨v96, hw⟩ := hw
        refine ml_iadd (pc := 470) X dL_law_470 ?_
        obtain ⟨a97, b97, hw⟩ := hw
        refine ml_sld (pc := 471) (i := x3 + 2) X hn a97 b97 dL_law_471 ?_
        refine ml_calliV (pc := 472) (rest := []) X [.int (Int32.ofInt (Q (x3 + 1))), .int (Int32.ofInt (Q (x3 + 2)))] (by decide) rfl (ml_k215 (by decide)) (c_X12_power l base D cA 256 (by decide) σ93 (Q (x3 + 1)) (Q (x3 + 2)) (hn.2.2.2.2.2.1 _) (hn.2.2.2.2.2.1 _) _ hw) cv_L_63 ⟨rfl, rfl⟩ ⟨by decide, by decide⟩ rfl rfl hl (Nat.le_of_ble_eq_true rfl) ⟨by decide, by decide⟩ dL_law_472 (fun r98 σ98 t98 hw => ?_)
        have hw := hw t98
        refine ml_pop (pc := 475) X dL_law_475 rfl ?_
        refine ml_goto (pc := 476) (tgt := 1181) X dL_law_476 (by decide) ?_
        exact u_L_law_1181 X hn ih σ98 x3 h_x3 _ (lv_sub hl [0, 1, 2, 3] rfl) hw
      · have hw := hw.2.2.2.2.2.2.2.2.2.2.2.1 c4
        refine ml_tIn (pc := 33) (off := 446) (tgt := 479) X c4 dL_law_33 (by decide) (by decide) (by decide +kernel) (by decide) ?_
        refine ml_aload_n (pc := 479) X hl 1 rfl rfl dL_law_479 ?_
        refine ml_aload_n (pc := 480) X hl 0 rfl rfl dL_law_480 ?_
        refine ml_iload_n (pc := 481) X hl 3 rfl rfl dL_law_481 ?_
        refine ml_iconst (pc := 482) X dL_law_482 ?_
        obtain ⟨v99, hw⟩ := hw
        refine ml_iadd (pc := 483) X dL_law_483 ?_
        obtain ⟨a100, b100, hw⟩ := hw
        refine ml_sld (pc := 484) (i := x3 + 1) X hn a100 b100 dL_law_484 ?_
        refine ml_aload_n (pc := 485) X hl 0 rfl rfl dL_law_485 ?_
        refine ml_iload_n (pc := 486) X hl 3 rfl rfl dL_law_486 ?_
        refine ml_iconst (pc := 487) X dL_law_487 ?_
        obtain ⟨v101, hw⟩ := hw
        refine ml_iadd (pc := 488) X dL_law_488 ?_
        obtain ⟨a102, b102, hw⟩ := hw
        refine ml_sld (pc := 489) (i := x3 + 2) X hn a102 b102 dL_law_489 ?_
        refine ml_calllV (pc := 490) (rest := []) X [.int (Int32.ofInt (Q (x3 + 1))), .int (Int32.ofInt (Q (x3 + 2)))] (by decide) rfl (ml_k1 (by decide)) (c_X11_rule l base D cA 256 (by decide) σ (Q (x3 + 1)) (Q (x3 + 2)) (hn.2.2.2.2.2.1 _) (hn.2.2.2.2.2.1 _) _ hw) cv_L_64 ⟨rfl, rfl⟩ ⟨by decide, by decide⟩ rfl rfl hl (Nat.le_of_ble_eq_true rfl) ⟨by decide, by decide⟩ dL_law_490 (fun r103 σ103 t103 hw => ?_)
        have hw := hw t103
        refine ml_pop2 (pc := 493) X dL_law_493 rfl ?_
        refine ml_aload_n (pc := 494) X hl 2 rfl rfl dL_law_494 ?_
        refine ml_aload_n (pc := 495) X hl 0 rfl rfl dL_law_495 ?_
        refine ml_iload_n (pc := 496) X hl 3 rfl rfl dL_law_496 ?_
        refine ml_iconst (pc := 497) X dL_law_497 ?_
        obtain ⟨v104, hw⟩ := hw
        refine ml_iadd (pc := 498) X dL_law_498 ?_
        obtain ⟨a105, b105, hw⟩ := hw
        refine ml_sld (pc := 499) (i := x3 + 1) X hn a105 b105 dL_law_499 ?_
        refine ml_aload_n (pc := 500) X hl 0 rfl rfl dL_law_500 ?_
        refine ml_iload_n (pc := 501) X hl 3 rfl rfl dL_law_501 ?_
        refine ml_iconst (pc := 502) X dL_law_502 ?_
        obtain ⟨v106, hw⟩ := hw
        refine ml_iadd (pc := 503) X dL_law_503 ?_
        obtain ⟨a107, b107, hw⟩ := hw
        refine ml_sld (pc := 504) (i := x3 + 2) X hn a107 b107 dL_law_504 ?_
        refine ml_calllV (pc := 505) (rest := []) X [.int (Int32.ofInt (Q (x3 + 1))), .int (Int32.ofInt (Q (x3 + 2)))] (by decide) rfl (ml_k215 (by decide)) (c_X12_rule l base D cA 256 (by decide) σ103 (Q (x3 + 1)) (Q (x3 + 2)) (hn.2.2.2.2.2.1 _) (hn.2.2.2.2.2.1 _) _ hw) cv_L_67 ⟨rfl, rfl⟩ ⟨by decide, by decide⟩ rfl rfl hl (Nat.le_of_ble_eq_true rfl) ⟨by decide, by decide⟩ dL_law_505 (fun r108 σ108 t108 hw => ?_)
        have hw := hw t108
        refine ml_pop2 (pc := 508) X dL_law_508 rfl ?_
        refine ml_goto (pc := 509) (tgt := 1181) X dL_law_509 (by decide) ?_
        exact u_L_law_1181 X hn ih σ108 x3 h_x3 _ (lv_sub hl [0, 1, 2, 3] rfl) hw
      · have hw := hw.2.2.2.2.2.2.2.2.2.2.2.2.1 c4
        refine ml_tIn (pc := 33) (off := 479) (tgt := 512) X c4 dL_law_33 (by decide) (by decide) (by decide +kernel) (by decide) ?_
        refine ml_aload_n (pc := 512) X hl 1 rfl rfl dL_law_512 ?_
        refine ml_aload_n (pc := 513) X hl 0 rfl rfl dL_law_513 ?_
        refine ml_iload_n (pc := 514) X hl 3 rfl rfl dL_law_514 ?_
        refine ml_iconst (pc := 515) X dL_law_515 ?_
        obtain ⟨v109, hw⟩ := hw
        refine ml_iadd (pc := 516) X dL_law_516 ?_
        obtain ⟨a110, b110, hw⟩ := hw
        refine ml_sld (pc := 517) (i := x3 + 1) X hn a110 b110 dL_law_517 ?_
        refine ml_aload_n (pc := 518) X hl 0 rfl rfl dL_law_518 ?_
        refine ml_iload_n (pc := 519) X hl 3 rfl rfl dL_law_519 ?_
        refine ml_iconst (pc := 520) X dL_law_520 ?_
        obtain ⟨v111, hw⟩ := hw
        refine ml_iadd (pc := 521) X dL_law_521 ?_
        obtain ⟨a112, b112, hw⟩ := hw
        refine ml_sld (pc := 522) (i := x3 + 2) X hn a112 b112 dL_law_522 ?_
        refine ml_i2l (pc := 523) X (hn.2.2.2.2.2.1 _) dL_law_523 ?_
        refine ml_bipush (pc := 524) X dL_law_524 (by decide) ?_
        refine ml_lshl (pc := 526) X dL_law_526 ?_
        refine ml_aload_n (pc := 527) X hl 0 rfl rfl dL_law_527 ?_
        refine ml_iload_n (pc := 528) X hl 3 rfl rfl dL_law_528 ?_
        refine ml_iconst (pc := 529) X dL_law_529 ?_
        obtain ⟨v113, hw⟩ := hw
        refine ml_iadd (pc := 530) X dL_law_530 ?_
        obtain ⟨a114, b114, hw⟩ := hw
        refine ml_sld (pc := 531) (i := x3 + 3) X hn a114 b114 dL_law_531 ?_
        refine ml_i2l (pc := 532) X (hn.2.2.2.2.2.1 _) dL_law_532 ?_
        refine ml_ldc2 (pc := 533) (v := 4294967295) X dL_law_533 tc_7_17 ?_
        refine ml_land (pc := 536) X dL_law_536 ?_
        refine ml_lor (pc := 537) X dL_law_537 ?_
        refine ml_calllV (pc := 538) (rest := []) X [.int (Int32.ofInt (Q (x3 + 1))), .long (Int64.ofInt (b_lor (b_lshl (Q (x3 + 2)) 32) (b_land (Q (x3 + 3)) 4294967295)))] (by decide) rfl (ml_k1 (by decide)) (c_X11_left l base D cA 256 (by decide) σ (Q (x3 + 1)) (b_lor (b_lshl (Q (x3 + 2)) 32) (b_land (Q (x3 + 3)) 4294967295)) (hn.2.2.2.2.2.1 _) (b_lor_r _ _) _ hw) cv_L_70 ⟨rfl, rfl⟩ ⟨by decide, by decide⟩ rfl rfl hl (Nat.le_of_ble_eq_true rfl) ⟨by decide, by decide⟩ dL_law_538 (fun r115 σ115 t115 hw => ?_)
        have hw := hw t115
        refine ml_pop2 (pc := 541) X dL_law_541 rfl ?_
        refine ml_aload_n (pc := 542) X hl 2 rfl rfl dL_law_542 ?_
        refine ml_aload_n (pc := 543) X hl 0 rfl rfl dL_law_543 ?_
        refine ml_iload_n (pc := 544) X hl 3 rfl rfl dL_law_544 ?_
        refine ml_iconst (pc := 545) X dL_law_545 ?_
        obtain ⟨v116, hw⟩ := hw
        refine ml_iadd (pc := 546) X dL_law_546 ?_
        obtain ⟨a117, b117, hw⟩ := hw
        refine ml_sld (pc := 547) (i := x3 + 1) X hn a117 b117 dL_law_547 ?_
        refine ml_aload_n (pc := 548) X hl 0 rfl rfl dL_law_548 ?_
        refine ml_iload_n (pc := 549) X hl 3 rfl rfl dL_law_549 ?_
        refine ml_iconst (pc := 550) X dL_law_550 ?_
        obtain ⟨v118, hw⟩ := hw
        refine ml_iadd (pc := 551) X dL_law_551 ?_
        obtain ⟨a119, b119, hw⟩ := hw
        refine ml_sld (pc := 552) (i := x3 + 2) X hn a119 b119 dL_law_552 ?_
        refine ml_i2l (pc := 553) X (hn.2.2.2.2.2.1 _) dL_law_553 ?_
        refine ml_bipush (pc := 554) X dL_law_554 (by decide) ?_
        refine ml_lshl (pc := 556) X dL_law_556 ?_
        refine ml_aload_n (pc := 557) X hl 0 rfl rfl dL_law_557 ?_
        refine ml_iload_n (pc := 558) X hl 3 rfl rfl dL_law_558 ?_
        refine ml_iconst (pc := 559) X dL_law_559 ?_
        obtain ⟨v120, hw⟩ := hw
        refine ml_iadd (pc := 560) X dL_law_560 ?_
        obtain ⟨a121, b121, hw⟩ := hw
        refine ml_sld (pc := 561) (i := x3 + 3) X hn a121 b121 dL_law_561 ?_
        refine ml_i2l (pc := 562) X (hn.2.2.2.2.2.1 _) dL_law_562 ?_
        refine ml_ldc2 (pc := 563) (v := 4294967295) X dL_law_563 tc_7_17 ?_
        refine ml_land (pc := 566) X dL_law_566 ?_
        refine ml_lor (pc := 567) X dL_law_567 ?_
        refine ml_calllV (pc := 568) (rest := []) X [.int (Int32.ofInt (Q (x3 + 1))), .long (Int64.ofInt (b_lor (b_lshl (Q (x3 + 2)) 32) (b_land (Q (x3 + 3)) 4294967295)))] (by decide) rfl (ml_k215 (by decide)) (c_X12_left l base D cA 256 (by decide) σ115 (Q (x3 + 1)) (b_lor (b_lshl (Q (x3 + 2)) 32) (b_land (Q (x3 + 3)) 4294967295)) (hn.2.2.2.2.2.1 _) (b_lor_r _ _) _ hw) cv_L_74 ⟨rfl, rfl⟩ ⟨by decide, by decide⟩ rfl rfl hl (Nat.le_of_ble_eq_true rfl) ⟨by decide, by decide⟩ dL_law_568 (fun r122 σ122 t122 hw => ?_)
        have hw := hw t122
        refine ml_pop2 (pc := 571) X dL_law_571 rfl ?_
        refine ml_goto (pc := 572) (tgt := 1181) X dL_law_572 (by decide) ?_
        exact u_L_law_1181 X hn ih σ122 x3 h_x3 _ (lv_sub hl [0, 1, 2, 3] rfl) hw
      · have hw := hw.2.2.2.2.2.2.2.2.2.2.2.2.2.1 c4
        refine ml_tIn (pc := 33) (off := 542) (tgt := 575) X c4 dL_law_33 (by decide) (by decide) (by decide +kernel) (by decide) ?_
        refine ml_aload_n (pc := 575) X hl 1 rfl rfl dL_law_575 ?_
        refine ml_aload_n (pc := 576) X hl 0 rfl rfl dL_law_576 ?_
        refine ml_iload_n (pc := 577) X hl 3 rfl rfl dL_law_577 ?_
        refine ml_iconst (pc := 578) X dL_law_578 ?_
        obtain ⟨v123, hw⟩ := hw
        refine ml_iadd (pc := 579) X dL_law_579 ?_
        obtain ⟨a124, b124, hw⟩ := hw
        refine ml_sld (pc := 580) (i := x3 + 1) X hn a124 b124 dL_law_580 ?_
        refine ml_aload_n (pc := 581) X hl 0 rfl rfl dL_law_581 ?_
        refine ml_iload_n (pc := 582) X hl 3 rfl rfl dL_law_582 ?_
        refine ml_iconst (pc := 583) X dL_law_583 ?_
        obtain ⟨v125, hw⟩ := hw
        refine ml_iadd (pc := 584) X dL_law_584 ?_
        obtain ⟨a126, b126, hw⟩ := hw
        refine ml_sld (pc := 585) (i := x3 + 2) X hn a126 b126 dL_law_585 ?_
        refine ml_i2l (pc := 586) X (hn.2.2.2.2.2.1 _) dL_law_586 ?_
        refine ml_bipush (pc := 587) X dL_law_587 (by decide) ?_
        refine ml_lshl (pc := 589) X dL_law_589 ?_
        refine ml_aload_n (pc := 590) X hl 0 rfl rfl dL_law_590 ?_
        refine ml_iload_n (pc := 591) X hl 3 rfl rfl dL_law_591 ?_
        refine ml_iconst (pc := 592) X dL_law_592 ?_
        obtain ⟨v127, hw⟩ := hw
        refine ml_iadd (pc := 593) X dL_law_593 ?_
        obtain ⟨a128, b128, hw⟩ := hw
        refine ml_sld (pc := 594) (i := x3 + 3) X hn a128 b128 dL_law_594 ?_
        refine ml_i2l (pc := 595) X (hn.2.2.2.2.2.1 _) dL_law_595 ?_
        refine ml_ldc2 (pc := 596) (v := 4294967295) X dL_law_596 tc_7_17 ?_
        refine ml_land (pc := 599) X dL_law_599 ?_
        refine ml_lor (pc := 600) X dL_law_600 ?_
        refine ml_aload_n (pc := 601) X hl 0 rfl rfl dL_law_601 ?_
        refine ml_iload_n (pc := 602) X hl 3 rfl rfl dL_law_602 ?_
        refine ml_iconst (pc := 603) X dL_law_603 ?_
        obtain ⟨v129, hw⟩ := hw
        refine ml_iadd (pc := 604) X dL_law_604 ?_
        obtain ⟨a130, b130, hw⟩ := hw
        refine ml_sld (pc := 605) (i := x3 + 4) X hn a130 b130 dL_law_605 ?_
        refine ml_i2l (pc := 606) X (hn.2.2.2.2.2.1 _) dL_law_606 ?_
        refine ml_bipush (pc := 607) X dL_law_607 (by decide) ?_
        refine ml_lshl (pc := 609) X dL_law_609 ?_
        refine ml_aload_n (pc := 610) X hl 0 rfl rfl dL_law_610 ?_
        refine ml_iload_n (pc := 611) X hl 3 rfl rfl dL_law_611 ?_
        refine ml_iconst (pc := 612) X dL_law_612 ?_
        obtain ⟨v131, hw⟩ := hw
        refine ml_iadd (pc := 613) X dL_law_613 ?_
        obtain ⟨a132, b132, hw⟩ := hw
        refine ml_sld (pc := 614) (i := x3 + 5) X hn a132 b132 dL_law_614 ?_
        refine ml_i2l (pc := 615) X (hn.2.2.2.2.2.1 _) dL_law_615 ?_
        refine ml_ldc2 (pc := 616) (v := 4294967295) X dL_law_616 tc_7_17 ?_
        refine ml_land (pc := 619) X dL_law_619 ?_
        refine ml_lor (pc := 620) X dL_law_620 ?_
        refine ml_aload_n (pc := 621) X hl 0 rfl rfl dL_law_621 ?_
        refine ml_iload_n (pc := 622) X hl 3 rfl rfl dL_law_622 ?_
        refine ml_bipush (pc := 623) X dL_law_623 (by decide) ?_
        obtain ⟨v133, hw⟩ := hw
        refine ml_iadd (pc := 625) X dL_law_625 ?_
        obtain ⟨a134, b134, hw⟩ := hw
        refine ml_sld (pc := 626) (i := x3 + 6) X hn a134 b134 dL_law_626 ?_
        refine ml_i2l (pc := 627) X (hn.2.2.2.2.2.1 _) dL_law_627 ?_
        refine ml_bipush (pc := 628) X dL_law_628 (by decide) ?_
        refine ml_lshl (pc := 630) X dL_law_630 ?_
        refine ml_aload_n (pc := 631) X hl 0 rfl rfl dL_law_631 ?_
        refine ml_iload_n (pc := 632) X hl 3 rfl rfl dL_law_632 ?_
        refine ml_bipush (pc := 633) X dL_law_633 (by decide) ?_
        obtain ⟨v135, hw⟩ := hw
        refine ml_iadd (pc := 635) X dL_law_635 ?_
        obtain ⟨a136, b136, hw⟩ := hw
        refine ml_sld (pc := 636) (i := x3 + 7) X hn a136 b136 dL_law_636 ?_
        refine ml_i2l (pc := 637) X (hn.2.2.2.2.2.1 _) dL_law_637 ?_
        refine ml_ldc2 (pc := 638) (v := 4294967295) X dL_law_638 tc_7_17 ?_
        refine ml_land (pc := 641) X dL_law_641 ?_
        refine ml_lor (pc := 642) X dL_law_642 ?_
        refine ml_calllV (pc := 643) (rest := []) X [.int (Int32.ofInt (Q (x3 + 1))), .long (Int64.ofInt (b_lor (b_lshl (Q (x3 + 2)) 32) (b_land (Q (x3 + 3)) 4294967295))), .long (Int64.ofInt (b_lor (b_lshl (Q (x3 + 4)) 32) (b_land (Q (x3 + 5)) 4294967295))), .long (Int64.ofInt (b_lor (b_lshl (Q (x3 + 6)) 32) (b_land (Q (x3 + 7)) 4294967295)))] (by decide) rfl (ml_k1 (by decide)) (c_X11_those l base D cA 256 (by decide) σ (Q (x3 + 1)) (b_lor (b_lshl (Q (x3 + 2)) 32) (b_land (Q (x3 + 3)) 4294967295)) (b_lor (b_lshl (Q (x3 + 4)) 32) (b_land (Q (x3 + 5)) 4294967295)) (b_lor (b_lshl (Q (x3 + 6)) 32) (b_land (Q (x3 + 7)) 4294967295)) (hn.2.2.2.2.2.1 _) (b_lor_r _ _) (b_lor_r _ _) (b_lor_r _ _) _ hw) cv_L_75 ⟨rfl, rfl⟩ ⟨by decide, by decide⟩ rfl rfl hl (Nat.le_of_ble_eq_true rfl) ⟨by decide, by decide⟩ dL_law_643 (fun r137 σ137 t137 hw => ?_)
        have hw := hw t137
        refine ml_pop2 (pc := 646) X dL_law_646 rfl ?_
        refine ml_aload_n (pc := 647) X hl 2 rfl rfl dL_law_647 ?_
        refine ml_aload_n (pc := 648) X hl 0 rfl rfl dL_law_648 ?_
        refine ml_iload_n (pc := 649) X hl 3 rfl rfl dL_law_649 ?_
        refine ml_iconst (pc := 650) X dL_law_650 ?_
        obtain ⟨v138, hw⟩ := hw
        refine ml_iadd (pc := 651) X dL_law_651 ?_
        obtain ⟨a139, b139, hw⟩ := hw
        refine ml_sld (pc := 652) (i := x3 + 1) X hn a139 b139 dL_law_652 ?_
        refine ml_aload_n (pc := 653) X hl 0 rfl rfl dL_law_653 ?_
        refine ml_iload_n (pc := 654) X hl 3 rfl rfl dL_law_654 ?_
        refine ml_iconst (pc := 655) X dL_law_655 ?_
        obtain ⟨v140, hw⟩ := hw
        refine ml_iadd (pc := 656) X dL_law_656 ?_
        obtain ⟨a141, b141, hw⟩ := hw
        refine ml_sld (pc := 657) (i := x3 + 2) X hn a141 b141 dL_law_657 ?_
        refine ml_i2l (pc := 658) X (hn.2.2.2.2.2.1 _) dL_law_658 ?_
        refine ml_bipush (pc := 659) X dL_law_659 (by decide) ?_
        refine ml_lshl (pc := 661) X dL_law_661 ?_
        refine ml_aload_n (pc := 662) X hl 0 rfl rfl dL_law_662 ?_
        refine ml_iload_n (pc := 663) X hl 3 rfl rfl dL_law_663 ?_
        refine ml_iconst (pc := 664) X dL_law_664 ?_
        obtain ⟨v142, hw⟩ := hw
        refine ml_iadd (pc := 665) X dL_law_665 ?_
        obtain ⟨a143, b143, hw⟩ := hw
        refine ml_sld (pc := 666) (i := x3 + 3) X hn a143 b143 dL_law_666 ?_
        refine ml_i2l (pc := 667) X (hn.2.2.2.2.2.1 _) dL_law_667 ?_
        refine ml_ldc2 (pc := 668) (v := 4294967295) X dL_law_668 tc_7_17 ?_
        refine ml_land (pc := 671) X dL_law_671 ?_
        refine ml_lor (pc := 672) X dL_law_672 ?_
        refine ml_aload_n (pc := 673) X hl 0 rfl rfl dL_law_673 ?_
        refine ml_iload_n (pc := 674) X hl 3 rfl rfl dL_law_674 ?_
        refine ml_iconst (pc := 675) X dL_law_675 ?_
        obtain ⟨v144, hw⟩ := hw
        refine ml_iadd (pc := 676) X dL_law_676 ?_
        obtain ⟨a145, b145, hw⟩ := hw
        refine ml_sld (pc := 677) (i := x3 + 4) X hn a145 b145 dL_law_677 ?_
        refine ml_i2l (pc := 678) X (hn.2.2.2.2.2.1 _) dL_law_678 ?_
        refine ml_bipush (pc := 679) X dL_law_679 (by decide) ?_
        refine ml_lshl (pc := 681) X dL_law_681 ?_
        refine ml_aload_n (pc := 682) X hl 0 rfl rfl dL_law_682 ?_
        refine ml_iload_n (pc := 683) X hl 3 rfl rfl dL_law_683 ?_
        refine ml_iconst (pc := 684) X dL_law_684 ?_
        obtain ⟨v146, hw⟩ := hw
        refine ml_iadd (pc := 685) X dL_law_685 ?_
        obtain ⟨a147, b147, hw⟩ := hw
        refine ml_sld (pc := 686) (i := x3 + 5) X hn a147 b147 dL_law_686 ?_
        refine ml_i2l (pc := 687) X (hn.2.2.2.2.2.1 _) dL_law_687 ?_
        refine ml_ldc2 (pc := 688) (v := 4294967295) X dL_law_688 tc_7_17 ?_
        refine ml_land (pc := 691) X dL_law_691 ?_
        refine ml_lor (pc := 692) X dL_law_692 ?_
        refine ml_aload_n (pc := 693) X hl 0 rfl rfl dL_law_693 ?_
        refine ml_iload_n (pc := 694) X hl 3 rfl rfl dL_law_694 ?_
        refine ml_bipush (pc := 695) X dL_law_695 (by decide) ?_
        obtain ⟨v148, hw⟩ := hw
        refine ml_iadd (pc := 697) X dL_law_697 ?_
        obtain ⟨a149, b149, hw⟩ := hw
        refine ml_sld (pc := 698) (i := x3 + 6) X hn a149 b149 dL_law_698 ?_
        refine ml_i2l (pc := 699) X (hn.2.2.2.2.2.1 _) dL_law_699 ?_
        refine ml_bipush (pc := 700) X dL_law_700 (by decide) ?_
        refine ml_lshl (pc := 702) X dL_law_702 ?_
        refine ml_aload_n (pc := 703) X hl 0 rfl rfl dL_law_703 ?_
        refine ml_iload_n (pc := 704) X hl 3 rfl rfl dL_law_704 ?_
        refine ml_bipush (pc := 705) X dL_law_705 (by decide) ?_
        obtain ⟨v150, hw⟩ := hw
        refine ml_iadd (pc := 707) X dL_law_707 ?_
        obtain ⟨a151, b151, hw⟩ := hw
        refine ml_sld (pc := 708) (i := x3 + 7) X hn a151 b151 dL_law_708 ?_
        refine ml_i2l (pc := 709) X (hn.2.2.2.2.2.1 _) dL_law_709 ?_
        refine ml_ldc2 (pc := 710) (v := 4294967295) X dL_law_710 tc_7_17 ?_
        refine ml_land (pc := 713) X dL_law_713 ?_
        refine ml_lor (pc := 714) X dL_law_714 ?_
        refine ml_calllV (pc := 715) (rest := []) X [.int (Int32.ofInt (Q (x3 + 1))), .long (Int64.ofInt (b_lor (b_lshl (Q (x3 + 2)) 32) (b_land (Q (x3 + 3)) 4294967295))), .long (Int64.ofInt (b_lor (b_lshl (Q (x3 + 4)) 32) (b_land (Q (x3 + 5)) 4294967295))), .long (Int64.ofInt (b_lor (b_lshl (Q (x3 + 6)) 32) (b_land (Q (x3 + 7)) 4294967295)))] (by decide) rfl (ml_k215 (by decide)) (c_X12_those l base D cA 256 (by decide) σ137 (Q (x3 + 1)) (b_lor (b_lshl (Q (x3 + 2)) 32) (b_land (Q (x3 + 3)) 4294967295)) (b_lor (b_lshl (Q (x3 + 4)) 32) (b_land (Q (x3 + 5)) 4294967295)) (b_lor (b_lshl (Q (x3 + 6)) 32) (b_land (Q (x3 + 7)) 4294967295)) (hn.2.2.2.2.2.1 _) (b_lor_r _ _) (b_lor_r _ _) (b_lor_r _ _) _ hw) cv_L_79 ⟨rfl, rfl⟩ ⟨by decide, by decide⟩ rfl rfl hl (Nat.le_of_ble_eq_true rfl) ⟨by decide, by decide⟩ dL_law_715 (fun r152 σ152 t152 hw => ?_)
        have hw := hw t152
        refine ml_pop2 (pc := 718) X dL_law_718 rfl ?_
        refine ml_goto (pc := 719) (tgt := 1181) X dL_law_719 (by decide) ?_
        exact u_L_law_1181 X hn ih σ152 x3 h_x3 _ (lv_sub hl [0, 1, 2, 3] rfl) hw
      · have hw := hw.2.2.2.2.2.2.2.2.2.2.2.2.2.2.1 c4
        refine ml_tIn (pc := 33) (off := 689) (tgt := 722) X c4 dL_law_33 (by decide) (by decide) (by decide +kernel) (by decide) ?_
        refine ml_aload_n (pc := 722) X hl 1 rfl rfl dL_law_722 ?_
        refine ml_aload_n (pc := 723) X hl 0 rfl rfl dL_law_723 ?_
        refine ml_iload_n (pc := 724) X hl 3 rfl rfl dL_law_724 ?_
        refine ml_iconst (pc := 725) X dL_law_725 ?_
        obtain ⟨v153, hw⟩ := hw
        refine ml_iadd (pc := 726) X dL_law_726 ?_
        obtain ⟨a154, b154, hw⟩ := hw
        refine ml_sld (pc := 727) (i := x3 + 1) X hn a154 b154 dL_law_727 ?_
        refine ml_aload_n (pc := 728) X hl 0 rfl rfl dL_law_728 ?_
        refine ml_iload_n (pc := 729) X hl 3 rfl rfl dL_law_729 ?_
        refine ml_iconst (pc := 730) X dL_law_730 ?_
        obtain ⟨v155, hw⟩ := hw
        refine ml_iadd (pc := 731) X dL_law_731 ?_
        obtain ⟨a156, b156, hw⟩ := hw
        refine ml_sld (pc := 732) (i := x3 + 2) X hn a156 b156 dL_law_732 ?_
        refine ml_i2l (pc := 733) X (hn.2.2.2.2.2.1 _) dL_law_733 ?_
        refine ml_bipush (pc := 734) X dL_law_734 (by decide) ?_
        refine ml_lshl (pc := 736) X dL_law_736 ?_
        refine ml_aload_n (pc := 737) X hl 0 rfl rfl dL_law_737 ?_
        refine ml_iload_n (pc := 738) X hl 3 rfl rfl dL_law_738 ?_
        refine ml_iconst (pc := 739) X dL_law_739 ?_
        obtain ⟨v157, hw⟩ := hw
        refine ml_iadd (pc := 740) X dL_law_740 ?_
        obtain ⟨a158, b158, hw⟩ := hw
        refine ml_sld (pc := 741) (i := x3 + 3) X hn a158 b158 dL_law_741 ?_
        refine ml_i2l (pc := 742) X (hn.2.2.2.2.2.1 _) dL_law_742 ?_
        refine ml_ldc2 (pc := 743) (v := 4294967295) X dL_law_743 tc_7_17 ?_
        refine ml_land (pc := 746) X dL_law_746 ?_
        refine ml_lor (pc := 747) X dL_law_747 ?_
        refine ml_calllV (pc := 748) (rest := []) X [.int (Int32.ofInt (Q (x3 + 1))), .long (Int64.ofInt (b_lor (b_lshl (Q (x3 + 2)) 32) (b_land (Q (x3 + 3)) 4294967295)))] (by decide) rfl (ml_k1 (by decide)) (c_X11_first l base D cA 256 (by decide) σ (Q (x3 + 1)) (b_lor (b_lshl (Q (x3 + 2)) 32) (b_land (Q (x3 + 3)) 4294967295)) (hn.2.2.2.2.2.1 _) (b_lor_r _ _) _ hw) cv_L_80 ⟨rfl, rfl⟩ ⟨by decide, by decide⟩ rfl rfl hl (Nat.le_of_ble_eq_true rfl) ⟨by decide, by decide⟩ dL_law_748 (fun r159 σ159 t159 hw => ?_)
        have hw := hw t159
        refine ml_pop2 (pc := 751) X dL_law_751 rfl ?_
        refine ml_aload_n (pc := 752) X hl 2 rfl rfl dL_law_752 ?_
        refine ml_aload_n (pc := 753) X hl 0 rfl rfl dL_law_753 ?_
        refine ml_iload_n (pc := 754) X hl 3 rfl rfl dL_law_754 ?_
        refine ml_iconst (pc := 755) X dL_law_755 ?_
        obtain ⟨v160, hw⟩ := hw
        refine ml_iadd (pc := 756) X dL_law_756 ?_
        obtain ⟨a161, b161, hw⟩ := hw
        refine ml_sld (pc := 757) (i := x3 + 1) X hn a161 b161 dL_law_757 ?_
        refine ml_aload_n (pc := 758) X hl 0 rfl rfl dL_law_758 ?_
        refine ml_iload_n (pc := 759) X hl 3 rfl rfl dL_law_759 ?_
        refine ml_iconst (pc := 760) X dL_law_760 ?_
        obtain ⟨v162, hw⟩ := hw
        refine ml_iadd (pc := 761) X dL_law_761 ?_
        obtain ⟨a163, b163, hw⟩ := hw
        refine ml_sld (pc := 762) (i := x3 + 2) X hn a163 b163 dL_law_762 ?_
        refine ml_i2l (pc := 763) X (hn.2.2.2.2.2.1 _) dL_law_763 ?_
        refine ml_bipush (pc := 764) X dL_law_764 (by decide) ?_
        refine ml_lshl (pc := 766) X dL_law_766 ?_
        refine ml_aload_n (pc := 767) X hl 0 rfl rfl dL_law_767 ?_
        refine ml_iload_n (pc := 768) X hl 3 rfl rfl dL_law_768 ?_
        refine ml_iconst (pc := 769) X dL_law_769 ?_
        obtain ⟨v164, hw⟩ := hw
        refine ml_iadd (pc := 770) X dL_law_770 ?_
        obtain ⟨a165, b165, hw⟩ := hw
        refine ml_sld (pc := 771) (i := x3 + 3) X hn a165 b165 dL_law_771 ?_
        refine ml_i2l (pc := 772) X (hn.2.2.2.2.2.1 _) dL_law_772 ?_
        refine ml_ldc2 (pc := 773) (v := 4294967295) X dL_law_773 tc_7_17 ?_
        refine ml_land (pc := 776) X dL_law_776 ?_
        refine ml_lor (pc := 777) X dL_law_777 ?_
        refine ml_calllV (pc := 778) (rest := []) X [.int (Int32.ofInt (Q (x3 + 1))), .long (Int64.ofInt (b_lor (b_lshl (Q (x3 + 2)) 32) (b_land (Q (x3 + 3)) 4294967295)))] (by decide) rfl (ml_k215 (by decide)) (c_X12_first l base D cA 256 (by decide) σ159 (Q (x3 + 1)) (b_lor (b_lshl (Q (x3 + 2)) 32) (b_land (Q (x3 + 3)) 4294967295)) (hn.2.2.2.2.2.1 _) (b_lor_r _ _) _ hw) cv_L_83 ⟨rfl, rfl⟩ ⟨by decide, by decide⟩ rfl rfl hl (Nat.le_of_ble_eq_true rfl) ⟨by decide, by decide⟩ dL_law_778 (fun r166 σ166 t166 hw => ?_)
        have hw := hw t166
        refine ml_pop2 (pc := 781) X dL_law_781 rfl ?_
        refine ml_goto (pc := 782) (tgt := 1181) X dL_law_782 (by decide) ?_
        exact u_L_law_1181 X hn ih σ166 x3 h_x3 _ (lv_sub hl [0, 1, 2, 3] rfl) hw
      · have hw := hw.2.2.2.2.2.2.2.2.2.2.2.2.2.2.2.1 c4
        refine ml_tIn (pc := 33) (off := 752) (tgt := 785) X c4 dL_law_33 (by decide) (by decide) (by decide +kernel) (by decide) ?_
        refine ml_aload_n (pc := 785) X hl 1 rfl rfl dL_law_785 ?_
        refine ml_aload_n (pc := 786) X hl 0 rfl rfl dL_law_786 ?_
        refine ml_iload_n (pc := 787) X hl 3 rfl rfl dL_law_787 ?_
        refine ml_iconst (pc := 788) X dL_law_788 ?_
        obtain ⟨v167, hw⟩ := hw
        refine ml_iadd (pc := 789) X dL_law_789 ?_
        obtain ⟨a168, b168, hw⟩ := hw
        refine ml_sld (pc := 790) (i := x3 + 1) X hn a168 b168 dL_law_790 ?_
        refine ml_aload_n (pc := 791) X hl 0 rfl rfl dL_law_791 ?_
        refine ml_iload_n (pc := 792) X hl 3 rfl rfl dL_law_792 ?_
        refine ml_iconst (pc := 793) X dL_law_793 ?_
        obtain ⟨v169, hw⟩ := hw
        refine ml_iadd (pc := 794) X dL_law_794 ?_
        obtain ⟨a170, b170, hw⟩ := hw
        refine ml_sld (pc := 795) (i := x3 + 2) X hn a170 b170 dL_law_795 ?_
        refine ml_aload_n (pc := 796) X hl 0 rfl rfl dL_law_796 ?_
        refine ml_iload_n (pc := 797) X hl 3 rfl rfl dL_law_797 ?_
        refine ml_iconst (pc := 798) X dL_law_798 ?_
        obtain ⟨v171, hw⟩ := hw
        refine ml_iadd (pc := 799) X dL_law_799 ?_
        obtain ⟨a172, b172, hw⟩ := hw
        refine ml_sld (pc := 800) (i := x3 + 3) X hn a172 b172 dL_law_800 ?_
        refine ml_calliV (pc := 801) (rest := []) X [.int (Int32.ofInt (Q (x3 + 1))), .int (Int32.ofInt (Q (x3 + 2))), .int (Int32.ofInt (Q (x3 + 3)))] (by decide) rfl (ml_k1 (by decide)) (c_X11_both l base D cA 256 (by decide) σ (Q (x3 + 1)) (Q (x3 + 2)) (Q (x3 + 3)) (hn.2.2.2.2.2.1 _) (hn.2.2.2.2.2.1 _) (hn.2.2.2.2.2.1 _) _ hw) cv_L_84 ⟨rfl, rfl⟩ ⟨by decide, by decide⟩ rfl rfl hl (Nat.le_of_ble_eq_true rfl) ⟨by decide, by decide⟩ dL_law_801 (fun r173 σ173 t173 hw => ?_)
        have hw := hw t173
        refine ml_pop (pc := 804) X dL_law_804 rfl ?_
        refine ml_aload_n (pc := 805) X hl 2 rfl rfl dL_law_805 ?_
        refine ml_aload_n (pc := 806) X hl 0 rfl rfl dL_law_806 ?_
        refine ml_iload_n (pc := 807) X hl 3 rfl rfl dL_law_807 ?_
        refine ml_iconst (pc := 808) X dL_law_808 ?_
        obtain ⟨v174, hw⟩ := hw
        refine ml_iadd (pc := 809) X dL_law_809 ?_
        obtain ⟨a175, b175, hw⟩ := hw
        refine ml_sld (pc := 810) (i := x3 + 1) X hn a175 b175 dL_law_810 ?_
        refine ml_aload_n (pc := 811) X hl 0 rfl rfl dL_law_811 ?_
        refine ml_iload_n (pc := 812) X hl 3 rfl rfl dL_law_812 ?_
        refine ml_iconst (pc := 813) X dL_law_813 ?_
        obtain ⟨v176, hw⟩ := hw
        refine ml_iadd (pc := 814) X dL_law_814 ?_
        obtain ⟨a177, b177, hw⟩ := hw
        refine ml_sld (pc := 815) (i := x3 + 2) X hn a177 b177 dL_law_815 ?_
        refine ml_aload_n (pc := 816) X hl 0 rfl rfl dL_law_816 ?_
        refine ml_iload_n (pc := 817) X hl 3 rfl rfl dL_law_817 ?_
        refine ml_iconst (pc := 818) X dL_law_818 ?_
        obtain ⟨v178, hw⟩ := hw
        refine ml_iadd (pc := 819) X dL_law_819 ?_
        obtain ⟨a179, b179, hw⟩ := hw
        refine ml_sld (pc := 820) (i := x3 + 3) X hn a179 b179 dL_law_820 ?_
        refine ml_calliV (pc := 821) (rest := []) X [.int (Int32.ofInt (Q (x3 + 1))), .int (Int32.ofInt (Q (x3 + 2))), .int (Int32.ofInt (Q (x3 + 3)))] (by decide) rfl (ml_k215 (by decide)) (c_X12_both l base D cA 256 (by decide) σ173 (Q (x3 + 1)) (Q (x3 + 2)) (Q (x3 + 3)) (hn.2.2.2.2.2.1 _) (hn.2.2.2.2.2.1 _) (hn.2.2.2.2.2.1 _) _ hw) cv_L_88 ⟨rfl, rfl⟩ ⟨by decide, by decide⟩ rfl rfl hl (Nat.le_of_ble_eq_true rfl) ⟨by decide, by decide⟩ dL_law_821 (fun r180 σ180 t180 hw => ?_)
        have hw := hw t180
        refine ml_pop (pc := 824) X dL_law_824 rfl ?_
        refine ml_goto (pc := 825) (tgt := 1181) X dL_law_825 (by decide) ?_
        exact u_L_law_1181 X hn ih σ180 x3 h_x3 _ (lv_sub hl [0, 1, 2, 3] rfl) hw
      · have hw := hw.2.2.2.2.2.2.2.2.2.2.2.2.2.2.2.2.1 c4
        refine ml_tIn (pc := 33) (off := 795) (tgt := 828) X c4 dL_law_33 (by decide) (by decide) (by decide +kernel) (by decide) ?_
        refine ml_aload_n (pc := 828) X hl 1 rfl rfl dL_law_828 ?_
        refine ml_aload_n (pc := 829) X hl 0 rfl rfl dL_law_829 ?_
        refine ml_iload_n (pc := 830) X hl 3 rfl rfl dL_law_830 ?_
        refine ml_iconst (pc := 831) X dL_law_831 ?_
        obtain ⟨v181, hw⟩ := hw
        refine ml_iadd (pc := 832) X dL_law_832 ?_
        obtain ⟨a182, b182, hw⟩ := hw
        refine ml_sld (pc := 833) (i := x3 + 1) X hn a182 b182 dL_law_833 ?_
        refine ml_aload_n (pc := 834) X hl 0 rfl rfl dL_law_834 ?_
        refine ml_iload_n (pc := 835) X hl 3 rfl rfl dL_law_835 ?_
        refine ml_iconst (pc := 836) X dL_law_836 ?_
        obtain ⟨v183, hw⟩ := hw
        refine ml_iadd (pc := 837) X dL_law_837 ?_
        obtain ⟨a184, b184, hw⟩ := hw
        refine ml_sld (pc := 838) (i := x3 + 2) X hn a184 b184 dL_law_838 ?_
        refine ml_calliV (pc := 839) (rest := []) X [.int (Int32.ofInt (Q (x3 + 1))), .int (Int32.ofInt (Q (x3 + 2)))] (by decide) rfl (ml_k1 (by decide)) (c_X11_is l base D cA 256 (by decide) σ (Q (x3 + 1)) (Q (x3 + 2)) (hn.2.2.2.2.2.1 _) (hn.2.2.2.2.2.1 _) _ hw) cv_L_89 ⟨rfl, rfl⟩ ⟨by decide, by decide⟩ rfl rfl hl (Nat.le_of_ble_eq_true rfl) ⟨by decide, by decide⟩ dL_law_839 (fun r185 σ185 t185 hw => ?_)
        have hw := hw t185
        refine ml_pop (pc := 842) X dL_law_842 rfl ?_
        refine ml_aload_n (pc := 843) X hl 2 rfl rfl dL_law_843 ?_
        refine ml_aload_n (pc := 844) X hl 0 rfl rfl dL_law_844 ?_
        refine ml_iload_n (pc := 845) X hl 3 rfl rfl dL_law_845 ?_
        refine ml_iconst (pc := 846) X dL_law_846 ?_
        obtain ⟨v186, hw⟩ := hw
        refine ml_iadd (pc := 847) X dL_law_847 ?_
        obtain ⟨a187, b187, hw⟩ := hw
        refine ml_sld (pc := 848) (i := x3 + 1) X hn a187 b187 dL_law_848 ?_
        refine ml_aload_n (pc := 849) X hl 0 rfl rfl dL_law_849 ?_
        refine ml_iload_n (pc := 850) X hl 3 rfl rfl dL_law_850 ?_
        refine ml_iconst (pc := 851) X dL_law_851 ?_
        obtain ⟨v188, hw⟩ := hw
        refine ml_iadd (pc := 852) X dL_law_852 ?_
        obtain ⟨a189, b189, hw⟩ := hw
        refine ml_sld (pc := 853) (i := x3 + 2) X hn a189 b189 dL_law_853 ?_
        refine ml_calliV (pc := 854) (rest := []) X [.int (Int32.ofInt (Q (x3 + 1))), .int (Int32.ofInt (Q (x3 + 2)))] (by decide) rfl (ml_k215 (by decide)) (c_X12_is l base D cA 256 (by decide) σ185 (Q (x3 + 1)) (Q (x3 + 2)) (hn.2.2.2.2.2.1 _) (hn.2.2.2.2.2.1 _) _ hw) cv_L_92 ⟨rfl, rfl⟩ ⟨by decide, by decide⟩ rfl rfl hl (Nat.le_of_ble_eq_true rfl) ⟨by decide, by decide⟩ dL_law_854 (fun r190 σ190 t190 hw => ?_)
        have hw := hw t190
        refine ml_pop (pc := 857) X dL_law_857 rfl ?_
        refine ml_goto (pc := 858) (tgt := 1181) X dL_law_858 (by decide) ?_
        exact u_L_law_1181 X hn ih σ190 x3 h_x3 _ (lv_sub hl [0, 1, 2, 3] rfl) hw
      · have hw := hw.2.2.2.2.2.2.2.2.2.2.2.2.2.2.2.2.2.1 c4
        refine ml_tIn (pc := 33) (off := 828) (tgt := 861) X c4 dL_law_33 (by decide) (by decide) (by decide +kernel) (by decide) ?_
        refine ml_aload_n (pc := 861) X hl 1 rfl rfl dL_law_861 ?_
        refine ml_aload_n (pc := 862) X hl 0 rfl rfl dL_law_862 ?_
        refine ml_iload_n (pc := 863) X hl 3 rfl rfl dL_law_863 ?_
        refine ml_iconst (pc := 864) X dL_law_864 ?_
        obtain ⟨v191, hw⟩ := hw
        refine ml_iadd (pc := 865) X dL_law_865 ?_
        obtain ⟨a192, b192, hw⟩ := hw
        refine ml_sld (pc := 866) (i := x3 + 1) X hn a192 b192 dL_law_866 ?_
        refine ml_aload_n (pc := 867) X hl 0 rfl rfl dL_law_867 ?_
        refine ml_iload_n (pc := 868) X hl 3 rfl rfl dL_law_868 ?_
        refine ml_iconst (pc := 869) X dL_law_869 ?_
        obtain ⟨v193, hw⟩ := hw
        refine ml_iadd (pc := 870) X dL_law_870 ?_
        obtain ⟨a194, b194, hw⟩ := hw
        refine ml_sld (pc := 871) (i := x3 + 2) X hn a194 b194 dL_law_871 ?_
        refine ml_aload_n (pc := 872) X hl 0 rfl rfl dL_law_872 ?_
        refine ml_iload_n (pc := 873) X hl 3 rfl rfl dL_law_873 ?_
        refine ml_iconst (pc := 874) X dL_law_874 ?_
        obtain ⟨v195, hw⟩ := hw
        refine ml_iadd (pc := 875) X dL_law_875 ?_
        obtain ⟨a196, b196, hw⟩ := hw
        refine ml_sld (pc := 876) (i := x3 + 3) X hn a196 b196 dL_law_876 ?_
        refine ml_calliV (pc := 877) (rest := []) X [.int (Int32.ofInt (Q (x3 + 1))), .int (Int32.ofInt (Q (x3 + 2))), .int (Int32.ofInt (Q (x3 + 3)))] (by decide) rfl (ml_k1 (by decide)) (c_X11_many l base D cA 256 (by decide) σ (Q (x3 + 1)) (Q (x3 + 2)) (Q (x3 + 3)) (hn.2.2.2.2.2.1 _) (hn.2.2.2.2.2.1 _) (hn.2.2.2.2.2.1 _) _ hw) cv_L_93 ⟨rfl, rfl⟩ ⟨by decide, by decide⟩ rfl rfl hl (Nat.le_of_ble_eq_true rfl) ⟨by decide, by decide⟩ dL_law_877 (fun r197 σ197 t197 hw => ?_)
        have hw := hw t197
        refine ml_pop (pc := 880) X dL_law_880 rfl ?_
        refine ml_aload_n (pc := 881) X hl 2 rfl rfl dL_law_881 ?_
        refine ml_aload_n (pc := 882) X hl 0 rfl rfl dL_law_882 ?_
        refine ml_iload_n (pc := 883) X hl 3 rfl rfl dL_law_883 ?_
        refine ml_iconst (pc := 884) X dL_law_884 ?_
        obtain ⟨v198, hw⟩ := hw
        refine ml_iadd (pc := 885) X dL_law_885 ?_
        obtain ⟨a199, b199, hw⟩ := hw
        refine ml_sld (pc := 886) (i := x3 + 1) X hn a199 b199 dL_law_886 ?_
        refine ml_aload_n (pc := 887) X hl 0 rfl rfl dL_law_887 ?_
        refine ml_iload_n (pc := 888) X hl 3 rfl rfl dL_law_888 ?_
        refine ml_iconst (pc := 889) X dL_law_889 ?_
        obtain ⟨v200, hw⟩ := hw
        refine ml_iadd (pc := 890) X dL_law_890 ?_
        obtain ⟨a201, b201, hw⟩ := hw
        refine ml_sld (pc := 891) (i := x3 + 2) X hn a201 b201 dL_law_891 ?_
        refine ml_aload_n (pc := 892) X hl 0 rfl rfl dL_law_892 ?_
        refine ml_iload_n (pc := 893) X hl 3 rfl rfl dL_law_893 ?_
        refine ml_iconst (pc := 894) X dL_law_894 ?_
        obtain ⟨v202, hw⟩ := hw
        refine ml_iadd (pc := 895) X dL_law_895 ?_
        obtain ⟨a203, b203, hw⟩ := hw
        refine ml_sld (pc := 896) (i := x3 + 3) X hn a203 b203 dL_law_896 ?_
        refine ml_calliV (pc := 897) (rest := []) X [.int (Int32.ofInt (Q (x3 + 1))), .int (Int32.ofInt (Q (x3 + 2))), .int (Int32.ofInt (Q (x3 + 3)))] (by decide) rfl (ml_k215 (by decide)) (c_X12_many l base D cA 256 (by decide) σ197 (Q (x3 + 1)) (Q (x3 + 2)) (Q (x3 + 3)) (hn.2.2.2.2.2.1 _) (hn.2.2.2.2.2.1 _) (hn.2.2.2.2.2.1 _) _ hw) cv_L_96 ⟨rfl, rfl⟩ ⟨by decide, by decide⟩ rfl rfl hl (Nat.le_of_ble_eq_true rfl) ⟨by decide, by decide⟩ dL_law_897 (fun r204 σ204 t204 hw => ?_)
        have hw := hw t204
        refine ml_pop (pc := 900) X dL_law_900 rfl ?_
        refine ml_goto (pc := 901) (tgt := 1181) X dL_law_901 (by decide) ?_
        exact u_L_law_1181 X hn ih σ204 x3 h_x3 _ (lv_sub hl [0, 1, 2, 3] rfl) hw
      · have hw := hw.2.2.2.2.2.2.2.2.2.2.2.2.2.2.2.2.2.2.1 c4
        refine ml_tIn (pc := 33) (off := 871) (tgt := 904) X c4 dL_law_33 (by decide) (by decide) (by decide +kernel) (by decide) ?_
        refine ml_aload_n (pc := 904) X hl 1 rfl rfl dL_law_904 ?_
        refine ml_aload_n (pc := 905) X hl 0 rfl rfl dL_law_905 ?_
        refine ml_iload_n (pc := 906) X hl 3 rfl rfl dL_law_906 ?_
        refine ml_iconst (pc := 907) X dL_law_907 ?_
        obtain ⟨v205, hw⟩ := hw
        refine ml_iadd (pc := 908) X dL_law_908 ?_
        obtain ⟨a206, b206, hw⟩ := hw
        refine ml_sld (pc := 909) (i := x3 + 1) X hn a206 b206 dL_law_909 ?_
        refine ml_calliV (pc := 910) (rest := []) X [.int (Int32.ofInt (Q (x3 + 1)))] (by decide) rfl (ml_k1 (by decide)) (c_X11_made l base D cA 256 (by decide) σ (Q (x3 + 1)) (hn.2.2.2.2.2.1 _) _ hw) cv_L_97 ⟨rfl, rfl⟩ ⟨by decide, by decide⟩ rfl rfl hl (Nat.le_of_ble_eq_true rfl) ⟨by decide, by decide⟩ dL_law_910 (fun r207 σ207 t207 hw => ?_)
        have hw := hw t207
        refine ml_pop (pc := 913) X dL_law_913 rfl ?_
        refine ml_aload_n (pc := 914) X hl 2 rfl rfl dL_law_914 ?_
        refine ml_aload_n (pc := 915) X hl 0 rfl rfl dL_law_915 ?_
        refine ml_iload_n (pc := 916) X hl 3 rfl rfl dL_law_916 ?_
        refine ml_iconst (pc := 917) X dL_law_917 ?_
        obtain ⟨v208, hw⟩ := hw
        refine ml_iadd (pc := 918) X dL_law_918 ?_
        obtain ⟨a209, b209, hw⟩ := hw
        refine ml_sld (pc := 919) (i := x3 + 1) X hn a209 b209 dL_law_919 ?_
        refine ml_calliV (pc := 920) (rest := []) X [.int (Int32.ofInt (Q (x3 + 1)))] (by decide) rfl (ml_k215 (by decide)) (c_X12_made l base D cA 256 (by decide) σ207 (Q (x3 + 1)) (hn.2.2.2.2.2.1 _) _ hw) cv_L_100 ⟨rfl, rfl⟩ ⟨by decide, by decide⟩ rfl rfl hl (Nat.le_of_ble_eq_true rfl) ⟨by decide, by decide⟩ dL_law_920 (fun r210 σ210 t210 hw => ?_)
        have hw := hw t210
        refine ml_pop (pc := 923) X dL_law_923 rfl ?_
        refine ml_goto (pc := 924) (tgt := 1181) X dL_law_924 (by decide) ?_
        exact u_L_law_1181 X hn ih σ210 x3 h_x3 _ (lv_sub hl [0, 1, 2, 3] rfl) hw
      · have hw := hw.2.2.2.2.2.2.2.2.2.2.2.2.2.2.2.2.2.2.2.1 c4
        refine ml_tIn (pc := 33) (off := 894) (tgt := 927) X c4 dL_law_33 (by decide) (by decide) (by decide +kernel) (by decide) ?_
        refine ml_aload_n (pc := 927) X hl 1 rfl rfl dL_law_927 ?_
        refine ml_aload_n (pc := 928) X hl 0 rfl rfl dL_law_928 ?_
        refine ml_iload_n (pc := 929) X hl 3 rfl rfl dL_law_929 ?_
        refine ml_iconst (pc := 930) X dL_law_930 ?_
        obtain ⟨v211, hw⟩ := hw
        refine ml_iadd (pc := 931) X dL_law_931 ?_
        obtain ⟨a212, b212, hw⟩ := hw
        refine ml_sld (pc := 932) (i := x3 + 1) X hn a212 b212 dL_law_932 ?_
        refine ml_aload_n (pc := 933) X hl 0 rfl rfl dL_law_933 ?_
        refine ml_iload_n (pc := 934) X hl 3 rfl rfl dL_law_934 ?_
        refine ml_iconst (pc := 935) X dL_law_935 ?_
        obtain ⟨v213, hw⟩ := hw
        refine ml_iadd (pc := 936) X dL_law_936 ?_
        obtain ⟨a214, b214, hw⟩ := hw
        refine ml_sld (pc := 937) (i := x3 + 2) X hn a214 b214 dL_law_937 ?_
        refine ml_aload_n (pc := 938) X hl 0 rfl rfl dL_law_938 ?_
        refine ml_iload_n (pc := 939) X hl 3 rfl rfl dL_law_939 ?_
        refine ml_iconst (pc := 940) X dL_law_940 ?_
        obtain ⟨v215, hw⟩ := hw
        refine ml_iadd (pc := 941) X dL_law_941 ?_
        obtain ⟨a216, b216, hw⟩ := hw
        refine ml_sld (pc := 942) (i := x3 + 3) X hn a216 b216 dL_law_942 ?_
        refine ml_calliV (pc := 943) (rest := []) X [.int (Int32.ofInt (Q (x3 + 1))), .int (Int32.ofInt (Q (x3 + 2))), .int (Int32.ofInt (Q (x3 + 3)))] (by decide) rfl (ml_k1 (by decide)) (c_X11_shortest l base D cA 256 (by decide) σ (Q (x3 + 1)) (Q (x3 + 2)) (Q (x3 + 3)) (hn.2.2.2.2.2.1 _) (hn.2.2.2.2.2.1 _) (hn.2.2.2.2.2.1 _) _ hw) cv_L_101 ⟨rfl, rfl⟩ ⟨by decide, by decide⟩ rfl rfl hl (Nat.le_of_ble_eq_true rfl) ⟨by decide, by decide⟩ dL_law_943 (fun r217 σ217 t217 hw => ?_)
        have hw := hw t217
        refine ml_pop (pc := 946) X dL_law_946 rfl ?_
        refine ml_aload_n (pc := 947) X hl 2 rfl rfl dL_law_947 ?_
        refine ml_aload_n (pc := 948) X hl 0 rfl rfl dL_law_948 ?_
        refine ml_iload_n (pc := 949) X hl 3 rfl rfl dL_law_949 ?_
        refine ml_iconst (pc := 950) X dL_law_950 ?_
        obtain ⟨v218, hw⟩ := hw
        refine ml_iadd (pc := 951) X dL_law_951 ?_
        obtain ⟨a219, b219, hw⟩ := hw
        refine ml_sld (pc := 952) (i := x3 + 1) X hn a219 b219 dL_law_952 ?_
        refine ml_aload_n (pc := 953) X hl 0 rfl rfl dL_law_953 ?_
        refine ml_iload_n (pc := 954) X hl 3 rfl rfl dL_law_954 ?_
        refine ml_iconst (pc := 955) X dL_law_955 ?_
        obtain ⟨v220, hw⟩ := hw
        refine ml_iadd (pc := 956) X dL_law_956 ?_
        obtain ⟨a221, b221, hw⟩ := hw
        refine ml_sld (pc := 957) (i := x3 + 2) X hn a221 b221 dL_law_957 ?_
        refine ml_aload_n (pc := 958) X hl 0 rfl rfl dL_law_958 ?_
        refine ml_iload_n (pc := 959) X hl 3 rfl rfl dL_law_959 ?_
        refine ml_iconst (pc := 960) X dL_law_960 ?_
        obtain ⟨v222, hw⟩ := hw
        refine ml_iadd (pc := 961) X dL_law_961 ?_
        obtain ⟨a223, b223, hw⟩ := hw
        refine ml_sld (pc := 962) (i := x3 + 3) X hn a223 b223 dL_law_962 ?_
        refine ml_calliV (pc := 963) (rest := []) X [.int (Int32.ofInt (Q (x3 + 1))), .int (Int32.ofInt (Q (x3 + 2))), .int (Int32.ofInt (Q (x3 + 3)))] (by decide) rfl (ml_k215 (by decide)) (c_X12_shortest l base D cA 256 (by decide) σ217 (Q (x3 + 1)) (Q (x3 + 2)) (Q (x3 + 3)) (hn.2.2.2.2.2.1 _) (hn.2.2.2.2.2.1 _) (hn.2.2.2.2.2.1 _) _ hw) cv_L_104 ⟨rfl, rfl⟩ ⟨by decide, by decide⟩ rfl rfl hl (Nat.le_of_ble_eq_true rfl) ⟨by decide, by decide⟩ dL_law_963 (fun r224 σ224 t224 hw => ?_)
        have hw := hw t224
        refine ml_pop (pc := 966) X dL_law_966 rfl ?_
        refine ml_goto (pc := 967) (tgt := 1181) X dL_law_967 (by decide) ?_
        exact u_L_law_1181 X hn ih σ224 x3 h_x3 _ (lv_sub hl [0, 1, 2, 3] rfl) hw
      · have hw := hw.2.2.2.2.2.2.2.2.2.2.2.2.2.2.2.2.2.2.2.2.1 c4
        refine ml_tIn (pc := 33) (off := 937) (tgt := 970) X c4 dL_law_33 (by decide) (by decide) (by decide +kernel) (by decide) ?_
        refine ml_aload_n (pc := 970) X hl 1 rfl rfl dL_law_970 ?_
        refine ml_aload_n (pc := 971) X hl 0 rfl rfl dL_law_971 ?_
        refine ml_iload_n (pc := 972) X hl 3 rfl rfl dL_law_972 ?_
        refine ml_iconst (pc := 973) X dL_law_973 ?_
        obtain ⟨v225, hw⟩ := hw
        refine ml_iadd (pc := 974) X dL_law_974 ?_
        obtain ⟨a226, b226, hw⟩ := hw
        refine ml_sld (pc := 975) (i := x3 + 1) X hn a226 b226 dL_law_975 ?_
        refine ml_aload_n (pc := 976) X hl 0 rfl rfl dL_law_976 ?_
        refine ml_iload_n (pc := 977) X hl 3 rfl rfl dL_law_977 ?_
        refine ml_iconst (pc := 978) X dL_law_978 ?_
        obtain ⟨v227, hw⟩ := hw
        refine ml_iadd (pc := 979) X dL_law_979 ?_
        obtain ⟨a228, b228, hw⟩ := hw
        refine ml_sld (pc := 980) (i := x3 + 2) X hn a228 b228 dL_law_980 ?_
        refine ml_callzV (pc := 981) (rest := []) X [.int (Int32.ofInt (Q (x3 + 1))), .int (Int32.ofInt (Q (x3 + 2)))] (by decide) rfl (ml_k1 (by decide)) (c_X11_cost l base D cA 256 (by decide) σ (Q (x3 + 1)) (Q (x3 + 2)) (hn.2.2.2.2.2.1 _) (hn.2.2.2.2.2.1 _) _ hw) cv_L_105 ⟨rfl, rfl⟩ ⟨by decide, by decide⟩ rfl rfl hl (Nat.le_of_ble_eq_true rfl) ⟨by decide, by decide⟩ dL_law_981 (fun r229 σ229 t229 hw => ?_)
        have hw := hw t229
        refine ml_pop (pc := 984) X dL_law_984 rfl ?_
        refine ml_aload_n (pc := 985) X hl 2 rfl rfl dL_law_985 ?_
        refine ml_aload_n (pc := 986) X hl 0 rfl rfl dL_law_986 ?_
        refine ml_iload_n (pc := 987) X hl 3 rfl rfl dL_law_987 ?_
        refine ml_iconst (pc := 988) X dL_law_988 ?_
        obtain ⟨v230, hw⟩ := hw
        refine ml_iadd (pc := 989) X dL_law_989 ?_
        obtain ⟨a231, b231, hw⟩ := hw
        refine ml_sld (pc := 990) (i := x3 + 1) X hn a231 b231 dL_law_990 ?_
        refine ml_aload_n (pc := 991) X hl 0 rfl rfl dL_law_991 ?_
        refine ml_iload_n (pc := 992) X hl 3 rfl rfl dL_law_992 ?_
        refine ml_iconst (pc := 993) X dL_law_993 ?_
        obtain ⟨v232, hw⟩ := hw
        refine ml_iadd (pc := 994) X dL_law_994 ?_
        obtain ⟨a233, b233, hw⟩ := hw
        refine ml_sld (pc := 995) (i := x3 + 2) X hn a233 b233 dL_law_995 ?_
        refine ml_callzV (pc := 996) (rest := []) X [.int (Int32.ofInt (Q (x3 + 1))), .int (Int32.ofInt (Q (x3 + 2)))] (by decide) rfl (ml_k215 (by decide)) (c_X12_cost l base D cA 256 (by decide) σ229 (Q (x3 + 1)) (Q (x3 + 2)) (hn.2.2.2.2.2.1 _) (hn.2.2.2.2.2.1 _) _ hw) cv_L_109 ⟨rfl, rfl⟩ ⟨by decide, by decide⟩ rfl rfl hl (Nat.le_of_ble_eq_true rfl) ⟨by decide, by decide⟩ dL_law_996 (fun r234 σ234 t234 hw => ?_)
        have hw := hw t234
        refine ml_pop (pc := 999) X dL_law_999 rfl ?_
        refine ml_goto (pc := 1000) (tgt := 1181) X dL_law_1000 (by decide) ?_
        exact u_L_law_1181 X hn ih σ234 x3 h_x3 _ (lv_sub hl [0, 1, 2, 3] rfl) hw
      · have hw := hw.2.2.2.2.2.2.2.2.2.2.2.2.2.2.2.2.2.2.2.2.2.1 c4
        refine ml_tIn (pc := 33) (off := 970) (tgt := 1003) X c4 dL_law_33 (by decide) (by decide) (by decide +kernel) (by decide) ?_
        refine ml_aload_n (pc := 1003) X hl 1 rfl rfl dL_law_1003 ?_
        refine ml_aload_n (pc := 1004) X hl 0 rfl rfl dL_law_1004 ?_
        refine ml_iload_n (pc := 1005) X hl 3 rfl rfl dL_law_1005 ?_
        refine ml_iconst (pc := 1006) X dL_law_1006 ?_
        obtain ⟨v235, hw⟩ := hw
        refine ml_iadd (pc := 1007) X dL_law_1007 ?_
        obtain ⟨a236, b236, hw⟩ := hw
        refine ml_sld (pc := 1008) (i := x3 + 1) X hn a236 b236 dL_law_1008 ?_
        refine ml_aload_n (pc := 1009) X hl 0 rfl rfl dL_law_1009 ?_
        refine ml_iload_n (pc := 1010) X hl 3 rfl rfl dL_law_1010 ?_
        refine ml_iconst (pc := 1011) X dL_law_1011 ?_
        obtain ⟨v237, hw⟩ := hw
        refine ml_iadd (pc := 1012) X dL_law_1012 ?_
        obtain ⟨a238, b238, hw⟩ := hw
        refine ml_sld (pc := 1013) (i := x3 + 2) X hn a238 b238 dL_law_1013 ?_
        refine ml_aload_n (pc := 1014) X hl 0 rfl rfl dL_law_1014 ?_
        refine ml_iload_n (pc := 1015) X hl 3 rfl rfl dL_law_1015 ?_
        refine ml_iconst (pc := 1016) X dL_law_1016 ?_
        obtain ⟨v239, hw⟩ := hw
        refine ml_iadd (pc := 1017) X dL_law_1017 ?_
        obtain ⟨a240, b240, hw⟩ := hw
        refine ml_sld (pc := 1018) (i := x3 + 3) X hn a240 b240 dL_law_1018 ?_
        refine ml_calliV (pc := 1019) (rest := []) X [.int (Int32.ofInt (Q (x3 + 1))), .int (Int32.ofInt (Q (x3 + 2))), .int (Int32.ofInt (Q (x3 + 3)))] (by decide) rfl (ml_k1 (by decide)) (c_X11_cheapest l base D cA 256 (by decide) σ (Q (x3 + 1)) (Q (x3 + 2)) (Q (x3 + 3)) (hn.2.2.2.2.2.1 _) (hn.2.2.2.2.2.1 _) (hn.2.2.2.2.2.1 _) _ hw) cv_L_110 ⟨rfl, rfl⟩ ⟨by decide, by decide⟩ rfl rfl hl (Nat.le_of_ble_eq_true rfl) ⟨by decide, by decide⟩ dL_law_1019 (fun r241 σ241 t241 hw => ?_)
        have hw := hw t241
        refine ml_pop (pc := 1022) X dL_law_1022 rfl ?_
        refine ml_aload_n (pc := 1023) X hl 2 rfl rfl dL_law_1023 ?_
        refine ml_aload_n (pc := 1024) X hl 0 rfl rfl dL_law_1024 ?_
        refine ml_iload_n (pc := 1025) X hl 3 rfl rfl dL_law_1025 ?_
        refine ml_iconst (pc := 1026) X dL_law_1026 ?_
        obtain ⟨v242, hw⟩ := hw
        refine ml_iadd (pc := 1027) X dL_law_1027 ?_
        obtain ⟨a243, b243, hw⟩ := hw
        refine ml_sld (pc := 1028) (i := x3 + 1) X hn a243 b243 dL_law_1028 ?_
        refine ml_aload_n (pc := 1029) X hl 0 rfl rfl dL_law_1029 ?_
        refine ml_iload_n (pc := 1030) X hl 3 rfl rfl dL_law_1030 ?_
        refine ml_iconst (pc := 1031) X dL_law_1031 ?_
        obtain ⟨v244, hw⟩ := hw
        refine ml_iadd (pc := 1032) X dL_law_1032 ?_
        obtain ⟨a245, b245, hw⟩ := hw
        refine ml_sld (pc := 1033) (i := x3 + 2) X hn a245 b245 dL_law_1033 ?_
        refine ml_aload_n (pc := 1034) X hl 0 rfl rfl dL_law_1034 ?_
        refine ml_iload_n (pc := 1035) X hl 3 rfl rfl dL_law_1035 ?_
        refine ml_iconst (pc := 1036) X dL_law_1036 ?_
        obtain ⟨v246, hw⟩ := hw
        refine ml_iadd (pc := 1037) X dL_law_1037 ?_
        obtain ⟨a247, b247, hw⟩ := hw
        refine ml_sld (pc := 1038) (i := x3 + 3) X hn a247 b247 dL_law_1038 ?_
        refine ml_calliV (pc := 1039) (rest := []) X [.int (Int32.ofInt (Q (x3 + 1))), .int (Int32.ofInt (Q (x3 + 2))), .int (Int32.ofInt (Q (x3 + 3)))] (by decide) rfl (ml_k215 (by decide)) (c_X12_cheapest l base D cA 256 (by decide) σ241 (Q (x3 + 1)) (Q (x3 + 2)) (Q (x3 + 3)) (hn.2.2.2.2.2.1 _) (hn.2.2.2.2.2.1 _) (hn.2.2.2.2.2.1 _) _ hw) cv_L_113 ⟨rfl, rfl⟩ ⟨by decide, by decide⟩ rfl rfl hl (Nat.le_of_ble_eq_true rfl) ⟨by decide, by decide⟩ dL_law_1039 (fun r248 σ248 t248 hw => ?_)
        have hw := hw t248
        refine ml_pop (pc := 1042) X dL_law_1042 rfl ?_
        refine ml_goto (pc := 1043) (tgt := 1181) X dL_law_1043 (by decide) ?_
        exact u_L_law_1181 X hn ih σ248 x3 h_x3 _ (lv_sub hl [0, 1, 2, 3] rfl) hw
      · have hw := hw.2.2.2.2.2.2.2.2.2.2.2.2.2.2.2.2.2.2.2.2.2.2.1 c4
        refine ml_tIn (pc := 33) (off := 1013) (tgt := 1046) X c4 dL_law_33 (by decide) (by decide) (by decide +kernel) (by decide) ?_
        refine ml_aload_n (pc := 1046) X hl 1 rfl rfl dL_law_1046 ?_
        refine ml_aload_n (pc := 1047) X hl 0 rfl rfl dL_law_1047 ?_
        refine ml_iload_n (pc := 1048) X hl 3 rfl rfl dL_law_1048 ?_
        refine ml_iconst (pc := 1049) X dL_law_1049 ?_
        obtain ⟨v249, hw⟩ := hw
        refine ml_iadd (pc := 1050) X dL_law_1050 ?_
        obtain ⟨a250, b250, hw⟩ := hw
        refine ml_sld (pc := 1051) (i := x3 + 1) X hn a250 b250 dL_law_1051 ?_
        refine ml_calliV (pc := 1052) (rest := []) X [.int (Int32.ofInt (Q (x3 + 1)))] (by decide) rfl (ml_k1 (by decide)) (c_X11_mend l base D cA 256 (by decide) σ (Q (x3 + 1)) (hn.2.2.2.2.2.1 _) _ hw) cv_L_114 ⟨rfl, rfl⟩ ⟨by decide, by decide⟩ rfl rfl hl (Nat.le_of_ble_eq_true rfl) ⟨by decide, by decide⟩ dL_law_1052 (fun r251 σ251 t251 hw => ?_)
        have hw := hw t251
        refine ml_pop (pc := 1055) X dL_law_1055 rfl ?_
        refine ml_aload_n (pc := 1056) X hl 2 rfl rfl dL_law_1056 ?_
        refine ml_aload_n (pc := 1057) X hl 0 rfl rfl dL_law_1057 ?_
        refine ml_iload_n (pc := 1058) X hl 3 rfl rfl dL_law_1058 ?_
        refine ml_iconst (pc := 1059) X dL_law_1059 ?_
        obtain ⟨v252, hw⟩ := hw
        refine ml_iadd (pc := 1060) X dL_law_1060 ?_
        obtain ⟨a253, b253, hw⟩ := hw
        refine ml_sld (pc := 1061) (i := x3 + 1) X hn a253 b253 dL_law_1061 ?_
        refine ml_calliV (pc := 1062) (rest := []) X [.int (Int32.ofInt (Q (x3 + 1)))] (by decide) rfl (ml_k215 (by decide)) (c_X12_mend l base D cA 256 (by decide) σ251 (Q (x3 + 1)) (hn.2.2.2.2.2.1 _) _ hw) cv_L_117 ⟨rfl, rfl⟩ ⟨by decide, by decide⟩ rfl rfl hl (Nat.le_of_ble_eq_true rfl) ⟨by decide, by decide⟩ dL_law_1062 (fun r254 σ254 t254 hw => ?_)
        have hw := hw t254
        refine ml_pop (pc := 1065) X dL_law_1065 rfl ?_
        refine ml_goto (pc := 1066) (tgt := 1181) X dL_law_1066 (by decide) ?_
        exact u_L_law_1181 X hn ih σ254 x3 h_x3 _ (lv_sub hl [0, 1, 2, 3] rfl) hw
      · have hw := hw.2.2.2.2.2.2.2.2.2.2.2.2.2.2.2.2.2.2.2.2.2.2.2.1 c4
        refine ml_tIn (pc := 33) (off := 1036) (tgt := 1069) X c4 dL_law_33 (by decide) (by decide) (by decide +kernel) (by decide) ?_
        refine ml_aload_n (pc := 1069) X hl 1 rfl rfl dL_law_1069 ?_
        refine ml_aload_n (pc := 1070) X hl 0 rfl rfl dL_law_1070 ?_
        refine ml_iload_n (pc := 1071) X hl 3 rfl rfl dL_law_1071 ?_
        refine ml_iconst (pc := 1072) X dL_law_1072 ?_
        obtain ⟨v255, hw⟩ := hw
        refine ml_iadd (pc := 1073) X dL_law_1073 ?_
        obtain ⟨a256, b256, hw⟩ := hw
        refine ml_sld (pc := 1074) (i := x3 + 1) X hn a256 b256 dL_law_1074 ?_
        refine ml_calliV (pc := 1075) (rest := []) X [.int (Int32.ofInt (Q (x3 + 1)))] (by decide) rfl (ml_k1 (by decide)) (c_X11_back l base D cA 256 (by decide) σ (Q (x3 + 1)) (hn.2.2.2.2.2.1 _) _ hw) cv_L_118 ⟨rfl, rfl⟩ ⟨by decide, by decide⟩ rfl rfl hl (Nat.le_of_ble_eq_true rfl) ⟨by decide, by decide⟩ dL_law_1075 (fun r257 σ257 t257 hw => ?_)
        have hw := hw t257
        refine ml_pop (pc := 1078) X dL_law_1078 rfl ?_
        refine ml_aload_n (pc := 1079) X hl 2 rfl rfl dL_law_1079 ?_
        refine ml_aload_n (pc := 1080) X hl 0 rfl rfl dL_law_1080 ?_
        refine ml_iload_n (pc := 1081) X hl 3 rfl rfl dL_law_1081 ?_
        refine ml_iconst (pc := 1082) X dL_law_1082 ?_
        obtain ⟨v258, hw⟩ := hw
        refine ml_iadd (pc := 1083) X dL_law_1083 ?_
        obtain ⟨a259, b259, hw⟩ := hw
        refine ml_sld (pc := 1084) (i := x3 + 1) X hn a259 b259 dL_law_1084 ?_
        refine ml_calliV (pc := 1085) (rest := []) X [.int (Int32.ofInt (Q (x3 + 1)))] (by decide) rfl (ml_k215 (by decide)) (c_X12_back l base D cA 256 (by decide) σ257 (Q (x3 + 1)) (hn.2.2.2.2.2.1 _) _ hw) cv_L_121 ⟨rfl, rfl⟩ ⟨by decide, by decide⟩ rfl rfl hl (Nat.le_of_ble_eq_true rfl) ⟨by decide, by decide⟩ dL_law_1085 (fun r260 σ260 t260 hw => ?_)
        have hw := hw t260
        refine ml_pop (pc := 1088) X dL_law_1088 rfl ?_
        refine ml_goto (pc := 1089) (tgt := 1181) X dL_law_1089 (by decide) ?_
        exact u_L_law_1181 X hn ih σ260 x3 h_x3 _ (lv_sub hl [0, 1, 2, 3] rfl) hw
      · have hw := hw.2.2.2.2.2.2.2.2.2.2.2.2.2.2.2.2.2.2.2.2.2.2.2.2.1 c4
        refine ml_tIn (pc := 33) (off := 1059) (tgt := 1092) X c4 dL_law_33 (by decide) (by decide) (by decide +kernel) (by decide) ?_
        refine ml_aload_n (pc := 1092) X hl 1 rfl rfl dL_law_1092 ?_
        refine ml_aload_n (pc := 1093) X hl 0 rfl rfl dL_law_1093 ?_
        refine ml_iload_n (pc := 1094) X hl 3 rfl rfl dL_law_1094 ?_
        refine ml_iconst (pc := 1095) X dL_law_1095 ?_
        obtain ⟨v261, hw⟩ := hw
        refine ml_iadd (pc := 1096) X dL_law_1096 ?_
        obtain ⟨a262, b262, hw⟩ := hw
        refine ml_sld (pc := 1097) (i := x3 + 1) X hn a262 b262 dL_law_1097 ?_
        refine ml_aload_n (pc := 1098) X hl 0 rfl rfl dL_law_1098 ?_
        refine ml_iload_n (pc := 1099) X hl 3 rfl rfl dL_law_1099 ?_
        refine ml_iconst (pc := 1100) X dL_law_1100 ?_
        obtain ⟨v263, hw⟩ := hw
        refine ml_iadd (pc := 1101) X dL_law_1101 ?_
        obtain ⟨a264, b264, hw⟩ := hw
        refine ml_sld (pc := 1102) (i := x3 + 2) X hn a264 b264 dL_law_1102 ?_
        refine ml_aload_n (pc := 1103) X hl 0 rfl rfl dL_law_1103 ?_
        refine ml_iload_n (pc := 1104) X hl 3 rfl rfl dL_law_1104 ?_
        refine ml_iconst (pc := 1105) X dL_law_1105 ?_
        obtain ⟨v265, hw⟩ := hw
        refine ml_iadd (pc := 1106) X dL_law_1106 ?_
        obtain ⟨a266, b266, hw⟩ := hw
        refine ml_sld (pc := 1107) (i := x3 + 3) X hn a266 b266 dL_law_1107 ?_
        refine ml_calliV (pc := 1108) (rest := []) X [.int (Int32.ofInt (Q (x3 + 1))), .int (Int32.ofInt (Q (x3 + 2))), .int (Int32.ofInt (Q (x3 + 3)))] (by decide) rfl (ml_k1 (by decide)) (c_X11_walk l base D cA 256 (by decide) σ (Q (x3 + 1)) (Q (x3 + 2)) (Q (x3 + 3)) (hn.2.2.2.2.2.1 _) (hn.2.2.2.2.2.1 _) (hn.2.2.2.2.2.1 _) _ hw) cv_L_122 ⟨rfl, rfl⟩ ⟨by decide, by decide⟩ rfl rfl hl (Nat.le_of_ble_eq_true rfl) ⟨by decide, by decide⟩ dL_law_1108 (fun r267 σ267 t267 hw => ?_)
        have hw := hw t267
        refine ml_pop (pc := 1111) X dL_law_1111 rfl ?_
        refine ml_aload_n (pc := 1112) X hl 2 rfl rfl dL_law_1112 ?_
        refine ml_aload_n (pc := 1113) X hl 0 rfl rfl dL_law_1113 ?_
        refine ml_iload_n (pc := 1114) X hl 3 rfl rfl dL_law_1114 ?_
        refine ml_iconst (pc := 1115) X dL_law_1115 ?_
        obtain ⟨v268, hw⟩ := hw
        refine ml_iadd (pc := 1116) X dL_law_1116 ?_
        obtain ⟨a269, b269, hw⟩ := hw
        refine ml_sld (pc := 1117) (i := x3 + 1) X hn a269 b269 dL_law_1117 ?_
        refine ml_aload_n (pc := 1118) X hl 0 rfl rfl dL_law_1118 ?_
        refine ml_iload_n (pc := 1119) X hl 3 rfl rfl dL_law_1119 ?_
        refine ml_iconst (pc := 1120) X dL_law_1120 ?_
        obtain ⟨v270, hw⟩ := hw
        refine ml_iadd (pc := 1121) X dL_law_1121 ?_
        obtain ⟨a271, b271, hw⟩ := hw
        refine ml_sld (pc := 1122) (i := x3 + 2) X hn a271 b271 dL_law_1122 ?_
        refine ml_aload_n (pc := 1123) X hl 0 rfl rfl dL_law_1123 ?_
        refine ml_iload_n (pc := 1124) X hl 3 rfl rfl dL_law_1124 ?_
        refine ml_iconst (pc := 1125) X dL_law_1125 ?_
        obtain ⟨v272, hw⟩ := hw
        refine ml_iadd (pc := 1126) X dL_law_1126 ?_
        obtain ⟨a273, b273, hw⟩ := hw
        refine ml_sld (pc := 1127) (i := x3 + 3) X hn a273 b273 dL_law_1127 ?_
        refine ml_calliV (pc := 1128) (rest := []) X [.int (Int32.ofInt (Q (x3 + 1))), .int (Int32.ofInt (Q (x3 + 2))), .int (Int32.ofInt (Q (x3 + 3)))] (by decide) rfl (ml_k215 (by decide)) (c_X12_walk l base D cA 256 (by decide) σ267 (Q (x3 + 1)) (Q (x3 + 2)) (Q (x3 + 3)) (hn.2.2.2.2.2.1 _) (hn.2.2.2.2.2.1 _) (hn.2.2.2.2.2.1 _) _ hw) cv_L_125 ⟨rfl, rfl⟩ ⟨by decide, by decide⟩ rfl rfl hl (Nat.le_of_ble_eq_true rfl) ⟨by decide, by decide⟩ dL_law_1128 (fun r274 σ274 t274 hw => ?_)
        have hw := hw t274
        refine ml_pop (pc := 1131) X dL_law_1131 rfl ?_
        refine ml_goto (pc := 1132) (tgt := 1181) X dL_law_1132 (by decide) ?_
        exact u_L_law_1181 X hn ih σ274 x3 h_x3 _ (lv_sub hl [0, 1, 2, 3] rfl) hw
      · have hw := hw.2.2.2.2.2.2.2.2.2.2.2.2.2.2.2.2.2.2.2.2.2.2.2.2.2.1 c4
        refine ml_tIn (pc := 33) (off := 1102) (tgt := 1135) X c4 dL_law_33 (by decide) (by decide) (by decide +kernel) (by decide) ?_
        refine ml_aload_n (pc := 1135) X hl 1 rfl rfl dL_law_1135 ?_
        refine ml_aload_n (pc := 1136) X hl 0 rfl rfl dL_law_1136 ?_
        refine ml_iload_n (pc := 1137) X hl 3 rfl rfl dL_law_1137 ?_
        refine ml_iconst (pc := 1138) X dL_law_1138 ?_
        obtain ⟨v275, hw⟩ := hw
        refine ml_iadd (pc := 1139) X dL_law_1139 ?_
        obtain ⟨a276, b276, hw⟩ := hw
        refine ml_sld (pc := 1140) (i := x3 + 1) X hn a276 b276 dL_law_1140 ?_
        refine ml_calliV (pc := 1141) (rest := []) X [.int (Int32.ofInt (Q (x3 + 1)))] (by decide) rfl (ml_k1 (by decide)) (c_X11_check l base D cA 256 (by decide) σ (Q (x3 + 1)) (hn.2.2.2.2.2.1 _) _ hw) cv_L_126 ⟨rfl, rfl⟩ ⟨by decide, by decide⟩ rfl rfl hl (Nat.le_of_ble_eq_true rfl) ⟨by decide, by decide⟩ dL_law_1141 (fun r277 σ277 t277 hw => ?_)
        have hw := hw t277
        refine ml_pop (pc := 1144) X dL_law_1144 rfl ?_
        refine ml_aload_n (pc := 1145) X hl 2 rfl rfl dL_law_1145 ?_
        refine ml_aload_n (pc := 1146) X hl 0 rfl rfl dL_law_1146 ?_
        refine ml_iload_n (pc := 1147) X hl 3 rfl rfl dL_law_1147 ?_
        refine ml_iconst (pc := 1148) X dL_law_1148 ?_
        obtain ⟨v278, hw⟩ := hw
        refine ml_iadd (pc := 1149) X dL_law_1149 ?_
        obtain ⟨a279, b279, hw⟩ := hw
        refine ml_sld (pc := 1150) (i := x3 + 1) X hn a279 b279 dL_law_1150 ?_
        refine ml_calliV (pc := 1151) (rest := []) X [.int (Int32.ofInt (Q (x3 + 1)))] (by decide) rfl (ml_k215 (by decide)) (c_X12_check l base D cA 256 (by decide) σ277 (Q (x3 + 1)) (hn.2.2.2.2.2.1 _) _ hw) cv_L_129 ⟨rfl, rfl⟩ ⟨by decide, by decide⟩ rfl rfl hl (Nat.le_of_ble_eq_true rfl) ⟨by decide, by decide⟩ dL_law_1151 (fun r280 σ280 t280 hw => ?_)
        have hw := hw t280
        refine ml_pop (pc := 1154) X dL_law_1154 rfl ?_
        refine ml_goto (pc := 1155) (tgt := 1181) X dL_law_1155 (by decide) ?_
        exact u_L_law_1181 X hn ih σ280 x3 h_x3 _ (lv_sub hl [0, 1, 2, 3] rfl) hw
      · have hw := hw.2.2.2.2.2.2.2.2.2.2.2.2.2.2.2.2.2.2.2.2.2.2.2.2.2.2.1 c4
        refine ml_tIn (pc := 33) (off := 1125) (tgt := 1158) X c4 dL_law_33 (by decide) (by decide) (by decide +kernel) (by decide) ?_
        refine ml_aload_n (pc := 1158) X hl 1 rfl rfl dL_law_1158 ?_
        refine ml_aload_n (pc := 1159) X hl 0 rfl rfl dL_law_1159 ?_
        refine ml_iload_n (pc := 1160) X hl 3 rfl rfl dL_law_1160 ?_
        refine ml_iconst (pc := 1161) X dL_law_1161 ?_
        obtain ⟨v281, hw⟩ := hw
        refine ml_iadd (pc := 1162) X dL_law_1162 ?_
        obtain ⟨a282, b282, hw⟩ := hw
        refine ml_sld (pc := 1163) (i := x3 + 1) X hn a282 b282 dL_law_1163 ?_
        refine ml_calliV (pc := 1164) (rest := []) X [.int (Int32.ofInt (Q (x3 + 1)))] (by decide) rfl (ml_k1 (by decide)) (c_X11_count l base D cA 256 (by decide) σ (Q (x3 + 1)) (hn.2.2.2.2.2.1 _) _ hw) cv_L_130 ⟨rfl, rfl⟩ ⟨by decide, by decide⟩ rfl rfl hl (Nat.le_of_ble_eq_true rfl) ⟨by decide, by decide⟩ dL_law_1164 (fun r283 σ283 t283 hw => ?_)
        have hw := hw t283
        refine ml_aload_n (pc := 1167) X hl 2 rfl rfl dL_law_1167 ?_
        refine ml_aload_n (pc := 1168) X hl 0 rfl rfl dL_law_1168 ?_
        refine ml_iload_n (pc := 1169) X hl 3 rfl rfl dL_law_1169 ?_
        refine ml_iconst (pc := 1170) X dL_law_1170 ?_
        obtain ⟨v284, hw⟩ := hw
        refine ml_iadd (pc := 1171) X dL_law_1171 ?_
        obtain ⟨a285, b285, hw⟩ := hw
        refine ml_sld (pc := 1172) (i := x3 + 1) X hn a285 b285 dL_law_1172 ?_
        refine ml_calliV (pc := 1173) (rest := [.int (Int32.ofInt r283)]) X [.int (Int32.ofInt (Q (x3 + 1)))] (by decide) rfl (ml_k215 (by decide)) (c_X12_count l base D cA 256 (by decide) σ283 (Q (x3 + 1)) (hn.2.2.2.2.2.1 _) _ hw) cv_L_133 ⟨rfl, rfl⟩ ⟨by decide, by decide⟩ rfl rfl hl (Nat.le_of_ble_eq_true rfl) ⟨by decide, by decide⟩ dL_law_1173 (fun r286 σ286 t286 hw => ?_)
        have hw := hw t286
        refine ml_icmp_eq (pc := 1176) (tgt := 1181) X t283 t286 dL_law_1176 (by decide) (fun c287 => ?_) (fun c287 => ?_)
        · have hw := hw.1 c287
          exact u_L_law_1181 X hn ih σ286 x3 h_x3 _ (lv_sub hl [0, 1, 2, 3] rfl) hw
        · have hw := hw.2 c287
          exact hK1179 σ286   _ (lv_sub hl [] rfl) hw
      · have hw := hw.2.2.2.2.2.2.2.2.2.2.2.2.2.2.2.2.2.2.2.2.2.2.2.2.2.2.2 c4
        refine ml_tOut (pc := 33) (tgt := 1181) X (b_and_r _ _) dL_law_33 c4 (by decide) ?_
        exact u_L_law_1181 X hn ih σ x3 h_x3 _ (lv_sub hl [0, 1, 2, 3] rfl) hw
set_option maxRecDepth 100000 in
set_option maxHeartbeats 8000000 in
theorem u_L_law_1179 {p : Program} {e : Env} {s : State} {m : MethodId} {below : List Frame} {meth : Method} {c : Code} {base : Nat} {D : va_G} {cA : Nat → ClassId} {l : Launch} {b : Nat} {L : Int} {xs : Nat → Int32} {Q : Int → Int} (X : ml_X p s m c meth #[Value.ref b] D cA cL_law 4 RL ret) (hn : lw_S s base b L xs Q) (σ : ml_St) (ls : Array Slot) (hl : lv_has ls 4 []) (hw : f_L_law_u1179 Q L σ) : ml_V p l e room_1 s m #[Value.ref b] below meth c (lw_Z below #[Value.ref b] s) base D cA 256 163205 256 (256) σ (F0 m 1179 ls []) := by
  unfold f_L_law_u1179 at hw
  refine ml_iconst (pc := 1179) X dL_law_1179 ?_
  exact hw.elim
set_option maxRecDepth 100000 in
set_option maxHeartbeats 8000000 in
theorem u_L_law_1187 {p : Program} {e : Env} {s : State} {m : MethodId} {below : List Frame} {meth : Method} {c : Code} {base : Nat} {D : va_G} {cA : Nat → ClassId} {l : Launch} {b : Nat} {L : Int} {xs : Nat → Int32} {Q : Int → Int} (X : ml_X p s m c meth #[Value.ref b] D cA cL_law 4 RL ret) (hn : lw_S s base b L xs Q) (σ : ml_St) (ls : Array Slot) (hl : lv_has ls 4 []) (hw : f_L_law_u1187 Q L σ) : ml_V p l e room_1 s m #[Value.ref b] below meth c (lw_Z below #[Value.ref b] s) base D cA 256 163205 256 (256) σ (F0 m 1187 ls []) := by
  unfold f_L_law_u1187 at hw
  refine ml_iconst (pc := 1187) X dL_law_1187 ?_
  exact ml_lawret (pc := 1188) X hn dL_law_1188
set_option maxRecDepth 100000 in
set_option maxHeartbeats 8000000 in
theorem u_L_law_0 {p : Program} {e : Env} {s : State} {m : MethodId} {below : List Frame} {meth : Method} {c : Code} {base : Nat} {D : va_G} {cA : Nat → ClassId} {l : Launch} {b : Nat} {L : Int} {xs : Nat → Int32} {Q : Int → Int} (X : ml_X p s m c meth #[Value.ref b] D cA cL_law 4 RL ret) (hn : lw_S s base b L xs Q) (hs : s.heap.size = base + 1 + 0) (hNN : ml_N s) (σ : ml_St) (ls : Array Slot) (hl : lv_has ls 4 [(0, .ref b)]) (hw : f_L_law_u0 Q L σ) : ml_V p l e room_1 s m #[Value.ref b] below meth c (lw_Z below #[Value.ref b] s) base D cA 0 0 0 (0 + 0) σ (F0 m 0 ls []) := by
  unfold f_L_law_u0 at hw
  obtain ⟨z1, hw⟩ := hw
  refine ml_newO (n0 := 0) (kc := 0) (ks := 0) (pc := 0) (k := 1) X hs ⟨tw_1_18, tw_1_19, tw_1_1⟩ in_X11 rfl (by decide) tk_X11 df_X11 (by decide) (by omega) (by decide +kernel) z1 ⟨by decide, by decide⟩ dL_law_0 ?_
  refine ml_dup (pc := 3) X dL_law_3 rfl ?_
  refine ml_callCI (n0 := 0) (kc := 1) (ks := 13) (pc := 4) (k := 1) (mc := 213) (ms := 76181) X hs hNN (c_X11_init l base D cA σ _ hw) ⟨⟨tw_1_20, tw_1_21, tw_1_1, tw_1_22⟩, rfl, by decide +kernel⟩ ⟨rfl, rfl⟩ ⟨by decide, by decide⟩ (by omega) hl (Nat.le_of_ble_eq_true rfl) ⟨by decide, by decide⟩ dL_law_4 (fun σ2 hw => ?_)
  refine ml_astore_n (pc := 7) X rfl hl (by decide) (lst' := [(1, .ref (base + (1 : Int).toNat)), (0, .ref b)]) rfl dL_law_7 (fun ls hl => ?_)
  obtain ⟨z3, hw⟩ := hw
  refine ml_newO (n0 := 0) (kc := 214) (ks := 76194) (pc := 8) (k := 215) X hs ⟨tw_4_185, tw_4_186, tw_1_13⟩ in_X12 rfl (by decide) tk_X12 df_X12 (by decide) (by omega) (by decide +kernel) z3 ⟨by decide, by decide⟩ dL_law_8 ?_
  refine ml_dup (pc := 11) X dL_law_11 rfl ?_
  refine ml_callCI (n0 := 0) (kc := 215) (ks := 76256) (pc := 12) (k := 215) (mc := 41) (ms := 86949) X hs hNN (c_X12_init l base D cA σ2 _ hw) ⟨⟨tw_4_187, tw_4_188, tw_1_13, tw_4_189⟩, rfl, by decide +kernel⟩ ⟨rfl, rfl⟩ ⟨by decide, by decide⟩ (by omega) hl (Nat.le_of_ble_eq_true rfl) ⟨by decide, by decide⟩ dL_law_12 (fun σ4 hw => ?_)
  obtain ⟨oro, hw⟩ := hw
  refine ml_toRO oro ?_
  refine ml_astore_n (pc := 15) X rfl hl (by decide) (lst' := [(2, .ref (base + (215 : Int).toNat)), (1, .ref (base + (1 : Int).toNat)), (0, .ref b)]) rfl dL_law_15 (fun ls hl => ?_)
  refine ml_iconst (pc := 16) X dL_law_16 ?_
  refine ml_istore_n (pc := 17) X rfl hl (by decide) (lst' := [(3, .int (Int32.ofInt 0)), (2, .ref (base + (215 : Int).toNat)), (1, .ref (base + (1 : Int).toNat)), (0, .ref b)]) rfl dL_law_17 (fun ls hl => ?_)
  obtain ⟨N0, hw⟩ := hw
  exact u_L_law_18 X hn (fun σ   ls hl hw => u_L_law_1179 X hn σ   ls hl hw) (fun σ   ls hl hw => u_L_law_1187 X hn σ   ls hl hw) N0 σ4 0 ⟨by decide, by decide⟩ _ (lv_sub hl [3, 2, 1, 0] rfl) hw
