/-! THE CLAIM OUT OF ONE WALK OF THE LAW'S BODY. Your part is whole_start (and what it stands on); all else here is the same for every law, but numbers. -/
def R_law : String := "MirrorLaneLaw"
def lw_P (b : Addr) (xs : List Int32) (args : Array Value) (s : State) : Prop := args = #[.ref b] ∧ s.IntsAt b xs ∧ xs.length ≤ 8 ∧ (Jvm.Cond.and given_1 narrow_1).before args s = true
def lw_Q (_ : Array Value) (s : State) (o : Outcome) (t : State) : Prop := o = .returned (some (.int 1)) ∧ Framed s o t [] 600000 7302250
def lw_Z (below : List Frame) (a : Array Value) (s : State) : State → Prop := fun t => ∃ o, t.status = .running ∧ Ended t below o ∧ lw_Q a s o t
/-- the law's own end, with 1 on the stack, nothing written that was there before, its room as the claim has it -/
theorem lw_ret {p : Program} {l : Launch} {e : Env} {s : State} {m : MethodId} {below : List Frame} {meth : Method} {c : Code} {b : Nat} (hx : p.tables.exec = Jvm.exec) (hb : c.code = code) (hr : meth.sig.returnType = ret) (hlocks : meth.locks = false) {pc : Nat} {H : Heap} {ls : Array Slot} (hdg : decode code pc = .ok (.ireturn, 1)) : W p l e room_1 s m #[Value.ref b] below meth c H [] 600000 7302250 (lw_Z below #[Value.ref b] s) (F0 m pc ls [.int 1]) := by
  intro T hT X
  obtain ⟨fs, hret, hrun, hended, hW, hframe⟩ := X.leave (v := some (.int 1)) (hlocks := hlocks) (fun h => by rw [hr] at h; cases h)
  have hmeth' : T.vm.method? m = some meth := X.method'
  refine ⟨T.setFrames fs, ?_, .returned (some (.int 1)), hrun, hended, rfl, ⟨_, rfl⟩, hW, hframe⟩
  jvm_step X.here [X.here.top, hx, hb, hdg, hmeth', hr, ret, narrow_b1]
  (try refine ⟨rfl, ?_⟩); (try refine ⟨rfl, ?_⟩)
  first | (intro acts; rw [hret _ acts rfl rfl rfl]) | rw [hret _ _ rfl rfl rfl]
  exact Steps.refl _
/-- what holds at the law's entry: the machine, the code, the tables' words (any of lw_tbl by 'hts w (by decide +kernel)'), the script of L ints xs at the cell b, what the Statement gives of the start (any of its parts by flat_of_before) -/
def lw_At (p : Program) (s : State) (m : MethodId) (meth : Method) (c : Code) (b L : Nat) (xs : Nat → Int32) : Prop :=
  p.tables.exec = Jvm.exec ∧ c.code = code ∧ meth.sig.returnType = ret ∧ c.maxLocals = 4 ∧ s.vm.findClass R_law = some m.cls ∧ (∀ w ∈ lw_tbl, w.before #[Value.ref b] s = true) ∧ va_X b L xs s s.heap ∧ b < s.heap.size ∧ meth.locks = false ∧ (Jvm.Cond.and given_1 narrow_1).before #[Value.ref b] s = true
def lw_S (s : State) (base b : Nat) (L : Int) (xs : Nat → Int32) (Q : Int → Int) : Prop := va_X b L.toNat xs s s.heap ∧ b < s.heap.size ∧ b ≤ base ∧ (0 ≤ L ∧ L ≤ 100000 ∧ s.heap.size = base + 1) ∧ I32 L ∧ (∀ i, I32 (Q i)) ∧ ∀ i : Int, 0 ≤ i → Int32.ofInt (Q i) = xs i.toNat
section MLW
variable {p : Program} {l : Launch} {e : Env} {R : Room} {s : State} {m : MethodId} {args : Array Value} {below : List Frame} {meth : Method} {c : Code} {Qs : State → Prop} {base b : Nat} {D : va_G} {cA : Nat → ClassId} {kc ks rr n : Nat} {σ : ml_St} {cc : ByteArray} {nL pc : Nat} {own : String} {rt : Option FieldType} {ls : Array Slot} {rest : List Value} {L : Int} {xs : Nat → Int32} {Q : Int → Int}
theorem ml_sld (X : ml_X p s m c meth args D cA cc nL own rt) (hn : lw_S s base b L xs Q) {i : Int} (h0 : 0 ≤ i) (h1 : i < L) (d : decode cc pc = .ok (.iaload, 1)) (kk : ml_V p l e R s m args below meth c Qs base D cA kc ks rr n σ (F0 m (pc + 1) ls (.int (Int32.ofInt (Q i)) :: rest))) : ml_V p l e R s m args below meth c Qs base D cA kc ks rr n σ (F0 m pc ls (.int (Int32.ofInt i) :: .ref b :: rest)) := by
  intro H locs h1' h2 h3 h4
  obtain ⟨g1, g2, g3, g4, g5, g6, g7⟩ := hn
  refine va_sld X.1 X.2.1 g1 g2 (fun q => by have q : base < b := q; omega) h2 (ml_vin (N := L.toNat) h0 (by omega) (by omega)) d ?_
  rw [ml_cl h0 (by omega), ← g7 i h0]
  exact kk H locs h1' h2 h3 h4
theorem ml_slen (X : ml_X p s m c meth args D cA cc nL own rt) (hn : lw_S s base b L xs Q) (d : decode cc pc = .ok (.arraylength, 1)) (kk : ml_V p l e R s m args below meth c Qs base D cA kc ks rr n σ (F0 m (pc + 1) ls (.int (Int32.ofInt L) :: rest))) : ml_V p l e R s m args below meth c Qs base D cA kc ks rr n σ (F0 m pc ls (.ref b :: rest)) := by
  intro H locs h1' h2 h3 h4
  obtain ⟨g1, g2, g3, g4, g5, g6, g7⟩ := hn
  refine va_slen X.1 X.2.1 g1 g2 (fun q => by have q : base < b := q; omega) h2 d ?_
  have e : Int32.ofNat L.toNat = Int32.ofInt L := by
    have : ((L.toNat : Nat) : Int) = L := by omega
    rw [← this]
    rfl
  rw [e]
  exact kk H locs h1' h2 h3 h4
theorem ml_lawret (X : ml_X p s m c meth #[Value.ref b] D cA cL_law nL RL ret) (hn : lw_S s base b L xs Q) (d : decode cL_law pc = .ok (.ireturn, 1)) (hkc : kc ≤ 600000 := by decide) (hks : ks ≤ 7302250 := by decide) : ml_V p l e room_1 s m #[Value.ref b] below meth c (lw_Z below #[Value.ref b] s) base D cA kc ks rr n σ (F0 m pc ls [.int (Int32.ofInt 1)]) := by
  intro H locs h1' h2 h3 h4
  refine va_forget (fun q hq => ?_) ?_
  · have h5 : base < q.base := h2.2.2 q hq
    have h6 := hn.2.2.2.1.2.2
    rw [h6]
    exact h5
  · exact W.widen (k := 600000) (n := 7302250) hkc hks (lw_ret X.1 X.2.1 X.2.2.2.2.2.2.2 X.2.2.2.2.2.2.1 d)
end MLW
theorem dL_law_0 : decode cL_law 0 = .ok (.new 7, 3) := by decide +kernel
theorem dL_law_3 : decode cL_law 3 = .ok (.dup, 1) := by decide +kernel
theorem dL_law_4 : decode cL_law 4 = .ok (.invokespecial 9, 3) := by decide +kernel
theorem dL_law_7 : decode cL_law 7 = .ok (.astore_n 1, 1) := by decide +kernel
theorem dL_law_8 : decode cL_law 8 = .ok (.new 10, 3) := by decide +kernel
theorem dL_law_11 : decode cL_law 11 = .ok (.dup, 1) := by decide +kernel
theorem dL_law_12 : decode cL_law 12 = .ok (.invokespecial 12, 3) := by decide +kernel
theorem dL_law_15 : decode cL_law 15 = .ok (.astore_n 2, 1) := by decide +kernel
theorem dL_law_16 : decode cL_law 16 = .ok (.iconst 0, 1) := by decide +kernel
theorem dL_law_17 : decode cL_law 17 = .ok (.istore_n 3, 1) := by decide +kernel
theorem dL_law_18 : decode cL_law 18 = .ok (.iload_n 3, 1) := by decide +kernel
theorem dL_law_19 : decode cL_law 19 = .ok (.aload_n 0, 1) := by decide +kernel
theorem dL_law_20 : decode cL_law 20 = .ok (.arraylength, 1) := by decide +kernel
theorem dL_law_21 : decode cL_law 21 = .ok (.bipush 8, 2) := by decide +kernel
theorem dL_law_23 : decode cL_law 23 = .ok (.isub, 1) := by decide +kernel
theorem dL_law_24 : decode cL_law 24 = .ok (.if_icmp .gt 1170, 3) := by decide +kernel
theorem dL_law_27 : decode cL_law 27 = .ok (.aload_n 0, 1) := by decide +kernel
theorem dL_law_28 : decode cL_law 28 = .ok (.iload_n 3, 1) := by decide +kernel
theorem dL_law_29 : decode cL_law 29 = .ok (.iaload, 1) := by decide +kernel
theorem dL_law_30 : decode cL_law 30 = .ok (.bipush 31, 2) := by decide +kernel
theorem dL_law_32 : decode cL_law 32 = .ok (.iand, 1) := by decide +kernel
theorem dL_law_33 : decode cL_law 33 = .ok (.tableswitch 1155 0 26 #[123, 146, 209, 232, 265, 278, 291, 315, 348, 382, 416, 449, 483, 547, 695, 759, 802, 835, 878, 901, 944, 977, 1020, 1043, 1066, 1109, 1132], 123) := by decide +kernel
theorem dL_law_156 : decode cL_law 156 = .ok (.aload_n 1, 1) := by decide +kernel
theorem dL_law_157 : decode cL_law 157 = .ok (.aload_n 0, 1) := by decide +kernel
theorem dL_law_158 : decode cL_law 158 = .ok (.iload_n 3, 1) := by decide +kernel
theorem dL_law_159 : decode cL_law 159 = .ok (.iconst 1, 1) := by decide +kernel
theorem dL_law_160 : decode cL_law 160 = .ok (.iadd, 1) := by decide +kernel
theorem dL_law_161 : decode cL_law 161 = .ok (.iaload, 1) := by decide +kernel
theorem dL_law_162 : decode cL_law 162 = .ok (.invokevirtual 13, 3) := by decide +kernel
theorem dL_law_165 : decode cL_law 165 = .ok (.aload_n 2, 1) := by decide +kernel
theorem dL_law_166 : decode cL_law 166 = .ok (.aload_n 0, 1) := by decide +kernel
theorem dL_law_167 : decode cL_law 167 = .ok (.iload_n 3, 1) := by decide +kernel
theorem dL_law_168 : decode cL_law 168 = .ok (.iconst 1, 1) := by decide +kernel
theorem dL_law_169 : decode cL_law 169 = .ok (.iadd, 1) := by decide +kernel
theorem dL_law_170 : decode cL_law 170 = .ok (.iaload, 1) := by decide +kernel
theorem dL_law_171 : decode cL_law 171 = .ok (.invokevirtual 17, 3) := by decide +kernel
theorem dL_law_174 : decode cL_law 174 = .ok (.if_icmp .eq 1014, 3) := by decide +kernel
theorem dL_law_177 : decode cL_law 177 = .ok (.iconst 0, 1) := by decide +kernel
theorem dL_law_178 : decode cL_law 178 = .ok (.ireturn, 1) := by decide +kernel
theorem dL_law_179 : decode cL_law 179 = .ok (.aload_n 1, 1) := by decide +kernel
theorem dL_law_180 : decode cL_law 180 = .ok (.aload_n 0, 1) := by decide +kernel
theorem dL_law_181 : decode cL_law 181 = .ok (.iload_n 3, 1) := by decide +kernel
theorem dL_law_182 : decode cL_law 182 = .ok (.iconst 1, 1) := by decide +kernel
theorem dL_law_183 : decode cL_law 183 = .ok (.iadd, 1) := by decide +kernel
theorem dL_law_184 : decode cL_law 184 = .ok (.iaload, 1) := by decide +kernel
theorem dL_law_185 : decode cL_law 185 = .ok (.aload_n 0, 1) := by decide +kernel
theorem dL_law_186 : decode cL_law 186 = .ok (.iload_n 3, 1) := by decide +kernel
theorem dL_law_187 : decode cL_law 187 = .ok (.iconst 2, 1) := by decide +kernel
theorem dL_law_188 : decode cL_law 188 = .ok (.iadd, 1) := by decide +kernel
theorem dL_law_189 : decode cL_law 189 = .ok (.iaload, 1) := by decide +kernel
theorem dL_law_190 : decode cL_law 190 = .ok (.aload_n 0, 1) := by decide +kernel
theorem dL_law_191 : decode cL_law 191 = .ok (.iload_n 3, 1) := by decide +kernel
theorem dL_law_192 : decode cL_law 192 = .ok (.iconst 3, 1) := by decide +kernel
theorem dL_law_193 : decode cL_law 193 = .ok (.iadd, 1) := by decide +kernel
theorem dL_law_194 : decode cL_law 194 = .ok (.iaload, 1) := by decide +kernel
theorem dL_law_195 : decode cL_law 195 = .ok (.aload_n 0, 1) := by decide +kernel
theorem dL_law_196 : decode cL_law 196 = .ok (.iload_n 3, 1) := by decide +kernel
theorem dL_law_197 : decode cL_law 197 = .ok (.iconst 4, 1) := by decide +kernel
theorem dL_law_198 : decode cL_law 198 = .ok (.iadd, 1) := by decide +kernel
theorem dL_law_199 : decode cL_law 199 = .ok (.iaload, 1) := by decide +kernel
theorem dL_law_200 : decode cL_law 200 = .ok (.aload_n 0, 1) := by decide +kernel
theorem dL_law_201 : decode cL_law 201 = .ok (.iload_n 3, 1) := by decide +kernel
theorem dL_law_202 : decode cL_law 202 = .ok (.iconst 5, 1) := by decide +kernel
theorem dL_law_203 : decode cL_law 203 = .ok (.iadd, 1) := by decide +kernel
theorem dL_law_204 : decode cL_law 204 = .ok (.iaload, 1) := by decide +kernel
theorem dL_law_205 : decode cL_law 205 = .ok (.invokevirtual 18, 3) := by decide +kernel
theorem dL_law_208 : decode cL_law 208 = .ok (.aload_n 2, 1) := by decide +kernel
theorem dL_law_209 : decode cL_law 209 = .ok (.aload_n 0, 1) := by decide +kernel
theorem dL_law_210 : decode cL_law 210 = .ok (.iload_n 3, 1) := by decide +kernel
theorem dL_law_211 : decode cL_law 211 = .ok (.iconst 1, 1) := by decide +kernel
theorem dL_law_212 : decode cL_law 212 = .ok (.iadd, 1) := by decide +kernel
theorem dL_law_213 : decode cL_law 213 = .ok (.iaload, 1) := by decide +kernel
theorem dL_law_214 : decode cL_law 214 = .ok (.aload_n 0, 1) := by decide +kernel
theorem dL_law_215 : decode cL_law 215 = .ok (.iload_n 3, 1) := by decide +kernel
theorem dL_law_216 : decode cL_law 216 = .ok (.iconst 2, 1) := by decide +kernel
theorem dL_law_217 : decode cL_law 217 = .ok (.iadd, 1) := by decide +kernel
theorem dL_law_218 : decode cL_law 218 = .ok (.iaload, 1) := by decide +kernel
theorem dL_law_219 : decode cL_law 219 = .ok (.aload_n 0, 1) := by decide +kernel
theorem dL_law_220 : decode cL_law 220 = .ok (.iload_n 3, 1) := by decide +kernel
theorem dL_law_221 : decode cL_law 221 = .ok (.iconst 3, 1) := by decide +kernel
theorem dL_law_222 : decode cL_law 222 = .ok (.iadd, 1) := by decide +kernel
theorem dL_law_223 : decode cL_law 223 = .ok (.iaload, 1) := by decide +kernel
theorem dL_law_224 : decode cL_law 224 = .ok (.aload_n 0, 1) := by decide +kernel
theorem dL_law_225 : decode cL_law 225 = .ok (.iload_n 3, 1) := by decide +kernel
theorem dL_law_226 : decode cL_law 226 = .ok (.iconst 4, 1) := by decide +kernel
theorem dL_law_227 : decode cL_law 227 = .ok (.iadd, 1) := by decide +kernel
theorem dL_law_228 : decode cL_law 228 = .ok (.iaload, 1) := by decide +kernel
theorem dL_law_229 : decode cL_law 229 = .ok (.aload_n 0, 1) := by decide +kernel
theorem dL_law_230 : decode cL_law 230 = .ok (.iload_n 3, 1) := by decide +kernel
theorem dL_law_231 : decode cL_law 231 = .ok (.iconst 5, 1) := by decide +kernel
theorem dL_law_232 : decode cL_law 232 = .ok (.iadd, 1) := by decide +kernel
theorem dL_law_233 : decode cL_law 233 = .ok (.iaload, 1) := by decide +kernel
theorem dL_law_234 : decode cL_law 234 = .ok (.invokevirtual 22, 3) := by decide +kernel
theorem dL_law_237 : decode cL_law 237 = .ok (.if_icmp .eq 951, 3) := by decide +kernel
theorem dL_law_240 : decode cL_law 240 = .ok (.iconst 0, 1) := by decide +kernel
theorem dL_law_241 : decode cL_law 241 = .ok (.ireturn, 1) := by decide +kernel
theorem dL_law_242 : decode cL_law 242 = .ok (.aload_n 1, 1) := by decide +kernel
theorem dL_law_243 : decode cL_law 243 = .ok (.aload_n 0, 1) := by decide +kernel
theorem dL_law_244 : decode cL_law 244 = .ok (.iload_n 3, 1) := by decide +kernel
theorem dL_law_245 : decode cL_law 245 = .ok (.iconst 1, 1) := by decide +kernel
theorem dL_law_246 : decode cL_law 246 = .ok (.iadd, 1) := by decide +kernel
theorem dL_law_247 : decode cL_law 247 = .ok (.iaload, 1) := by decide +kernel
theorem dL_law_248 : decode cL_law 248 = .ok (.invokevirtual 23, 3) := by decide +kernel
theorem dL_law_251 : decode cL_law 251 = .ok (.aload_n 2, 1) := by decide +kernel
theorem dL_law_252 : decode cL_law 252 = .ok (.aload_n 0, 1) := by decide +kernel
theorem dL_law_253 : decode cL_law 253 = .ok (.iload_n 3, 1) := by decide +kernel
theorem dL_law_254 : decode cL_law 254 = .ok (.iconst 1, 1) := by decide +kernel
theorem dL_law_255 : decode cL_law 255 = .ok (.iadd, 1) := by decide +kernel
theorem dL_law_256 : decode cL_law 256 = .ok (.iaload, 1) := by decide +kernel
theorem dL_law_257 : decode cL_law 257 = .ok (.invokevirtual 27, 3) := by decide +kernel
theorem dL_law_260 : decode cL_law 260 = .ok (.if_icmp .eq 928, 3) := by decide +kernel
theorem dL_law_263 : decode cL_law 263 = .ok (.iconst 0, 1) := by decide +kernel
theorem dL_law_264 : decode cL_law 264 = .ok (.ireturn, 1) := by decide +kernel
theorem dL_law_265 : decode cL_law 265 = .ok (.aload_n 1, 1) := by decide +kernel
theorem dL_law_266 : decode cL_law 266 = .ok (.aload_n 0, 1) := by decide +kernel
theorem dL_law_267 : decode cL_law 267 = .ok (.iload_n 3, 1) := by decide +kernel
theorem dL_law_268 : decode cL_law 268 = .ok (.iconst 1, 1) := by decide +kernel
theorem dL_law_269 : decode cL_law 269 = .ok (.iadd, 1) := by decide +kernel
theorem dL_law_270 : decode cL_law 270 = .ok (.iaload, 1) := by decide +kernel
theorem dL_law_271 : decode cL_law 271 = .ok (.aload_n 0, 1) := by decide +kernel
theorem dL_law_272 : decode cL_law 272 = .ok (.iload_n 3, 1) := by decide +kernel
theorem dL_law_273 : decode cL_law 273 = .ok (.iconst 2, 1) := by decide +kernel
theorem dL_law_274 : decode cL_law 274 = .ok (.iadd, 1) := by decide +kernel
theorem dL_law_275 : decode cL_law 275 = .ok (.iaload, 1) := by decide +kernel
theorem dL_law_276 : decode cL_law 276 = .ok (.invokevirtual 28, 3) := by decide +kernel
theorem dL_law_279 : decode cL_law 279 = .ok (.aload_n 2, 1) := by decide +kernel
theorem dL_law_280 : decode cL_law 280 = .ok (.aload_n 0, 1) := by decide +kernel
theorem dL_law_281 : decode cL_law 281 = .ok (.iload_n 3, 1) := by decide +kernel
theorem dL_law_282 : decode cL_law 282 = .ok (.iconst 1, 1) := by decide +kernel
theorem dL_law_283 : decode cL_law 283 = .ok (.iadd, 1) := by decide +kernel
theorem dL_law_284 : decode cL_law 284 = .ok (.iaload, 1) := by decide +kernel
theorem dL_law_285 : decode cL_law 285 = .ok (.aload_n 0, 1) := by decide +kernel
theorem dL_law_286 : decode cL_law 286 = .ok (.iload_n 3, 1) := by decide +kernel
theorem dL_law_287 : decode cL_law 287 = .ok (.iconst 2, 1) := by decide +kernel
theorem dL_law_288 : decode cL_law 288 = .ok (.iadd, 1) := by decide +kernel
theorem dL_law_289 : decode cL_law 289 = .ok (.iaload, 1) := by decide +kernel
theorem dL_law_290 : decode cL_law 290 = .ok (.invokevirtual 32, 3) := by decide +kernel
theorem dL_law_293 : decode cL_law 293 = .ok (.if_icmp .eq 895, 3) := by decide +kernel
theorem dL_law_296 : decode cL_law 296 = .ok (.iconst 0, 1) := by decide +kernel
theorem dL_law_297 : decode cL_law 297 = .ok (.ireturn, 1) := by decide +kernel
theorem dL_law_298 : decode cL_law 298 = .ok (.aload_n 1, 1) := by decide +kernel
theorem dL_law_299 : decode cL_law 299 = .ok (.invokevirtual 33, 3) := by decide +kernel
theorem dL_law_302 : decode cL_law 302 = .ok (.aload_n 2, 1) := by decide +kernel
theorem dL_law_303 : decode cL_law 303 = .ok (.invokevirtual 37, 3) := by decide +kernel
theorem dL_law_306 : decode cL_law 306 = .ok (.if_icmp .eq 882, 3) := by decide +kernel
theorem dL_law_309 : decode cL_law 309 = .ok (.iconst 0, 1) := by decide +kernel
theorem dL_law_310 : decode cL_law 310 = .ok (.ireturn, 1) := by decide +kernel
theorem dL_law_311 : decode cL_law 311 = .ok (.aload_n 1, 1) := by decide +kernel
theorem dL_law_312 : decode cL_law 312 = .ok (.invokevirtual 38, 3) := by decide +kernel
theorem dL_law_315 : decode cL_law 315 = .ok (.aload_n 2, 1) := by decide +kernel
theorem dL_law_316 : decode cL_law 316 = .ok (.invokevirtual 41, 3) := by decide +kernel
theorem dL_law_319 : decode cL_law 319 = .ok (.if_icmp .eq 869, 3) := by decide +kernel
theorem dL_law_322 : decode cL_law 322 = .ok (.iconst 0, 1) := by decide +kernel
theorem dL_law_323 : decode cL_law 323 = .ok (.ireturn, 1) := by decide +kernel
theorem dL_law_324 : decode cL_law 324 = .ok (.aload_n 1, 1) := by decide +kernel
theorem dL_law_325 : decode cL_law 325 = .ok (.aload_n 0, 1) := by decide +kernel
theorem dL_law_326 : decode cL_law 326 = .ok (.iload_n 3, 1) := by decide +kernel
theorem dL_law_327 : decode cL_law 327 = .ok (.iconst 1, 1) := by decide +kernel
theorem dL_law_328 : decode cL_law 328 = .ok (.iadd, 1) := by decide +kernel
theorem dL_law_329 : decode cL_law 329 = .ok (.iaload, 1) := by decide +kernel
theorem dL_law_330 : decode cL_law 330 = .ok (.invokevirtual 42, 3) := by decide +kernel
theorem dL_law_333 : decode cL_law 333 = .ok (.aload_n 2, 1) := by decide +kernel
theorem dL_law_334 : decode cL_law 334 = .ok (.aload_n 0, 1) := by decide +kernel
theorem dL_law_335 : decode cL_law 335 = .ok (.iload_n 3, 1) := by decide +kernel
theorem dL_law_336 : decode cL_law 336 = .ok (.iconst 1, 1) := by decide +kernel
theorem dL_law_337 : decode cL_law 337 = .ok (.iadd, 1) := by decide +kernel
theorem dL_law_338 : decode cL_law 338 = .ok (.iaload, 1) := by decide +kernel
theorem dL_law_339 : decode cL_law 339 = .ok (.invokevirtual 46, 3) := by decide +kernel
theorem dL_law_342 : decode cL_law 342 = .ok (.lcmp, 1) := by decide +kernel
theorem dL_law_343 : decode cL_law 343 = .ok (.ifCond .eq 845, 3) := by decide +kernel
theorem dL_law_346 : decode cL_law 346 = .ok (.iconst 0, 1) := by decide +kernel
theorem dL_law_347 : decode cL_law 347 = .ok (.ireturn, 1) := by decide +kernel
theorem dL_law_348 : decode cL_law 348 = .ok (.aload_n 1, 1) := by decide +kernel
theorem dL_law_349 : decode cL_law 349 = .ok (.aload_n 0, 1) := by decide +kernel
theorem dL_law_350 : decode cL_law 350 = .ok (.iload_n 3, 1) := by decide +kernel
theorem dL_law_351 : decode cL_law 351 = .ok (.iconst 1, 1) := by decide +kernel
theorem dL_law_352 : decode cL_law 352 = .ok (.iadd, 1) := by decide +kernel
theorem dL_law_353 : decode cL_law 353 = .ok (.iaload, 1) := by decide +kernel
theorem dL_law_354 : decode cL_law 354 = .ok (.aload_n 0, 1) := by decide +kernel
theorem dL_law_355 : decode cL_law 355 = .ok (.iload_n 3, 1) := by decide +kernel
theorem dL_law_356 : decode cL_law 356 = .ok (.iconst 2, 1) := by decide +kernel
theorem dL_law_357 : decode cL_law 357 = .ok (.iadd, 1) := by decide +kernel
theorem dL_law_358 : decode cL_law 358 = .ok (.iaload, 1) := by decide +kernel
theorem dL_law_359 : decode cL_law 359 = .ok (.invokevirtual 47, 3) := by decide +kernel
theorem dL_law_362 : decode cL_law 362 = .ok (.aload_n 2, 1) := by decide +kernel
theorem dL_law_363 : decode cL_law 363 = .ok (.aload_n 0, 1) := by decide +kernel
theorem dL_law_364 : decode cL_law 364 = .ok (.iload_n 3, 1) := by decide +kernel
theorem dL_law_365 : decode cL_law 365 = .ok (.iconst 1, 1) := by decide +kernel
theorem dL_law_366 : decode cL_law 366 = .ok (.iadd, 1) := by decide +kernel
theorem dL_law_367 : decode cL_law 367 = .ok (.iaload, 1) := by decide +kernel
theorem dL_law_368 : decode cL_law 368 = .ok (.aload_n 0, 1) := by decide +kernel
theorem dL_law_369 : decode cL_law 369 = .ok (.iload_n 3, 1) := by decide +kernel
theorem dL_law_370 : decode cL_law 370 = .ok (.iconst 2, 1) := by decide +kernel
theorem dL_law_371 : decode cL_law 371 = .ok (.iadd, 1) := by decide +kernel
theorem dL_law_372 : decode cL_law 372 = .ok (.iaload, 1) := by decide +kernel
theorem dL_law_373 : decode cL_law 373 = .ok (.invokevirtual 50, 3) := by decide +kernel
theorem dL_law_376 : decode cL_law 376 = .ok (.if_icmp .eq 812, 3) := by decide +kernel
theorem dL_law_379 : decode cL_law 379 = .ok (.iconst 0, 1) := by decide +kernel
theorem dL_law_380 : decode cL_law 380 = .ok (.ireturn, 1) := by decide +kernel
theorem dL_law_381 : decode cL_law 381 = .ok (.aload_n 1, 1) := by decide +kernel
theorem dL_law_382 : decode cL_law 382 = .ok (.aload_n 0, 1) := by decide +kernel
theorem dL_law_383 : decode cL_law 383 = .ok (.iload_n 3, 1) := by decide +kernel
theorem dL_law_384 : decode cL_law 384 = .ok (.iconst 1, 1) := by decide +kernel
theorem dL_law_385 : decode cL_law 385 = .ok (.iadd, 1) := by decide +kernel
theorem dL_law_386 : decode cL_law 386 = .ok (.iaload, 1) := by decide +kernel
theorem dL_law_387 : decode cL_law 387 = .ok (.aload_n 0, 1) := by decide +kernel
theorem dL_law_388 : decode cL_law 388 = .ok (.iload_n 3, 1) := by decide +kernel
theorem dL_law_389 : decode cL_law 389 = .ok (.iconst 2, 1) := by decide +kernel
theorem dL_law_390 : decode cL_law 390 = .ok (.iadd, 1) := by decide +kernel
theorem dL_law_391 : decode cL_law 391 = .ok (.iaload, 1) := by decide +kernel
theorem dL_law_392 : decode cL_law 392 = .ok (.invokevirtual 51, 3) := by decide +kernel
theorem dL_law_395 : decode cL_law 395 = .ok (.aload_n 2, 1) := by decide +kernel
theorem dL_law_396 : decode cL_law 396 = .ok (.aload_n 0, 1) := by decide +kernel
theorem dL_law_397 : decode cL_law 397 = .ok (.iload_n 3, 1) := by decide +kernel
theorem dL_law_398 : decode cL_law 398 = .ok (.iconst 1, 1) := by decide +kernel
theorem dL_law_399 : decode cL_law 399 = .ok (.iadd, 1) := by decide +kernel
theorem dL_law_400 : decode cL_law 400 = .ok (.iaload, 1) := by decide +kernel
theorem dL_law_401 : decode cL_law 401 = .ok (.aload_n 0, 1) := by decide +kernel
theorem dL_law_402 : decode cL_law 402 = .ok (.iload_n 3, 1) := by decide +kernel
theorem dL_law_403 : decode cL_law 403 = .ok (.iconst 2, 1) := by decide +kernel
theorem dL_law_404 : decode cL_law 404 = .ok (.iadd, 1) := by decide +kernel
theorem dL_law_405 : decode cL_law 405 = .ok (.iaload, 1) := by decide +kernel
theorem dL_law_406 : decode cL_law 406 = .ok (.invokevirtual 55, 3) := by decide +kernel
theorem dL_law_409 : decode cL_law 409 = .ok (.lcmp, 1) := by decide +kernel
theorem dL_law_410 : decode cL_law 410 = .ok (.ifCond .eq 778, 3) := by decide +kernel
theorem dL_law_413 : decode cL_law 413 = .ok (.iconst 0, 1) := by decide +kernel
theorem dL_law_414 : decode cL_law 414 = .ok (.ireturn, 1) := by decide +kernel
theorem dL_law_415 : decode cL_law 415 = .ok (.aload_n 1, 1) := by decide +kernel
theorem dL_law_416 : decode cL_law 416 = .ok (.aload_n 0, 1) := by decide +kernel
theorem dL_law_417 : decode cL_law 417 = .ok (.iload_n 3, 1) := by decide +kernel
theorem dL_law_418 : decode cL_law 418 = .ok (.iconst 1, 1) := by decide +kernel
theorem dL_law_419 : decode cL_law 419 = .ok (.iadd, 1) := by decide +kernel
theorem dL_law_420 : decode cL_law 420 = .ok (.iaload, 1) := by decide +kernel
theorem dL_law_421 : decode cL_law 421 = .ok (.aload_n 0, 1) := by decide +kernel
theorem dL_law_422 : decode cL_law 422 = .ok (.iload_n 3, 1) := by decide +kernel
theorem dL_law_423 : decode cL_law 423 = .ok (.iconst 2, 1) := by decide +kernel
theorem dL_law_424 : decode cL_law 424 = .ok (.iadd, 1) := by decide +kernel
theorem dL_law_425 : decode cL_law 425 = .ok (.iaload, 1) := by decide +kernel
theorem dL_law_426 : decode cL_law 426 = .ok (.invokevirtual 56, 3) := by decide +kernel
theorem dL_law_429 : decode cL_law 429 = .ok (.aload_n 2, 1) := by decide +kernel
theorem dL_law_430 : decode cL_law 430 = .ok (.aload_n 0, 1) := by decide +kernel
theorem dL_law_431 : decode cL_law 431 = .ok (.iload_n 3, 1) := by decide +kernel
theorem dL_law_432 : decode cL_law 432 = .ok (.iconst 1, 1) := by decide +kernel
theorem dL_law_433 : decode cL_law 433 = .ok (.iadd, 1) := by decide +kernel
theorem dL_law_434 : decode cL_law 434 = .ok (.iaload, 1) := by decide +kernel
theorem dL_law_435 : decode cL_law 435 = .ok (.aload_n 0, 1) := by decide +kernel
theorem dL_law_436 : decode cL_law 436 = .ok (.iload_n 3, 1) := by decide +kernel
theorem dL_law_437 : decode cL_law 437 = .ok (.iconst 2, 1) := by decide +kernel
theorem dL_law_438 : decode cL_law 438 = .ok (.iadd, 1) := by decide +kernel
theorem dL_law_439 : decode cL_law 439 = .ok (.iaload, 1) := by decide +kernel
theorem dL_law_440 : decode cL_law 440 = .ok (.invokevirtual 59, 3) := by decide +kernel
theorem dL_law_443 : decode cL_law 443 = .ok (.lcmp, 1) := by decide +kernel
theorem dL_law_444 : decode cL_law 444 = .ok (.ifCond .eq 744, 3) := by decide +kernel
theorem dL_law_447 : decode cL_law 447 = .ok (.iconst 0, 1) := by decide +kernel
theorem dL_law_448 : decode cL_law 448 = .ok (.ireturn, 1) := by decide +kernel
theorem dL_law_449 : decode cL_law 449 = .ok (.aload_n 1, 1) := by decide +kernel
theorem dL_law_450 : decode cL_law 450 = .ok (.aload_n 0, 1) := by decide +kernel
theorem dL_law_451 : decode cL_law 451 = .ok (.iload_n 3, 1) := by decide +kernel
theorem dL_law_452 : decode cL_law 452 = .ok (.iconst 1, 1) := by decide +kernel
theorem dL_law_453 : decode cL_law 453 = .ok (.iadd, 1) := by decide +kernel
theorem dL_law_454 : decode cL_law 454 = .ok (.iaload, 1) := by decide +kernel
theorem dL_law_455 : decode cL_law 455 = .ok (.aload_n 0, 1) := by decide +kernel
theorem dL_law_456 : decode cL_law 456 = .ok (.iload_n 3, 1) := by decide +kernel
theorem dL_law_457 : decode cL_law 457 = .ok (.iconst 2, 1) := by decide +kernel
theorem dL_law_458 : decode cL_law 458 = .ok (.iadd, 1) := by decide +kernel
theorem dL_law_459 : decode cL_law 459 = .ok (.iaload, 1) := by decide +kernel
theorem dL_law_460 : decode cL_law 460 = .ok (.invokevirtual 60, 3) := by decide +kernel
theorem dL_law_463 : decode cL_law 463 = .ok (.aload_n 2, 1) := by decide +kernel
theorem dL_law_464 : decode cL_law 464 = .ok (.aload_n 0, 1) := by decide +kernel
theorem dL_law_465 : decode cL_law 465 = .ok (.iload_n 3, 1) := by decide +kernel
theorem dL_law_466 : decode cL_law 466 = .ok (.iconst 1, 1) := by decide +kernel
theorem dL_law_467 : decode cL_law 467 = .ok (.iadd, 1) := by decide +kernel
theorem dL_law_468 : decode cL_law 468 = .ok (.iaload, 1) := by decide +kernel
theorem dL_law_469 : decode cL_law 469 = .ok (.aload_n 0, 1) := by decide +kernel
theorem dL_law_470 : decode cL_law 470 = .ok (.iload_n 3, 1) := by decide +kernel
theorem dL_law_471 : decode cL_law 471 = .ok (.iconst 2, 1) := by decide +kernel
theorem dL_law_472 : decode cL_law 472 = .ok (.iadd, 1) := by decide +kernel
theorem dL_law_473 : decode cL_law 473 = .ok (.iaload, 1) := by decide +kernel
theorem dL_law_474 : decode cL_law 474 = .ok (.invokevirtual 63, 3) := by decide +kernel
theorem dL_law_477 : decode cL_law 477 = .ok (.if_icmp .eq 711, 3) := by decide +kernel
theorem dL_law_480 : decode cL_law 480 = .ok (.iconst 0, 1) := by decide +kernel
theorem dL_law_481 : decode cL_law 481 = .ok (.ireturn, 1) := by decide +kernel
theorem dL_law_482 : decode cL_law 482 = .ok (.aload_n 1, 1) := by decide +kernel
theorem dL_law_483 : decode cL_law 483 = .ok (.aload_n 0, 1) := by decide +kernel
theorem dL_law_484 : decode cL_law 484 = .ok (.iload_n 3, 1) := by decide +kernel
theorem dL_law_485 : decode cL_law 485 = .ok (.iconst 1, 1) := by decide +kernel
theorem dL_law_486 : decode cL_law 486 = .ok (.iadd, 1) := by decide +kernel
theorem dL_law_487 : decode cL_law 487 = .ok (.iaload, 1) := by decide +kernel
theorem dL_law_488 : decode cL_law 488 = .ok (.aload_n 0, 1) := by decide +kernel
theorem dL_law_489 : decode cL_law 489 = .ok (.iload_n 3, 1) := by decide +kernel
theorem dL_law_490 : decode cL_law 490 = .ok (.iconst 2, 1) := by decide +kernel
theorem dL_law_491 : decode cL_law 491 = .ok (.iadd, 1) := by decide +kernel
theorem dL_law_492 : decode cL_law 492 = .ok (.iaload, 1) := by decide +kernel
theorem dL_law_493 : decode cL_law 493 = .ok (.invokevirtual 64, 3) := by decide +kernel
theorem dL_law_496 : decode cL_law 496 = .ok (.aload_n 2, 1) := by decide +kernel
theorem dL_law_497 : decode cL_law 497 = .ok (.aload_n 0, 1) := by decide +kernel
theorem dL_law_498 : decode cL_law 498 = .ok (.iload_n 3, 1) := by decide +kernel
theorem dL_law_499 : decode cL_law 499 = .ok (.iconst 1, 1) := by decide +kernel
theorem dL_law_500 : decode cL_law 500 = .ok (.iadd, 1) := by decide +kernel
theorem dL_law_501 : decode cL_law 501 = .ok (.iaload, 1) := by decide +kernel
theorem dL_law_502 : decode cL_law 502 = .ok (.aload_n 0, 1) := by decide +kernel
theorem dL_law_503 : decode cL_law 503 = .ok (.iload_n 3, 1) := by decide +kernel
theorem dL_law_504 : decode cL_law 504 = .ok (.iconst 2, 1) := by decide +kernel
theorem dL_law_505 : decode cL_law 505 = .ok (.iadd, 1) := by decide +kernel
theorem dL_law_506 : decode cL_law 506 = .ok (.iaload, 1) := by decide +kernel
theorem dL_law_507 : decode cL_law 507 = .ok (.invokevirtual 67, 3) := by decide +kernel
theorem dL_law_510 : decode cL_law 510 = .ok (.lcmp, 1) := by decide +kernel
theorem dL_law_511 : decode cL_law 511 = .ok (.ifCond .eq 677, 3) := by decide +kernel
theorem dL_law_514 : decode cL_law 514 = .ok (.iconst 0, 1) := by decide +kernel
theorem dL_law_515 : decode cL_law 515 = .ok (.ireturn, 1) := by decide +kernel
theorem dL_law_516 : decode cL_law 516 = .ok (.aload_n 1, 1) := by decide +kernel
theorem dL_law_517 : decode cL_law 517 = .ok (.aload_n 0, 1) := by decide +kernel
theorem dL_law_518 : decode cL_law 518 = .ok (.iload_n 3, 1) := by decide +kernel
theorem dL_law_519 : decode cL_law 519 = .ok (.iconst 1, 1) := by decide +kernel
theorem dL_law_520 : decode cL_law 520 = .ok (.iadd, 1) := by decide +kernel
theorem dL_law_521 : decode cL_law 521 = .ok (.iaload, 1) := by decide +kernel
theorem dL_law_522 : decode cL_law 522 = .ok (.aload_n 0, 1) := by decide +kernel
theorem dL_law_523 : decode cL_law 523 = .ok (.iload_n 3, 1) := by decide +kernel
theorem dL_law_524 : decode cL_law 524 = .ok (.iconst 2, 1) := by decide +kernel
theorem dL_law_525 : decode cL_law 525 = .ok (.iadd, 1) := by decide +kernel
theorem dL_law_526 : decode cL_law 526 = .ok (.iaload, 1) := by decide +kernel
theorem dL_law_527 : decode cL_law 527 = .ok (.i2l, 1) := by decide +kernel
theorem dL_law_528 : decode cL_law 528 = .ok (.bipush 32, 2) := by decide +kernel
theorem dL_law_530 : decode cL_law 530 = .ok (.lshl, 1) := by decide +kernel
theorem dL_law_531 : decode cL_law 531 = .ok (.aload_n 0, 1) := by decide +kernel
theorem dL_law_532 : decode cL_law 532 = .ok (.iload_n 3, 1) := by decide +kernel
theorem dL_law_533 : decode cL_law 533 = .ok (.iconst 3, 1) := by decide +kernel
theorem dL_law_534 : decode cL_law 534 = .ok (.iadd, 1) := by decide +kernel
theorem dL_law_535 : decode cL_law 535 = .ok (.iaload, 1) := by decide +kernel
theorem dL_law_536 : decode cL_law 536 = .ok (.i2l, 1) := by decide +kernel
theorem dL_law_537 : decode cL_law 537 = .ok (.ldc2_w 68, 3) := by decide +kernel
theorem dL_law_540 : decode cL_law 540 = .ok (.land, 1) := by decide +kernel
theorem dL_law_541 : decode cL_law 541 = .ok (.lor, 1) := by decide +kernel
theorem dL_law_542 : decode cL_law 542 = .ok (.invokevirtual 70, 3) := by decide +kernel
theorem dL_law_545 : decode cL_law 545 = .ok (.aload_n 2, 1) := by decide +kernel
theorem dL_law_546 : decode cL_law 546 = .ok (.aload_n 0, 1) := by decide +kernel
theorem dL_law_547 : decode cL_law 547 = .ok (.iload_n 3, 1) := by decide +kernel
theorem dL_law_548 : decode cL_law 548 = .ok (.iconst 1, 1) := by decide +kernel
theorem dL_law_549 : decode cL_law 549 = .ok (.iadd, 1) := by decide +kernel
theorem dL_law_550 : decode cL_law 550 = .ok (.iaload, 1) := by decide +kernel
theorem dL_law_551 : decode cL_law 551 = .ok (.aload_n 0, 1) := by decide +kernel
theorem dL_law_552 : decode cL_law 552 = .ok (.iload_n 3, 1) := by decide +kernel
theorem dL_law_553 : decode cL_law 553 = .ok (.iconst 2, 1) := by decide +kernel
theorem dL_law_554 : decode cL_law 554 = .ok (.iadd, 1) := by decide +kernel
theorem dL_law_555 : decode cL_law 555 = .ok (.iaload, 1) := by decide +kernel
theorem dL_law_556 : decode cL_law 556 = .ok (.i2l, 1) := by decide +kernel
theorem dL_law_557 : decode cL_law 557 = .ok (.bipush 32, 2) := by decide +kernel
theorem dL_law_559 : decode cL_law 559 = .ok (.lshl, 1) := by decide +kernel
theorem dL_law_560 : decode cL_law 560 = .ok (.aload_n 0, 1) := by decide +kernel
theorem dL_law_561 : decode cL_law 561 = .ok (.iload_n 3, 1) := by decide +kernel
theorem dL_law_562 : decode cL_law 562 = .ok (.iconst 3, 1) := by decide +kernel
theorem dL_law_563 : decode cL_law 563 = .ok (.iadd, 1) := by decide +kernel
theorem dL_law_564 : decode cL_law 564 = .ok (.iaload, 1) := by decide +kernel
theorem dL_law_565 : decode cL_law 565 = .ok (.i2l, 1) := by decide +kernel
theorem dL_law_566 : decode cL_law 566 = .ok (.ldc2_w 68, 3) := by decide +kernel
theorem dL_law_569 : decode cL_law 569 = .ok (.land, 1) := by decide +kernel
theorem dL_law_570 : decode cL_law 570 = .ok (.lor, 1) := by decide +kernel
theorem dL_law_571 : decode cL_law 571 = .ok (.invokevirtual 74, 3) := by decide +kernel
theorem dL_law_574 : decode cL_law 574 = .ok (.lcmp, 1) := by decide +kernel
theorem dL_law_575 : decode cL_law 575 = .ok (.ifCond .eq 613, 3) := by decide +kernel
theorem dL_law_578 : decode cL_law 578 = .ok (.iconst 0, 1) := by decide +kernel
theorem dL_law_579 : decode cL_law 579 = .ok (.ireturn, 1) := by decide +kernel
theorem dL_law_580 : decode cL_law 580 = .ok (.aload_n 1, 1) := by decide +kernel
theorem dL_law_581 : decode cL_law 581 = .ok (.aload_n 0, 1) := by decide +kernel
theorem dL_law_582 : decode cL_law 582 = .ok (.iload_n 3, 1) := by decide +kernel
theorem dL_law_583 : decode cL_law 583 = .ok (.iconst 1, 1) := by decide +kernel
theorem dL_law_584 : decode cL_law 584 = .ok (.iadd, 1) := by decide +kernel
theorem dL_law_585 : decode cL_law 585 = .ok (.iaload, 1) := by decide +kernel
theorem dL_law_586 : decode cL_law 586 = .ok (.aload_n 0, 1) := by decide +kernel
theorem dL_law_587 : decode cL_law 587 = .ok (.iload_n 3, 1) := by decide +kernel
theorem dL_law_588 : decode cL_law 588 = .ok (.iconst 2, 1) := by decide +kernel
theorem dL_law_589 : decode cL_law 589 = .ok (.iadd, 1) := by decide +kernel
theorem dL_law_590 : decode cL_law 590 = .ok (.iaload, 1) := by decide +kernel
theorem dL_law_591 : decode cL_law 591 = .ok (.i2l, 1) := by decide +kernel
theorem dL_law_592 : decode cL_law 592 = .ok (.bipush 32, 2) := by decide +kernel
theorem dL_law_594 : decode cL_law 594 = .ok (.lshl, 1) := by decide +kernel
theorem dL_law_595 : decode cL_law 595 = .ok (.aload_n 0, 1) := by decide +kernel
theorem dL_law_596 : decode cL_law 596 = .ok (.iload_n 3, 1) := by decide +kernel
theorem dL_law_597 : decode cL_law 597 = .ok (.iconst 3, 1) := by decide +kernel
theorem dL_law_598 : decode cL_law 598 = .ok (.iadd, 1) := by decide +kernel
theorem dL_law_599 : decode cL_law 599 = .ok (.iaload, 1) := by decide +kernel
theorem dL_law_600 : decode cL_law 600 = .ok (.i2l, 1) := by decide +kernel
theorem dL_law_601 : decode cL_law 601 = .ok (.ldc2_w 68, 3) := by decide +kernel
theorem dL_law_604 : decode cL_law 604 = .ok (.land, 1) := by decide +kernel
theorem dL_law_605 : decode cL_law 605 = .ok (.lor, 1) := by decide +kernel
theorem dL_law_606 : decode cL_law 606 = .ok (.aload_n 0, 1) := by decide +kernel
theorem dL_law_607 : decode cL_law 607 = .ok (.iload_n 3, 1) := by decide +kernel
theorem dL_law_608 : decode cL_law 608 = .ok (.iconst 4, 1) := by decide +kernel
theorem dL_law_609 : decode cL_law 609 = .ok (.iadd, 1) := by decide +kernel
theorem dL_law_610 : decode cL_law 610 = .ok (.iaload, 1) := by decide +kernel
theorem dL_law_611 : decode cL_law 611 = .ok (.i2l, 1) := by decide +kernel
theorem dL_law_612 : decode cL_law 612 = .ok (.bipush 32, 2) := by decide +kernel
theorem dL_law_614 : decode cL_law 614 = .ok (.lshl, 1) := by decide +kernel
theorem dL_law_615 : decode cL_law 615 = .ok (.aload_n 0, 1) := by decide +kernel
theorem dL_law_616 : decode cL_law 616 = .ok (.iload_n 3, 1) := by decide +kernel
theorem dL_law_617 : decode cL_law 617 = .ok (.iconst 5, 1) := by decide +kernel
theorem dL_law_618 : decode cL_law 618 = .ok (.iadd, 1) := by decide +kernel
theorem dL_law_619 : decode cL_law 619 = .ok (.iaload, 1) := by decide +kernel
theorem dL_law_620 : decode cL_law 620 = .ok (.i2l, 1) := by decide +kernel
theorem dL_law_621 : decode cL_law 621 = .ok (.ldc2_w 68, 3) := by decide +kernel
theorem dL_law_624 : decode cL_law 624 = .ok (.land, 1) := by decide +kernel
theorem dL_law_625 : decode cL_law 625 = .ok (.lor, 1) := by decide +kernel
theorem dL_law_626 : decode cL_law 626 = .ok (.aload_n 0, 1) := by decide +kernel
theorem dL_law_627 : decode cL_law 627 = .ok (.iload_n 3, 1) := by decide +kernel
theorem dL_law_628 : decode cL_law 628 = .ok (.bipush 6, 2) := by decide +kernel
theorem dL_law_630 : decode cL_law 630 = .ok (.iadd, 1) := by decide +kernel
theorem dL_law_631 : decode cL_law 631 = .ok (.iaload, 1) := by decide +kernel
theorem dL_law_632 : decode cL_law 632 = .ok (.i2l, 1) := by decide +kernel
theorem dL_law_633 : decode cL_law 633 = .ok (.bipush 32, 2) := by decide +kernel
theorem dL_law_635 : decode cL_law 635 = .ok (.lshl, 1) := by decide +kernel
theorem dL_law_636 : decode cL_law 636 = .ok (.aload_n 0, 1) := by decide +kernel
theorem dL_law_637 : decode cL_law 637 = .ok (.iload_n 3, 1) := by decide +kernel
theorem dL_law_638 : decode cL_law 638 = .ok (.bipush 7, 2) := by decide +kernel
theorem dL_law_640 : decode cL_law 640 = .ok (.iadd, 1) := by decide +kernel
theorem dL_law_641 : decode cL_law 641 = .ok (.iaload, 1) := by decide +kernel
theorem dL_law_642 : decode cL_law 642 = .ok (.i2l, 1) := by decide +kernel
theorem dL_law_643 : decode cL_law 643 = .ok (.ldc2_w 68, 3) := by decide +kernel
theorem dL_law_646 : decode cL_law 646 = .ok (.land, 1) := by decide +kernel
theorem dL_law_647 : decode cL_law 647 = .ok (.lor, 1) := by decide +kernel
theorem dL_law_648 : decode cL_law 648 = .ok (.invokevirtual 75, 3) := by decide +kernel
theorem dL_law_651 : decode cL_law 651 = .ok (.aload_n 2, 1) := by decide +kernel
theorem dL_law_652 : decode cL_law 652 = .ok (.aload_n 0, 1) := by decide +kernel
theorem dL_law_653 : decode cL_law 653 = .ok (.iload_n 3, 1) := by decide +kernel
theorem dL_law_654 : decode cL_law 654 = .ok (.iconst 1, 1) := by decide +kernel
theorem dL_law_655 : decode cL_law 655 = .ok (.iadd, 1) := by decide +kernel
theorem dL_law_656 : decode cL_law 656 = .ok (.iaload, 1) := by decide +kernel
theorem dL_law_657 : decode cL_law 657 = .ok (.aload_n 0, 1) := by decide +kernel
theorem dL_law_658 : decode cL_law 658 = .ok (.iload_n 3, 1) := by decide +kernel
theorem dL_law_659 : decode cL_law 659 = .ok (.iconst 2, 1) := by decide +kernel
theorem dL_law_660 : decode cL_law 660 = .ok (.iadd, 1) := by decide +kernel
theorem dL_law_661 : decode cL_law 661 = .ok (.iaload, 1) := by decide +kernel
theorem dL_law_662 : decode cL_law 662 = .ok (.i2l, 1) := by decide +kernel
theorem dL_law_663 : decode cL_law 663 = .ok (.bipush 32, 2) := by decide +kernel
theorem dL_law_665 : decode cL_law 665 = .ok (.lshl, 1) := by decide +kernel
theorem dL_law_666 : decode cL_law 666 = .ok (.aload_n 0, 1) := by decide +kernel
theorem dL_law_667 : decode cL_law 667 = .ok (.iload_n 3, 1) := by decide +kernel
theorem dL_law_668 : decode cL_law 668 = .ok (.iconst 3, 1) := by decide +kernel
theorem dL_law_669 : decode cL_law 669 = .ok (.iadd, 1) := by decide +kernel
theorem dL_law_670 : decode cL_law 670 = .ok (.iaload, 1) := by decide +kernel
theorem dL_law_671 : decode cL_law 671 = .ok (.i2l, 1) := by decide +kernel
theorem dL_law_672 : decode cL_law 672 = .ok (.ldc2_w 68, 3) := by decide +kernel
theorem dL_law_675 : decode cL_law 675 = .ok (.land, 1) := by decide +kernel
theorem dL_law_676 : decode cL_law 676 = .ok (.lor, 1) := by decide +kernel
theorem dL_law_677 : decode cL_law 677 = .ok (.aload_n 0, 1) := by decide +kernel
theorem dL_law_678 : decode cL_law 678 = .ok (.iload_n 3, 1) := by decide +kernel
theorem dL_law_679 : decode cL_law 679 = .ok (.iconst 4, 1) := by decide +kernel
theorem dL_law_680 : decode cL_law 680 = .ok (.iadd, 1) := by decide +kernel
theorem dL_law_681 : decode cL_law 681 = .ok (.iaload, 1) := by decide +kernel
theorem dL_law_682 : decode cL_law 682 = .ok (.i2l, 1) := by decide +kernel
theorem dL_law_683 : decode cL_law 683 = .ok (.bipush 32, 2) := by decide +kernel
theorem dL_law_685 : decode cL_law 685 = .ok (.lshl, 1) := by decide +kernel
theorem dL_law_686 : decode cL_law 686 = .ok (.aload_n 0, 1) := by decide +kernel
theorem dL_law_687 : decode cL_law 687 = .ok (.iload_n 3, 1) := by decide +kernel
theorem dL_law_688 : decode cL_law 688 = .ok (.iconst 5, 1) := by decide +kernel
theorem dL_law_689 : decode cL_law 689 = .ok (.iadd, 1) := by decide +kernel
theorem dL_law_690 : decode cL_law 690 = .ok (.iaload, 1) := by decide +kernel
theorem dL_law_691 : decode cL_law 691 = .ok (.i2l, 1) := by decide +kernel
theorem dL_law_692 : decode cL_law 692 = .ok (.ldc2_w 68, 3) := by decide +kernel
theorem dL_law_695 : decode cL_law 695 = .ok (.land, 1) := by decide +kernel
theorem dL_law_696 : decode cL_law 696 = .ok (.lor, 1) := by decide +kernel
theorem dL_law_697 : decode cL_law 697 = .ok (.aload_n 0, 1) := by decide +kernel
theorem dL_law_698 : decode cL_law 698 = .ok (.iload_n 3, 1) := by decide +kernel
theorem dL_law_699 : decode cL_law 699 = .ok (.bipush 6, 2) := by decide +kernel
theorem dL_law_701 : decode cL_law 701 = .ok (.iadd, 1) := by decide +kernel
theorem dL_law_702 : decode cL_law 702 = .ok (.iaload, 1) := by decide +kernel
theorem dL_law_703 : decode cL_law 703 = .ok (.i2l, 1) := by decide +kernel
theorem dL_law_704 : decode cL_law 704 = .ok (.bipush 32, 2) := by decide +kernel
theorem dL_law_706 : decode cL_law 706 = .ok (.lshl, 1) := by decide +kernel
theorem dL_law_707 : decode cL_law 707 = .ok (.aload_n 0, 1) := by decide +kernel
theorem dL_law_708 : decode cL_law 708 = .ok (.iload_n 3, 1) := by decide +kernel
theorem dL_law_709 : decode cL_law 709 = .ok (.bipush 7, 2) := by decide +kernel
theorem dL_law_711 : decode cL_law 711 = .ok (.iadd, 1) := by decide +kernel
theorem dL_law_712 : decode cL_law 712 = .ok (.iaload, 1) := by decide +kernel
theorem dL_law_713 : decode cL_law 713 = .ok (.i2l, 1) := by decide +kernel
theorem dL_law_714 : decode cL_law 714 = .ok (.ldc2_w 68, 3) := by decide +kernel
theorem dL_law_717 : decode cL_law 717 = .ok (.land, 1) := by decide +kernel
theorem dL_law_718 : decode cL_law 718 = .ok (.lor, 1) := by decide +kernel
theorem dL_law_719 : decode cL_law 719 = .ok (.invokevirtual 79, 3) := by decide +kernel
theorem dL_law_722 : decode cL_law 722 = .ok (.lcmp, 1) := by decide +kernel
theorem dL_law_723 : decode cL_law 723 = .ok (.ifCond .eq 465, 3) := by decide +kernel
theorem dL_law_726 : decode cL_law 726 = .ok (.iconst 0, 1) := by decide +kernel
theorem dL_law_727 : decode cL_law 727 = .ok (.ireturn, 1) := by decide +kernel
theorem dL_law_728 : decode cL_law 728 = .ok (.aload_n 1, 1) := by decide +kernel
theorem dL_law_729 : decode cL_law 729 = .ok (.aload_n 0, 1) := by decide +kernel
theorem dL_law_730 : decode cL_law 730 = .ok (.iload_n 3, 1) := by decide +kernel
theorem dL_law_731 : decode cL_law 731 = .ok (.iconst 1, 1) := by decide +kernel
theorem dL_law_732 : decode cL_law 732 = .ok (.iadd, 1) := by decide +kernel
theorem dL_law_733 : decode cL_law 733 = .ok (.iaload, 1) := by decide +kernel
theorem dL_law_734 : decode cL_law 734 = .ok (.aload_n 0, 1) := by decide +kernel
theorem dL_law_735 : decode cL_law 735 = .ok (.iload_n 3, 1) := by decide +kernel
theorem dL_law_736 : decode cL_law 736 = .ok (.iconst 2, 1) := by decide +kernel
theorem dL_law_737 : decode cL_law 737 = .ok (.iadd, 1) := by decide +kernel
theorem dL_law_738 : decode cL_law 738 = .ok (.iaload, 1) := by decide +kernel
theorem dL_law_739 : decode cL_law 739 = .ok (.i2l, 1) := by decide +kernel
theorem dL_law_740 : decode cL_law 740 = .ok (.bipush 32, 2) := by decide +kernel
theorem dL_law_742 : decode cL_law 742 = .ok (.lshl, 1) := by decide +kernel
theorem dL_law_743 : decode cL_law 743 = .ok (.aload_n 0, 1) := by decide +kernel
theorem dL_law_744 : decode cL_law 744 = .ok (.iload_n 3, 1) := by decide +kernel
theorem dL_law_745 : decode cL_law 745 = .ok (.iconst 3, 1) := by decide +kernel
theorem dL_law_746 : decode cL_law 746 = .ok (.iadd, 1) := by decide +kernel
theorem dL_law_747 : decode cL_law 747 = .ok (.iaload, 1) := by decide +kernel
theorem dL_law_748 : decode cL_law 748 = .ok (.i2l, 1) := by decide +kernel
theorem dL_law_749 : decode cL_law 749 = .ok (.ldc2_w 68, 3) := by decide +kernel
theorem dL_law_752 : decode cL_law 752 = .ok (.land, 1) := by decide +kernel
theorem dL_law_753 : decode cL_law 753 = .ok (.lor, 1) := by decide +kernel
theorem dL_law_754 : decode cL_law 754 = .ok (.invokevirtual 80, 3) := by decide +kernel
theorem dL_law_757 : decode cL_law 757 = .ok (.aload_n 2, 1) := by decide +kernel
theorem dL_law_758 : decode cL_law 758 = .ok (.aload_n 0, 1) := by decide +kernel
theorem dL_law_759 : decode cL_law 759 = .ok (.iload_n 3, 1) := by decide +kernel
theorem dL_law_760 : decode cL_law 760 = .ok (.iconst 1, 1) := by decide +kernel
theorem dL_law_761 : decode cL_law 761 = .ok (.iadd, 1) := by decide +kernel
theorem dL_law_762 : decode cL_law 762 = .ok (.iaload, 1) := by decide +kernel
theorem dL_law_763 : decode cL_law 763 = .ok (.aload_n 0, 1) := by decide +kernel
theorem dL_law_764 : decode cL_law 764 = .ok (.iload_n 3, 1) := by decide +kernel
theorem dL_law_765 : decode cL_law 765 = .ok (.iconst 2, 1) := by decide +kernel
theorem dL_law_766 : decode cL_law 766 = .ok (.iadd, 1) := by decide +kernel
theorem dL_law_767 : decode cL_law 767 = .ok (.iaload, 1) := by decide +kernel
theorem dL_law_768 : decode cL_law 768 = .ok (.i2l, 1) := by decide +kernel
theorem dL_law_769 : decode cL_law 769 = .ok (.bipush 32, 2) := by decide +kernel
theorem dL_law_771 : decode cL_law 771 = .ok (.lshl, 1) := by decide +kernel
theorem dL_law_772 : decode cL_law 772 = .ok (.aload_n 0, 1) := by decide +kernel
theorem dL_law_773 : decode cL_law 773 = .ok (.iload_n 3, 1) := by decide +kernel
theorem dL_law_774 : decode cL_law 774 = .ok (.iconst 3, 1) := by decide +kernel
theorem dL_law_775 : decode cL_law 775 = .ok (.iadd, 1) := by decide +kernel
theorem dL_law_776 : decode cL_law 776 = .ok (.iaload, 1) := by decide +kernel
theorem dL_law_777 : decode cL_law 777 = .ok (.i2l, 1) := by decide +kernel
theorem dL_law_778 : decode cL_law 778 = .ok (.ldc2_w 68, 3) := by decide +kernel
theorem dL_law_781 : decode cL_law 781 = .ok (.land, 1) := by decide +kernel
theorem dL_law_782 : decode cL_law 782 = .ok (.lor, 1) := by decide +kernel
theorem dL_law_783 : decode cL_law 783 = .ok (.invokevirtual 83, 3) := by decide +kernel
theorem dL_law_786 : decode cL_law 786 = .ok (.lcmp, 1) := by decide +kernel
theorem dL_law_787 : decode cL_law 787 = .ok (.ifCond .eq 401, 3) := by decide +kernel
theorem dL_law_790 : decode cL_law 790 = .ok (.iconst 0, 1) := by decide +kernel
theorem dL_law_791 : decode cL_law 791 = .ok (.ireturn, 1) := by decide +kernel
theorem dL_law_792 : decode cL_law 792 = .ok (.aload_n 1, 1) := by decide +kernel
theorem dL_law_793 : decode cL_law 793 = .ok (.aload_n 0, 1) := by decide +kernel
theorem dL_law_794 : decode cL_law 794 = .ok (.iload_n 3, 1) := by decide +kernel
theorem dL_law_795 : decode cL_law 795 = .ok (.iconst 1, 1) := by decide +kernel
theorem dL_law_796 : decode cL_law 796 = .ok (.iadd, 1) := by decide +kernel
theorem dL_law_797 : decode cL_law 797 = .ok (.iaload, 1) := by decide +kernel
theorem dL_law_798 : decode cL_law 798 = .ok (.aload_n 0, 1) := by decide +kernel
theorem dL_law_799 : decode cL_law 799 = .ok (.iload_n 3, 1) := by decide +kernel
theorem dL_law_800 : decode cL_law 800 = .ok (.iconst 2, 1) := by decide +kernel
theorem dL_law_801 : decode cL_law 801 = .ok (.iadd, 1) := by decide +kernel
theorem dL_law_802 : decode cL_law 802 = .ok (.iaload, 1) := by decide +kernel
theorem dL_law_803 : decode cL_law 803 = .ok (.aload_n 0, 1) := by decide +kernel
theorem dL_law_804 : decode cL_law 804 = .ok (.iload_n 3, 1) := by decide +kernel
theorem dL_law_805 : decode cL_law 805 = .ok (.iconst 3, 1) := by decide +kernel
theorem dL_law_806 : decode cL_law 806 = .ok (.iadd, 1) := by decide +kernel
theorem dL_law_807 : decode cL_law 807 = .ok (.iaload, 1) := by decide +kernel
theorem dL_law_808 : decode cL_law 808 = .ok (.invokevirtual 84, 3) := by decide +kernel
theorem dL_law_811 : decode cL_law 811 = .ok (.aload_n 2, 1) := by decide +kernel
theorem dL_law_812 : decode cL_law 812 = .ok (.aload_n 0, 1) := by decide +kernel
theorem dL_law_813 : decode cL_law 813 = .ok (.iload_n 3, 1) := by decide +kernel
theorem dL_law_814 : decode cL_law 814 = .ok (.iconst 1, 1) := by decide +kernel
theorem dL_law_815 : decode cL_law 815 = .ok (.iadd, 1) := by decide +kernel
theorem dL_law_816 : decode cL_law 816 = .ok (.iaload, 1) := by decide +kernel
theorem dL_law_817 : decode cL_law 817 = .ok (.aload_n 0, 1) := by decide +kernel
theorem dL_law_818 : decode cL_law 818 = .ok (.iload_n 3, 1) := by decide +kernel
theorem dL_law_819 : decode cL_law 819 = .ok (.iconst 2, 1) := by decide +kernel
theorem dL_law_820 : decode cL_law 820 = .ok (.iadd, 1) := by decide +kernel
theorem dL_law_821 : decode cL_law 821 = .ok (.iaload, 1) := by decide +kernel
theorem dL_law_822 : decode cL_law 822 = .ok (.aload_n 0, 1) := by decide +kernel
theorem dL_law_823 : decode cL_law 823 = .ok (.iload_n 3, 1) := by decide +kernel
theorem dL_law_824 : decode cL_law 824 = .ok (.iconst 3, 1) := by decide +kernel
theorem dL_law_825 : decode cL_law 825 = .ok (.iadd, 1) := by decide +kernel
theorem dL_law_826 : decode cL_law 826 = .ok (.iaload, 1) := by decide +kernel
theorem dL_law_827 : decode cL_law 827 = .ok (.invokevirtual 88, 3) := by decide +kernel
theorem dL_law_830 : decode cL_law 830 = .ok (.if_icmp .eq 358, 3) := by decide +kernel
theorem dL_law_833 : decode cL_law 833 = .ok (.iconst 0, 1) := by decide +kernel
theorem dL_law_834 : decode cL_law 834 = .ok (.ireturn, 1) := by decide +kernel
theorem dL_law_835 : decode cL_law 835 = .ok (.aload_n 1, 1) := by decide +kernel
theorem dL_law_836 : decode cL_law 836 = .ok (.aload_n 0, 1) := by decide +kernel
theorem dL_law_837 : decode cL_law 837 = .ok (.iload_n 3, 1) := by decide +kernel
theorem dL_law_838 : decode cL_law 838 = .ok (.iconst 1, 1) := by decide +kernel
theorem dL_law_839 : decode cL_law 839 = .ok (.iadd, 1) := by decide +kernel
theorem dL_law_840 : decode cL_law 840 = .ok (.iaload, 1) := by decide +kernel
theorem dL_law_841 : decode cL_law 841 = .ok (.aload_n 0, 1) := by decide +kernel
theorem dL_law_842 : decode cL_law 842 = .ok (.iload_n 3, 1) := by decide +kernel
theorem dL_law_843 : decode cL_law 843 = .ok (.iconst 2, 1) := by decide +kernel
theorem dL_law_844 : decode cL_law 844 = .ok (.iadd, 1) := by decide +kernel
theorem dL_law_845 : decode cL_law 845 = .ok (.iaload, 1) := by decide +kernel
theorem dL_law_846 : decode cL_law 846 = .ok (.invokevirtual 89, 3) := by decide +kernel
theorem dL_law_849 : decode cL_law 849 = .ok (.aload_n 2, 1) := by decide +kernel
theorem dL_law_850 : decode cL_law 850 = .ok (.aload_n 0, 1) := by decide +kernel
theorem dL_law_851 : decode cL_law 851 = .ok (.iload_n 3, 1) := by decide +kernel
theorem dL_law_852 : decode cL_law 852 = .ok (.iconst 1, 1) := by decide +kernel
theorem dL_law_853 : decode cL_law 853 = .ok (.iadd, 1) := by decide +kernel
theorem dL_law_854 : decode cL_law 854 = .ok (.iaload, 1) := by decide +kernel
theorem dL_law_855 : decode cL_law 855 = .ok (.aload_n 0, 1) := by decide +kernel
theorem dL_law_856 : decode cL_law 856 = .ok (.iload_n 3, 1) := by decide +kernel
theorem dL_law_857 : decode cL_law 857 = .ok (.iconst 2, 1) := by decide +kernel
theorem dL_law_858 : decode cL_law 858 = .ok (.iadd, 1) := by decide +kernel
theorem dL_law_859 : decode cL_law 859 = .ok (.iaload, 1) := by decide +kernel
theorem dL_law_860 : decode cL_law 860 = .ok (.invokevirtual 92, 3) := by decide +kernel
theorem dL_law_863 : decode cL_law 863 = .ok (.if_icmp .eq 325, 3) := by decide +kernel
theorem dL_law_866 : decode cL_law 866 = .ok (.iconst 0, 1) := by decide +kernel
theorem dL_law_867 : decode cL_law 867 = .ok (.ireturn, 1) := by decide +kernel
theorem dL_law_868 : decode cL_law 868 = .ok (.aload_n 1, 1) := by decide +kernel
theorem dL_law_869 : decode cL_law 869 = .ok (.aload_n 0, 1) := by decide +kernel
theorem dL_law_870 : decode cL_law 870 = .ok (.iload_n 3, 1) := by decide +kernel
theorem dL_law_871 : decode cL_law 871 = .ok (.iconst 1, 1) := by decide +kernel
theorem dL_law_872 : decode cL_law 872 = .ok (.iadd, 1) := by decide +kernel
theorem dL_law_873 : decode cL_law 873 = .ok (.iaload, 1) := by decide +kernel
theorem dL_law_874 : decode cL_law 874 = .ok (.aload_n 0, 1) := by decide +kernel
theorem dL_law_875 : decode cL_law 875 = .ok (.iload_n 3, 1) := by decide +kernel
theorem dL_law_876 : decode cL_law 876 = .ok (.iconst 2, 1) := by decide +kernel
theorem dL_law_877 : decode cL_law 877 = .ok (.iadd, 1) := by decide +kernel
theorem dL_law_878 : decode cL_law 878 = .ok (.iaload, 1) := by decide +kernel
theorem dL_law_879 : decode cL_law 879 = .ok (.aload_n 0, 1) := by decide +kernel
theorem dL_law_880 : decode cL_law 880 = .ok (.iload_n 3, 1) := by decide +kernel
theorem dL_law_881 : decode cL_law 881 = .ok (.iconst 3, 1) := by decide +kernel
theorem dL_law_882 : decode cL_law 882 = .ok (.iadd, 1) := by decide +kernel
theorem dL_law_883 : decode cL_law 883 = .ok (.iaload, 1) := by decide +kernel
theorem dL_law_884 : decode cL_law 884 = .ok (.invokevirtual 93, 3) := by decide +kernel
theorem dL_law_887 : decode cL_law 887 = .ok (.aload_n 2, 1) := by decide +kernel
theorem dL_law_888 : decode cL_law 888 = .ok (.aload_n 0, 1) := by decide +kernel
theorem dL_law_889 : decode cL_law 889 = .ok (.iload_n 3, 1) := by decide +kernel
theorem dL_law_890 : decode cL_law 890 = .ok (.iconst 1, 1) := by decide +kernel
theorem dL_law_891 : decode cL_law 891 = .ok (.iadd, 1) := by decide +kernel
theorem dL_law_892 : decode cL_law 892 = .ok (.iaload, 1) := by decide +kernel
theorem dL_law_893 : decode cL_law 893 = .ok (.aload_n 0, 1) := by decide +kernel
theorem dL_law_894 : decode cL_law 894 = .ok (.iload_n 3, 1) := by decide +kernel
theorem dL_law_895 : decode cL_law 895 = .ok (.iconst 2, 1) := by decide +kernel
theorem dL_law_896 : decode cL_law 896 = .ok (.iadd, 1) := by decide +kernel
theorem dL_law_897 : decode cL_law 897 = .ok (.iaload, 1) := by decide +kernel
theorem dL_law_898 : decode cL_law 898 = .ok (.aload_n 0, 1) := by decide +kernel
theorem dL_law_899 : decode cL_law 899 = .ok (.iload_n 3, 1) := by decide +kernel
theorem dL_law_900 : decode cL_law 900 = .ok (.iconst 3, 1) := by decide +kernel
theorem dL_law_901 : decode cL_law 901 = .ok (.iadd, 1) := by decide +kernel
theorem dL_law_902 : decode cL_law 902 = .ok (.iaload, 1) := by decide +kernel
theorem dL_law_903 : decode cL_law 903 = .ok (.invokevirtual 96, 3) := by decide +kernel
theorem dL_law_906 : decode cL_law 906 = .ok (.if_icmp .eq 282, 3) := by decide +kernel
theorem dL_law_909 : decode cL_law 909 = .ok (.iconst 0, 1) := by decide +kernel
theorem dL_law_910 : decode cL_law 910 = .ok (.ireturn, 1) := by decide +kernel
theorem dL_law_911 : decode cL_law 911 = .ok (.aload_n 1, 1) := by decide +kernel
theorem dL_law_912 : decode cL_law 912 = .ok (.aload_n 0, 1) := by decide +kernel
theorem dL_law_913 : decode cL_law 913 = .ok (.iload_n 3, 1) := by decide +kernel
theorem dL_law_914 : decode cL_law 914 = .ok (.iconst 1, 1) := by decide +kernel
theorem dL_law_915 : decode cL_law 915 = .ok (.iadd, 1) := by decide +kernel
theorem dL_law_916 : decode cL_law 916 = .ok (.iaload, 1) := by decide +kernel
theorem dL_law_917 : decode cL_law 917 = .ok (.invokevirtual 97, 3) := by decide +kernel
theorem dL_law_920 : decode cL_law 920 = .ok (.aload_n 2, 1) := by decide +kernel
theorem dL_law_921 : decode cL_law 921 = .ok (.aload_n 0, 1) := by decide +kernel
theorem dL_law_922 : decode cL_law 922 = .ok (.iload_n 3, 1) := by decide +kernel
theorem dL_law_923 : decode cL_law 923 = .ok (.iconst 1, 1) := by decide +kernel
theorem dL_law_924 : decode cL_law 924 = .ok (.iadd, 1) := by decide +kernel
theorem dL_law_925 : decode cL_law 925 = .ok (.iaload, 1) := by decide +kernel
theorem dL_law_926 : decode cL_law 926 = .ok (.invokevirtual 100, 3) := by decide +kernel
theorem dL_law_929 : decode cL_law 929 = .ok (.if_icmp .eq 259, 3) := by decide +kernel
theorem dL_law_932 : decode cL_law 932 = .ok (.iconst 0, 1) := by decide +kernel
theorem dL_law_933 : decode cL_law 933 = .ok (.ireturn, 1) := by decide +kernel
theorem dL_law_934 : decode cL_law 934 = .ok (.aload_n 1, 1) := by decide +kernel
theorem dL_law_935 : decode cL_law 935 = .ok (.aload_n 0, 1) := by decide +kernel
theorem dL_law_936 : decode cL_law 936 = .ok (.iload_n 3, 1) := by decide +kernel
theorem dL_law_937 : decode cL_law 937 = .ok (.iconst 1, 1) := by decide +kernel
theorem dL_law_938 : decode cL_law 938 = .ok (.iadd, 1) := by decide +kernel
theorem dL_law_939 : decode cL_law 939 = .ok (.iaload, 1) := by decide +kernel
theorem dL_law_940 : decode cL_law 940 = .ok (.aload_n 0, 1) := by decide +kernel
theorem dL_law_941 : decode cL_law 941 = .ok (.iload_n 3, 1) := by decide +kernel
theorem dL_law_942 : decode cL_law 942 = .ok (.iconst 2, 1) := by decide +kernel
theorem dL_law_943 : decode cL_law 943 = .ok (.iadd, 1) := by decide +kernel
theorem dL_law_944 : decode cL_law 944 = .ok (.iaload, 1) := by decide +kernel
theorem dL_law_945 : decode cL_law 945 = .ok (.aload_n 0, 1) := by decide +kernel
theorem dL_law_946 : decode cL_law 946 = .ok (.iload_n 3, 1) := by decide +kernel
theorem dL_law_947 : decode cL_law 947 = .ok (.iconst 3, 1) := by decide +kernel
theorem dL_law_948 : decode cL_law 948 = .ok (.iadd, 1) := by decide +kernel
theorem dL_law_949 : decode cL_law 949 = .ok (.iaload, 1) := by decide +kernel
theorem dL_law_950 : decode cL_law 950 = .ok (.invokevirtual 101, 3) := by decide +kernel
theorem dL_law_953 : decode cL_law 953 = .ok (.aload_n 2, 1) := by decide +kernel
theorem dL_law_954 : decode cL_law 954 = .ok (.aload_n 0, 1) := by decide +kernel
theorem dL_law_955 : decode cL_law 955 = .ok (.iload_n 3, 1) := by decide +kernel
theorem dL_law_956 : decode cL_law 956 = .ok (.iconst 1, 1) := by decide +kernel
theorem dL_law_957 : decode cL_law 957 = .ok (.iadd, 1) := by decide +kernel
theorem dL_law_958 : decode cL_law 958 = .ok (.iaload, 1) := by decide +kernel
theorem dL_law_959 : decode cL_law 959 = .ok (.aload_n 0, 1) := by decide +kernel
theorem dL_law_960 : decode cL_law 960 = .ok (.iload_n 3, 1) := by decide +kernel
theorem dL_law_961 : decode cL_law 961 = .ok (.iconst 2, 1) := by decide +kernel
theorem dL_law_962 : decode cL_law 962 = .ok (.iadd, 1) := by decide +kernel
theorem dL_law_963 : decode cL_law 963 = .ok (.iaload, 1) := by decide +kernel
theorem dL_law_964 : decode cL_law 964 = .ok (.aload_n 0, 1) := by decide +kernel
theorem dL_law_965 : decode cL_law 965 = .ok (.iload_n 3, 1) := by decide +kernel
theorem dL_law_966 : decode cL_law 966 = .ok (.iconst 3, 1) := by decide +kernel
theorem dL_law_967 : decode cL_law 967 = .ok (.iadd, 1) := by decide +kernel
theorem dL_law_968 : decode cL_law 968 = .ok (.iaload, 1) := by decide +kernel
theorem dL_law_969 : decode cL_law 969 = .ok (.invokevirtual 104, 3) := by decide +kernel
theorem dL_law_972 : decode cL_law 972 = .ok (.if_icmp .eq 216, 3) := by decide +kernel
theorem dL_law_975 : decode cL_law 975 = .ok (.iconst 0, 1) := by decide +kernel
theorem dL_law_976 : decode cL_law 976 = .ok (.ireturn, 1) := by decide +kernel
theorem dL_law_977 : decode cL_law 977 = .ok (.aload_n 1, 1) := by decide +kernel
theorem dL_law_978 : decode cL_law 978 = .ok (.aload_n 0, 1) := by decide +kernel
theorem dL_law_979 : decode cL_law 979 = .ok (.iload_n 3, 1) := by decide +kernel
theorem dL_law_980 : decode cL_law 980 = .ok (.iconst 1, 1) := by decide +kernel
theorem dL_law_981 : decode cL_law 981 = .ok (.iadd, 1) := by decide +kernel
theorem dL_law_982 : decode cL_law 982 = .ok (.iaload, 1) := by decide +kernel
theorem dL_law_983 : decode cL_law 983 = .ok (.aload_n 0, 1) := by decide +kernel
theorem dL_law_984 : decode cL_law 984 = .ok (.iload_n 3, 1) := by decide +kernel
theorem dL_law_985 : decode cL_law 985 = .ok (.iconst 2, 1) := by decide +kernel
theorem dL_law_986 : decode cL_law 986 = .ok (.iadd, 1) := by decide +kernel
theorem dL_law_987 : decode cL_law 987 = .ok (.iaload, 1) := by decide +kernel
theorem dL_law_988 : decode cL_law 988 = .ok (.invokevirtual 105, 3) := by decide +kernel
theorem dL_law_991 : decode cL_law 991 = .ok (.aload_n 2, 1) := by decide +kernel
theorem dL_law_992 : decode cL_law 992 = .ok (.aload_n 0, 1) := by decide +kernel
theorem dL_law_993 : decode cL_law 993 = .ok (.iload_n 3, 1) := by decide +kernel
theorem dL_law_994 : decode cL_law 994 = .ok (.iconst 1, 1) := by decide +kernel
theorem dL_law_995 : decode cL_law 995 = .ok (.iadd, 1) := by decide +kernel
theorem dL_law_996 : decode cL_law 996 = .ok (.iaload, 1) := by decide +kernel
theorem dL_law_997 : decode cL_law 997 = .ok (.aload_n 0, 1) := by decide +kernel
theorem dL_law_998 : decode cL_law 998 = .ok (.iload_n 3, 1) := by decide +kernel
theorem dL_law_999 : decode cL_law 999 = .ok (.iconst 2, 1) := by decide +kernel
theorem dL_law_1000 : decode cL_law 1000 = .ok (.iadd, 1) := by decide +kernel
theorem dL_law_1001 : decode cL_law 1001 = .ok (.iaload, 1) := by decide +kernel
theorem dL_law_1002 : decode cL_law 1002 = .ok (.invokevirtual 109, 3) := by decide +kernel
theorem dL_law_1005 : decode cL_law 1005 = .ok (.if_icmp .eq 183, 3) := by decide +kernel
theorem dL_law_1008 : decode cL_law 1008 = .ok (.iconst 0, 1) := by decide +kernel
theorem dL_law_1009 : decode cL_law 1009 = .ok (.ireturn, 1) := by decide +kernel
theorem dL_law_1010 : decode cL_law 1010 = .ok (.aload_n 1, 1) := by decide +kernel
theorem dL_law_1011 : decode cL_law 1011 = .ok (.aload_n 0, 1) := by decide +kernel
theorem dL_law_1012 : decode cL_law 1012 = .ok (.iload_n 3, 1) := by decide +kernel
theorem dL_law_1013 : decode cL_law 1013 = .ok (.iconst 1, 1) := by decide +kernel
theorem dL_law_1014 : decode cL_law 1014 = .ok (.iadd, 1) := by decide +kernel
theorem dL_law_1015 : decode cL_law 1015 = .ok (.iaload, 1) := by decide +kernel
theorem dL_law_1016 : decode cL_law 1016 = .ok (.aload_n 0, 1) := by decide +kernel
theorem dL_law_1017 : decode cL_law 1017 = .ok (.iload_n 3, 1) := by decide +kernel
theorem dL_law_1018 : decode cL_law 1018 = .ok (.iconst 2, 1) := by decide +kernel
theorem dL_law_1019 : decode cL_law 1019 = .ok (.iadd, 1) := by decide +kernel
theorem dL_law_1020 : decode cL_law 1020 = .ok (.iaload, 1) := by decide +kernel
theorem dL_law_1021 : decode cL_law 1021 = .ok (.aload_n 0, 1) := by decide +kernel
theorem dL_law_1022 : decode cL_law 1022 = .ok (.iload_n 3, 1) := by decide +kernel
theorem dL_law_1023 : decode cL_law 1023 = .ok (.iconst 3, 1) := by decide +kernel
theorem dL_law_1024 : decode cL_law 1024 = .ok (.iadd, 1) := by decide +kernel
theorem dL_law_1025 : decode cL_law 1025 = .ok (.iaload, 1) := by decide +kernel
theorem dL_law_1026 : decode cL_law 1026 = .ok (.invokevirtual 110, 3) := by decide +kernel
theorem dL_law_1029 : decode cL_law 1029 = .ok (.aload_n 2, 1) := by decide +kernel
theorem dL_law_1030 : decode cL_law 1030 = .ok (.aload_n 0, 1) := by decide +kernel
theorem dL_law_1031 : decode cL_law 1031 = .ok (.iload_n 3, 1) := by decide +kernel
theorem dL_law_1032 : decode cL_law 1032 = .ok (.iconst 1, 1) := by decide +kernel
theorem dL_law_1033 : decode cL_law 1033 = .ok (.iadd, 1) := by decide +kernel
theorem dL_law_1034 : decode cL_law 1034 = .ok (.iaload, 1) := by decide +kernel
theorem dL_law_1035 : decode cL_law 1035 = .ok (.aload_n 0, 1) := by decide +kernel
theorem dL_law_1036 : decode cL_law 1036 = .ok (.iload_n 3, 1) := by decide +kernel
theorem dL_law_1037 : decode cL_law 1037 = .ok (.iconst 2, 1) := by decide +kernel
theorem dL_law_1038 : decode cL_law 1038 = .ok (.iadd, 1) := by decide +kernel
theorem dL_law_1039 : decode cL_law 1039 = .ok (.iaload, 1) := by decide +kernel
theorem dL_law_1040 : decode cL_law 1040 = .ok (.aload_n 0, 1) := by decide +kernel
theorem dL_law_1041 : decode cL_law 1041 = .ok (.iload_n 3, 1) := by decide +kernel
theorem dL_law_1042 : decode cL_law 1042 = .ok (.iconst 3, 1) := by decide +kernel
theorem dL_law_1043 : decode cL_law 1043 = .ok (.iadd, 1) := by decide +kernel
theorem dL_law_1044 : decode cL_law 1044 = .ok (.iaload, 1) := by decide +kernel
theorem dL_law_1045 : decode cL_law 1045 = .ok (.invokevirtual 113, 3) := by decide +kernel
theorem dL_law_1048 : decode cL_law 1048 = .ok (.if_icmp .eq 140, 3) := by decide +kernel
theorem dL_law_1051 : decode cL_law 1051 = .ok (.iconst 0, 1) := by decide +kernel
theorem dL_law_1052 : decode cL_law 1052 = .ok (.ireturn, 1) := by decide +kernel
theorem dL_law_1053 : decode cL_law 1053 = .ok (.aload_n 1, 1) := by decide +kernel
theorem dL_law_1054 : decode cL_law 1054 = .ok (.aload_n 0, 1) := by decide +kernel
theorem dL_law_1055 : decode cL_law 1055 = .ok (.iload_n 3, 1) := by decide +kernel
theorem dL_law_1056 : decode cL_law 1056 = .ok (.iconst 1, 1) := by decide +kernel
theorem dL_law_1057 : decode cL_law 1057 = .ok (.iadd, 1) := by decide +kernel
theorem dL_law_1058 : decode cL_law 1058 = .ok (.iaload, 1) := by decide +kernel
theorem dL_law_1059 : decode cL_law 1059 = .ok (.invokevirtual 114, 3) := by decide +kernel
theorem dL_law_1062 : decode cL_law 1062 = .ok (.aload_n 2, 1) := by decide +kernel
theorem dL_law_1063 : decode cL_law 1063 = .ok (.aload_n 0, 1) := by decide +kernel
theorem dL_law_1064 : decode cL_law 1064 = .ok (.iload_n 3, 1) := by decide +kernel
theorem dL_law_1065 : decode cL_law 1065 = .ok (.iconst 1, 1) := by decide +kernel
theorem dL_law_1066 : decode cL_law 1066 = .ok (.iadd, 1) := by decide +kernel
theorem dL_law_1067 : decode cL_law 1067 = .ok (.iaload, 1) := by decide +kernel
theorem dL_law_1068 : decode cL_law 1068 = .ok (.invokevirtual 117, 3) := by decide +kernel
theorem dL_law_1071 : decode cL_law 1071 = .ok (.if_icmp .eq 117, 3) := by decide +kernel
theorem dL_law_1074 : decode cL_law 1074 = .ok (.iconst 0, 1) := by decide +kernel
theorem dL_law_1075 : decode cL_law 1075 = .ok (.ireturn, 1) := by decide +kernel
theorem dL_law_1076 : decode cL_law 1076 = .ok (.aload_n 1, 1) := by decide +kernel
theorem dL_law_1077 : decode cL_law 1077 = .ok (.aload_n 0, 1) := by decide +kernel
theorem dL_law_1078 : decode cL_law 1078 = .ok (.iload_n 3, 1) := by decide +kernel
theorem dL_law_1079 : decode cL_law 1079 = .ok (.iconst 1, 1) := by decide +kernel
theorem dL_law_1080 : decode cL_law 1080 = .ok (.iadd, 1) := by decide +kernel
theorem dL_law_1081 : decode cL_law 1081 = .ok (.iaload, 1) := by decide +kernel
theorem dL_law_1082 : decode cL_law 1082 = .ok (.invokevirtual 118, 3) := by decide +kernel
theorem dL_law_1085 : decode cL_law 1085 = .ok (.aload_n 2, 1) := by decide +kernel
theorem dL_law_1086 : decode cL_law 1086 = .ok (.aload_n 0, 1) := by decide +kernel
theorem dL_law_1087 : decode cL_law 1087 = .ok (.iload_n 3, 1) := by decide +kernel
theorem dL_law_1088 : decode cL_law 1088 = .ok (.iconst 1, 1) := by decide +kernel
theorem dL_law_1089 : decode cL_law 1089 = .ok (.iadd, 1) := by decide +kernel
theorem dL_law_1090 : decode cL_law 1090 = .ok (.iaload, 1) := by decide +kernel
theorem dL_law_1091 : decode cL_law 1091 = .ok (.invokevirtual 121, 3) := by decide +kernel
theorem dL_law_1094 : decode cL_law 1094 = .ok (.if_icmp .eq 94, 3) := by decide +kernel
theorem dL_law_1097 : decode cL_law 1097 = .ok (.iconst 0, 1) := by decide +kernel
theorem dL_law_1098 : decode cL_law 1098 = .ok (.ireturn, 1) := by decide +kernel
theorem dL_law_1099 : decode cL_law 1099 = .ok (.aload_n 1, 1) := by decide +kernel
theorem dL_law_1100 : decode cL_law 1100 = .ok (.aload_n 0, 1) := by decide +kernel
theorem dL_law_1101 : decode cL_law 1101 = .ok (.iload_n 3, 1) := by decide +kernel
theorem dL_law_1102 : decode cL_law 1102 = .ok (.iconst 1, 1) := by decide +kernel
theorem dL_law_1103 : decode cL_law 1103 = .ok (.iadd, 1) := by decide +kernel
theorem dL_law_1104 : decode cL_law 1104 = .ok (.iaload, 1) := by decide +kernel
theorem dL_law_1105 : decode cL_law 1105 = .ok (.aload_n 0, 1) := by decide +kernel
theorem dL_law_1106 : decode cL_law 1106 = .ok (.iload_n 3, 1) := by decide +kernel
theorem dL_law_1107 : decode cL_law 1107 = .ok (.iconst 2, 1) := by decide +kernel
theorem dL_law_1108 : decode cL_law 1108 = .ok (.iadd, 1) := by decide +kernel
theorem dL_law_1109 : decode cL_law 1109 = .ok (.iaload, 1) := by decide +kernel
theorem dL_law_1110 : decode cL_law 1110 = .ok (.aload_n 0, 1) := by decide +kernel
theorem dL_law_1111 : decode cL_law 1111 = .ok (.iload_n 3, 1) := by decide +kernel
theorem dL_law_1112 : decode cL_law 1112 = .ok (.iconst 3, 1) := by decide +kernel
theorem dL_law_1113 : decode cL_law 1113 = .ok (.iadd, 1) := by decide +kernel
theorem dL_law_1114 : decode cL_law 1114 = .ok (.iaload, 1) := by decide +kernel
theorem dL_law_1115 : decode cL_law 1115 = .ok (.invokevirtual 122, 3) := by decide +kernel
theorem dL_law_1118 : decode cL_law 1118 = .ok (.aload_n 2, 1) := by decide +kernel
theorem dL_law_1119 : decode cL_law 1119 = .ok (.aload_n 0, 1) := by decide +kernel
theorem dL_law_1120 : decode cL_law 1120 = .ok (.iload_n 3, 1) := by decide +kernel
theorem dL_law_1121 : decode cL_law 1121 = .ok (.iconst 1, 1) := by decide +kernel
theorem dL_law_1122 : decode cL_law 1122 = .ok (.iadd, 1) := by decide +kernel
theorem dL_law_1123 : decode cL_law 1123 = .ok (.iaload, 1) := by decide +kernel
theorem dL_law_1124 : decode cL_law 1124 = .ok (.aload_n 0, 1) := by decide +kernel
theorem dL_law_1125 : decode cL_law 1125 = .ok (.iload_n 3, 1) := by decide +kernel
theorem dL_law_1126 : decode cL_law 1126 = .ok (.iconst 2, 1) := by decide +kernel
theorem dL_law_1127 : decode cL_law 1127 = .ok (.iadd, 1) := by decide +kernel
theorem dL_law_1128 : decode cL_law 1128 = .ok (.iaload, 1) := by decide +kernel
theorem dL_law_1129 : decode cL_law 1129 = .ok (.aload_n 0, 1) := by decide +kernel
theorem dL_law_1130 : decode cL_law 1130 = .ok (.iload_n 3, 1) := by decide +kernel
theorem dL_law_1131 : decode cL_law 1131 = .ok (.iconst 3, 1) := by decide +kernel
theorem dL_law_1132 : decode cL_law 1132 = .ok (.iadd, 1) := by decide +kernel
theorem dL_law_1133 : decode cL_law 1133 = .ok (.iaload, 1) := by decide +kernel
theorem dL_law_1134 : decode cL_law 1134 = .ok (.invokevirtual 125, 3) := by decide +kernel
theorem dL_law_1137 : decode cL_law 1137 = .ok (.if_icmp .eq 51, 3) := by decide +kernel
theorem dL_law_1140 : decode cL_law 1140 = .ok (.iconst 0, 1) := by decide +kernel
theorem dL_law_1141 : decode cL_law 1141 = .ok (.ireturn, 1) := by decide +kernel
theorem dL_law_1142 : decode cL_law 1142 = .ok (.aload_n 1, 1) := by decide +kernel
theorem dL_law_1143 : decode cL_law 1143 = .ok (.aload_n 0, 1) := by decide +kernel
theorem dL_law_1144 : decode cL_law 1144 = .ok (.iload_n 3, 1) := by decide +kernel
theorem dL_law_1145 : decode cL_law 1145 = .ok (.iconst 1, 1) := by decide +kernel
theorem dL_law_1146 : decode cL_law 1146 = .ok (.iadd, 1) := by decide +kernel
theorem dL_law_1147 : decode cL_law 1147 = .ok (.iaload, 1) := by decide +kernel
theorem dL_law_1148 : decode cL_law 1148 = .ok (.invokevirtual 126, 3) := by decide +kernel
theorem dL_law_1151 : decode cL_law 1151 = .ok (.aload_n 2, 1) := by decide +kernel
theorem dL_law_1152 : decode cL_law 1152 = .ok (.aload_n 0, 1) := by decide +kernel
theorem dL_law_1153 : decode cL_law 1153 = .ok (.iload_n 3, 1) := by decide +kernel
theorem dL_law_1154 : decode cL_law 1154 = .ok (.iconst 1, 1) := by decide +kernel
theorem dL_law_1155 : decode cL_law 1155 = .ok (.iadd, 1) := by decide +kernel
theorem dL_law_1156 : decode cL_law 1156 = .ok (.iaload, 1) := by decide +kernel
theorem dL_law_1157 : decode cL_law 1157 = .ok (.invokevirtual 129, 3) := by decide +kernel
theorem dL_law_1160 : decode cL_law 1160 = .ok (.if_icmp .eq 28, 3) := by decide +kernel
theorem dL_law_1163 : decode cL_law 1163 = .ok (.iconst 0, 1) := by decide +kernel
theorem dL_law_1164 : decode cL_law 1164 = .ok (.ireturn, 1) := by decide +kernel
theorem dL_law_1165 : decode cL_law 1165 = .ok (.aload_n 1, 1) := by decide +kernel
theorem dL_law_1166 : decode cL_law 1166 = .ok (.aload_n 0, 1) := by decide +kernel
theorem dL_law_1167 : decode cL_law 1167 = .ok (.iload_n 3, 1) := by decide +kernel
theorem dL_law_1168 : decode cL_law 1168 = .ok (.iconst 1, 1) := by decide +kernel
theorem dL_law_1169 : decode cL_law 1169 = .ok (.iadd, 1) := by decide +kernel
theorem dL_law_1170 : decode cL_law 1170 = .ok (.iaload, 1) := by decide +kernel
theorem dL_law_1171 : decode cL_law 1171 = .ok (.invokevirtual 130, 3) := by decide +kernel
theorem dL_law_1174 : decode cL_law 1174 = .ok (.aload_n 2, 1) := by decide +kernel
theorem dL_law_1175 : decode cL_law 1175 = .ok (.aload_n 0, 1) := by decide +kernel
theorem dL_law_1176 : decode cL_law 1176 = .ok (.iload_n 3, 1) := by decide +kernel
theorem dL_law_1177 : decode cL_law 1177 = .ok (.iconst 1, 1) := by decide +kernel
theorem dL_law_1178 : decode cL_law 1178 = .ok (.iadd, 1) := by decide +kernel
theorem dL_law_1179 : decode cL_law 1179 = .ok (.iaload, 1) := by decide +kernel
theorem dL_law_1180 : decode cL_law 1180 = .ok (.invokevirtual 133, 3) := by decide +kernel
theorem dL_law_1183 : decode cL_law 1183 = .ok (.if_icmp .eq 5, 3) := by decide +kernel
theorem dL_law_1186 : decode cL_law 1186 = .ok (.iconst 0, 1) := by decide +kernel
theorem dL_law_1187 : decode cL_law 1187 = .ok (.ireturn, 1) := by decide +kernel
theorem dL_law_1188 : decode cL_law 1188 = .ok (.iinc 3 8, 3) := by decide +kernel
theorem dL_law_1191 : decode cL_law 1191 = .ok (.goto (-1173), 3) := by decide +kernel
theorem dL_law_1194 : decode cL_law 1194 = .ok (.iconst 1, 1) := by decide +kernel
theorem dL_law_1195 : decode cL_law 1195 = .ok (.ireturn, 1) := by decide +kernel
def f_L_law_u1188 (Q : Int → Int) (K18 : ml_St → Int → Prop) (L : Int) (σ : ml_St) (x3 : Int) : Prop :=
I32 (x3 + 8) ∧
∀ y1 : Int, y1 = x3 + 8 →
K18 σ y1
def f_L_law_u18 (Q : Int → Int) (K177 : ml_St → Prop) (K240 : ml_St → Prop) (K263 : ml_St → Prop) (K296 : ml_St → Prop) (K309 : ml_St → Prop) (K322 : ml_St → Prop) (K346 : ml_St → Prop) (K379 : ml_St → Prop) (K413 : ml_St → Prop) (K447 : ml_St → Prop) (K480 : ml_St → Prop) (K514 : ml_St → Prop) (K578 : ml_St → Prop) (K726 : ml_St → Prop) (K790 : ml_St → Prop) (K833 : ml_St → Prop) (K866 : ml_St → Prop) (K909 : ml_St → Prop) (K932 : ml_St → Prop) (K975 : ml_St → Prop) (K1008 : ml_St → Prop) (K1051 : ml_St → Prop) (K1074 : ml_St → Prop) (K1097 : ml_St → Prop) (K1140 : ml_St → Prop) (K1163 : ml_St → Prop) (K1186 : ml_St → Prop) (K1194 : ml_St → Prop) (L : Int) : Nat → ml_St → Int → Prop
| 0, _, _ => False
| N + 1, σ, x3 =>
I32 (L - 8) ∧
((L - 8) < x3 →
K1194 σ) ∧
(¬ ((L - 8) < x3) →
(0 : Int) ≤ x3 ∧ (x3 : Int) < L ∧
((b_and (Q x3) 31) = 0 →
I32 (x3 + 1) ∧
(0 : Int) ≤ (x3 + 1) ∧ ((x3 + 1) : Int) < L ∧
f_X11_rails σ (Q (x3 + 1)) (fun r7 σ7 => ∀ _ : ml_B r7,
I32 (x3 + 1) ∧
(0 : Int) ≤ (x3 + 1) ∧ ((x3 + 1) : Int) < L ∧
f_X12_rails σ7 (Q (x3 + 1)) (fun r10 σ10 => ∀ _ : ml_B r10,
(r7 = r10 →
f_L_law_u1188 Q (f_L_law_u18 Q K177 K240 K263 K296 K309 K322 K346 K379 K413 K447 K480 K514 K578 K726 K790 K833 K866 K909 K932 K975 K1008 K1051 K1074 K1097 K1140 K1163 K1186 K1194 L N) L σ10 x3) ∧
(r7 ≠ r10 →
K177 σ10)))) ∧
((b_and (Q x3) 31) = 1 →
I32 (x3 + 1) ∧
(0 : Int) ≤ (x3 + 1) ∧ ((x3 + 1) : Int) < L ∧
I32 (x3 + 2) ∧
(0 : Int) ≤ (x3 + 2) ∧ ((x3 + 2) : Int) < L ∧
I32 (x3 + 3) ∧
(0 : Int) ≤ (x3 + 3) ∧ ((x3 + 3) : Int) < L ∧
I32 (x3 + 4) ∧
(0 : Int) ≤ (x3 + 4) ∧ ((x3 + 4) : Int) < L ∧
I32 (x3 + 5) ∧
(0 : Int) ≤ (x3 + 5) ∧ ((x3 + 5) : Int) < L ∧
f_X11_feed σ (Q (x3 + 1)) (Q (x3 + 2)) (Q (x3 + 3)) (Q (x3 + 4)) (Q (x3 + 5)) (fun r22 σ22 => ∀ _ : I32 r22,
I32 (x3 + 1) ∧
(0 : Int) ≤ (x3 + 1) ∧ ((x3 + 1) : Int) < L ∧
I32 (x3 + 2) ∧
(0 : Int) ≤ (x3 + 2) ∧ ((x3 + 2) : Int) < L ∧
I32 (x3 + 3) ∧
(0 : Int) ≤ (x3 + 3) ∧ ((x3 + 3) : Int) < L ∧
I32 (x3 + 4) ∧
(0 : Int) ≤ (x3 + 4) ∧ ((x3 + 4) : Int) < L ∧
I32 (x3 + 5) ∧
(0 : Int) ≤ (x3 + 5) ∧ ((x3 + 5) : Int) < L ∧
f_X12_feed σ22 (Q (x3 + 1)) (Q (x3 + 2)) (Q (x3 + 3)) (Q (x3 + 4)) (Q (x3 + 5)) (fun r33 σ33 => ∀ _ : I32 r33,
(r22 = r33 →
f_L_law_u1188 Q (f_L_law_u18 Q K177 K240 K263 K296 K309 K322 K346 K379 K413 K447 K480 K514 K578 K726 K790 K833 K866 K909 K932 K975 K1008 K1051 K1074 K1097 K1140 K1163 K1186 K1194 L N) L σ33 x3) ∧
(r22 ≠ r33 →
K240 σ33)))) ∧
((b_and (Q x3) 31) = 2 →
I32 (x3 + 1) ∧
(0 : Int) ≤ (x3 + 1) ∧ ((x3 + 1) : Int) < L ∧
f_X11_word σ (Q (x3 + 1)) (fun r37 σ37 => ∀ _ : I32 r37,
I32 (x3 + 1) ∧
(0 : Int) ≤ (x3 + 1) ∧ ((x3 + 1) : Int) < L ∧
f_X12_word σ37 (Q (x3 + 1)) (fun r40 σ40 => ∀ _ : I32 r40,
(r37 = r40 →
f_L_law_u1188 Q (f_L_law_u18 Q K177 K240 K263 K296 K309 K322 K346 K379 K413 K447 K480 K514 K578 K726 K790 K833 K866 K909 K932 K975 K1008 K1051 K1074 K1097 K1140 K1163 K1186 K1194 L N) L σ40 x3) ∧
(r37 ≠ r40 →
K263 σ40)))) ∧
((b_and (Q x3) 31) = 3 →
I32 (x3 + 1) ∧
(0 : Int) ≤ (x3 + 1) ∧ ((x3 + 1) : Int) < L ∧
I32 (x3 + 2) ∧
(0 : Int) ≤ (x3 + 2) ∧ ((x3 + 2) : Int) < L ∧
f_X11_change σ (Q (x3 + 1)) (Q (x3 + 2)) (fun r46 σ46 => ∀ _ : I32 r46,
I32 (x3 + 1) ∧
(0 : Int) ≤ (x3 + 1) ∧ ((x3 + 1) : Int) < L ∧
I32 (x3 + 2) ∧
(0 : Int) ≤ (x3 + 2) ∧ ((x3 + 2) : Int) < L ∧
f_X12_change σ46 (Q (x3 + 1)) (Q (x3 + 2)) (fun r51 σ51 => ∀ _ : I32 r51,
(r46 = r51 →
f_L_law_u1188 Q (f_L_law_u18 Q K177 K240 K263 K296 K309 K322 K346 K379 K413 K447 K480 K514 K578 K726 K790 K833 K866 K909 K932 K975 K1008 K1051 K1074 K1097 K1140 K1163 K1186 K1194 L N) L σ51 x3) ∧
(r46 ≠ r51 →
K296 σ51)))) ∧
((b_and (Q x3) 31) = 4 →
f_X11_round σ (fun r53 σ53 => ∀ _ : ml_B r53,
f_X12_round σ53 (fun r54 σ54 => ∀ _ : ml_B r54,
(r53 = r54 →
f_L_law_u1188 Q (f_L_law_u18 Q K177 K240 K263 K296 K309 K322 K346 K379 K413 K447 K480 K514 K578 K726 K790 K833 K866 K909 K932 K975 K1008 K1051 K1074 K1097 K1140 K1163 K1186 K1194 L N) L σ54 x3) ∧
(r53 ≠ r54 →
K309 σ54)))) ∧
((b_and (Q x3) 31) = 5 →
f_X11_caps σ (fun r56 σ56 => ∀ _ : ml_B r56,
f_X12_caps σ56 (fun r57 σ57 => ∀ _ : ml_B r57,
(r56 = r57 →
f_L_law_u1188 Q (f_L_law_u18 Q K177 K240 K263 K296 K309 K322 K346 K379 K413 K447 K480 K514 K578 K726 K790 K833 K866 K909 K932 K975 K1008 K1051 K1074 K1097 K1140 K1163 K1186 K1194 L N) L σ57 x3) ∧
(r56 ≠ r57 →
K322 σ57)))) ∧
((b_and (Q x3) 31) = 6 →
I32 (x3 + 1) ∧
(0 : Int) ≤ (x3 + 1) ∧ ((x3 + 1) : Int) < L ∧
f_X11_signs σ (Q (x3 + 1)) (fun r61 σ61 => ∀ _ : I64 r61,
I32 (x3 + 1) ∧
(0 : Int) ≤ (x3 + 1) ∧ ((x3 + 1) : Int) < L ∧
f_X12_signs σ61 (Q (x3 + 1)) (fun r64 σ64 => ∀ _ : I64 r64,
(r61 = r64 →
f_L_law_u1188 Q (f_L_law_u18 Q K177 K240 K263 K296 K309 K322 K346 K379 K413 K447 K480 K514 K578 K726 K790 K833 K866 K909 K932 K975 K1008 K1051 K1074 K1097 K1140 K1163 K1186 K1194 L N) L σ64 x3) ∧
(r61 ≠ r64 →
K346 σ64)))) ∧
((b_and (Q x3) 31) = 7 →
I32 (x3 + 1) ∧
(0 : Int) ≤ (x3 + 1) ∧ ((x3 + 1) : Int) < L ∧
I32 (x3 + 2) ∧
(0 : Int) ≤ (x3 + 2) ∧ ((x3 + 2) : Int) < L ∧
f_X11_joined σ (Q (x3 + 1)) (Q (x3 + 2)) (fun r70 σ70 => ∀ _ : I32 r70,
I32 (x3 + 1) ∧
(0 : Int) ≤ (x3 + 1) ∧ ((x3 + 1) : Int) < L ∧
I32 (x3 + 2) ∧
(0 : Int) ≤ (x3 + 2) ∧ ((x3 + 2) : Int) < L ∧
f_X12_joined σ70 (Q (x3 + 1)) (Q (x3 + 2)) (fun r75 σ75 => ∀ _ : I32 r75,
(r70 = r75 →
f_L_law_u1188 Q (f_L_law_u18 Q K177 K240 K263 K296 K309 K322 K346 K379 K413 K447 K480 K514 K578 K726 K790 K833 K866 K909 K932 K975 K1008 K1051 K1074 K1097 K1140 K1163 K1186 K1194 L N) L σ75 x3) ∧
(r70 ≠ r75 →
K379 σ75)))) ∧
((b_and (Q x3) 31) = 8 →
I32 (x3 + 1) ∧
(0 : Int) ≤ (x3 + 1) ∧ ((x3 + 1) : Int) < L ∧
I32 (x3 + 2) ∧
(0 : Int) ≤ (x3 + 2) ∧ ((x3 + 2) : Int) < L ∧
f_X11_length σ (Q (x3 + 1)) (Q (x3 + 2)) (fun r81 σ81 => ∀ _ : I64 r81,
I32 (x3 + 1) ∧
(0 : Int) ≤ (x3 + 1) ∧ ((x3 + 1) : Int) < L ∧
I32 (x3 + 2) ∧
(0 : Int) ≤ (x3 + 2) ∧ ((x3 + 2) : Int) < L ∧
f_X12_length σ81 (Q (x3 + 1)) (Q (x3 + 2)) (fun r86 σ86 => ∀ _ : I64 r86,
(r81 = r86 →
f_L_law_u1188 Q (f_L_law_u18 Q K177 K240 K263 K296 K309 K322 K346 K379 K413 K447 K480 K514 K578 K726 K790 K833 K866 K909 K932 K975 K1008 K1051 K1074 K1097 K1140 K1163 K1186 K1194 L N) L σ86 x3) ∧
(r81 ≠ r86 →
K413 σ86)))) ∧
((b_and (Q x3) 31) = 9 →
I32 (x3 + 1) ∧
(0 : Int) ≤ (x3 + 1) ∧ ((x3 + 1) : Int) < L ∧
I32 (x3 + 2) ∧
(0 : Int) ≤ (x3 + 2) ∧ ((x3 + 2) : Int) < L ∧
f_X11_loops σ (Q (x3 + 1)) (Q (x3 + 2)) (fun r92 σ92 => ∀ _ : I64 r92,
I32 (x3 + 1) ∧
(0 : Int) ≤ (x3 + 1) ∧ ((x3 + 1) : Int) < L ∧
I32 (x3 + 2) ∧
(0 : Int) ≤ (x3 + 2) ∧ ((x3 + 2) : Int) < L ∧
f_X12_loops σ92 (Q (x3 + 1)) (Q (x3 + 2)) (fun r97 σ97 => ∀ _ : I64 r97,
(r92 = r97 →
f_L_law_u1188 Q (f_L_law_u18 Q K177 K240 K263 K296 K309 K322 K346 K379 K413 K447 K480 K514 K578 K726 K790 K833 K866 K909 K932 K975 K1008 K1051 K1074 K1097 K1140 K1163 K1186 K1194 L N) L σ97 x3) ∧
(r92 ≠ r97 →
K447 σ97)))) ∧
((b_and (Q x3) 31) = 10 →
I32 (x3 + 1) ∧
(0 : Int) ≤ (x3 + 1) ∧ ((x3 + 1) : Int) < L ∧
I32 (x3 + 2) ∧
(0 : Int) ≤ (x3 + 2) ∧ ((x3 + 2) : Int) < L ∧
f_X11_power σ (Q (x3 + 1)) (Q (x3 + 2)) (fun r103 σ103 => ∀ _ : I32 r103,
I32 (x3 + 1) ∧
(0 : Int) ≤ (x3 + 1) ∧ ((x3 + 1) : Int) < L ∧
I32 (x3 + 2) ∧
(0 : Int) ≤ (x3 + 2) ∧ ((x3 + 2) : Int) < L ∧
f_X12_power σ103 (Q (x3 + 1)) (Q (x3 + 2)) (fun r108 σ108 => ∀ _ : I32 r108,
(r103 = r108 →
f_L_law_u1188 Q (f_L_law_u18 Q K177 K240 K263 K296 K309 K322 K346 K379 K413 K447 K480 K514 K578 K726 K790 K833 K866 K909 K932 K975 K1008 K1051 K1074 K1097 K1140 K1163 K1186 K1194 L N) L σ108 x3) ∧
(r103 ≠ r108 →
K480 σ108)))) ∧
((b_and (Q x3) 31) = 11 →
I32 (x3 + 1) ∧
(0 : Int) ≤ (x3 + 1) ∧ ((x3 + 1) : Int) < L ∧
I32 (x3 + 2) ∧
(0 : Int) ≤ (x3 + 2) ∧ ((x3 + 2) : Int) < L ∧
f_X11_rule σ (Q (x3 + 1)) (Q (x3 + 2)) (fun r114 σ114 => ∀ _ : I64 r114,
I32 (x3 + 1) ∧
(0 : Int) ≤ (x3 + 1) ∧ ((x3 + 1) : Int) < L ∧
I32 (x3 + 2) ∧
(0 : Int) ≤ (x3 + 2) ∧ ((x3 + 2) : Int) < L ∧
f_X12_rule σ114 (Q (x3 + 1)) (Q (x3 + 2)) (fun r119 σ119 => ∀ _ : I64 r119,
(r114 = r119 →
f_L_law_u1188 Q (f_L_law_u18 Q K177 K240 K263 K296 K309 K322 K346 K379 K413 K447 K480 K514 K578 K726 K790 K833 K866 K909 K932 K975 K1008 K1051 K1074 K1097 K1140 K1163 K1186 K1194 L N) L σ119 x3) ∧
(r114 ≠ r119 →
K514 σ119)))) ∧
((b_and (Q x3) 31) = 12 →
I32 (x3 + 1) ∧
(0 : Int) ≤ (x3 + 1) ∧ ((x3 + 1) : Int) < L ∧
I32 (x3 + 2) ∧
(0 : Int) ≤ (x3 + 2) ∧ ((x3 + 2) : Int) < L ∧
I32 (x3 + 3) ∧
(0 : Int) ≤ (x3 + 3) ∧ ((x3 + 3) : Int) < L ∧
f_X11_left σ (Q (x3 + 1)) (b_lor (b_lshl (Q (x3 + 2)) 32) (b_land (Q (x3 + 3)) 4294967295)) (fun r127 σ127 => ∀ _ : I64 r127,
I32 (x3 + 1) ∧
(0 : Int) ≤ (x3 + 1) ∧ ((x3 + 1) : Int) < L ∧
I32 (x3 + 2) ∧
(0 : Int) ≤ (x3 + 2) ∧ ((x3 + 2) : Int) < L ∧
I32 (x3 + 3) ∧
(0 : Int) ≤ (x3 + 3) ∧ ((x3 + 3) : Int) < L ∧
f_X12_left σ127 (Q (x3 + 1)) (b_lor (b_lshl (Q (x3 + 2)) 32) (b_land (Q (x3 + 3)) 4294967295)) (fun r134 σ134 => ∀ _ : I64 r134,
(r127 = r134 →
f_L_law_u1188 Q (f_L_law_u18 Q K177 K240 K263 K296 K309 K322 K346 K379 K413 K447 K480 K514 K578 K726 K790 K833 K866 K909 K932 K975 K1008 K1051 K1074 K1097 K1140 K1163 K1186 K1194 L N) L σ134 x3) ∧
(r127 ≠ r134 →
K578 σ134)))) ∧
((b_and (Q x3) 31) = 13 →
I32 (x3 + 1) ∧
(0 : Int) ≤ (x3 + 1) ∧ ((x3 + 1) : Int) < L ∧
I32 (x3 + 2) ∧
(0 : Int) ≤ (x3 + 2) ∧ ((x3 + 2) : Int) < L ∧
I32 (x3 + 3) ∧
(0 : Int) ≤ (x3 + 3) ∧ ((x3 + 3) : Int) < L ∧
I32 (x3 + 4) ∧
(0 : Int) ≤ (x3 + 4) ∧ ((x3 + 4) : Int) < L ∧
I32 (x3 + 5) ∧
(0 : Int) ≤ (x3 + 5) ∧ ((x3 + 5) : Int) < L ∧
I32 (x3 + 6) ∧
(0 : Int) ≤ (x3 + 6) ∧ ((x3 + 6) : Int) < L ∧
I32 (x3 + 7) ∧
(0 : Int) ≤ (x3 + 7) ∧ ((x3 + 7) : Int) < L ∧
f_X11_those σ (Q (x3 + 1)) (b_lor (b_lshl (Q (x3 + 2)) 32) (b_land (Q (x3 + 3)) 4294967295)) (b_lor (b_lshl (Q (x3 + 4)) 32) (b_land (Q (x3 + 5)) 4294967295)) (b_lor (b_lshl (Q (x3 + 6)) 32) (b_land (Q (x3 + 7)) 4294967295)) (fun r150 σ150 => ∀ _ : I64 r150,
I32 (x3 + 1) ∧
(0 : Int) ≤ (x3 + 1) ∧ ((x3 + 1) : Int) < L ∧
I32 (x3 + 2) ∧
(0 : Int) ≤ (x3 + 2) ∧ ((x3 + 2) : Int) < L ∧
I32 (x3 + 3) ∧
(0 : Int) ≤ (x3 + 3) ∧ ((x3 + 3) : Int) < L ∧
I32 (x3 + 4) ∧
(0 : Int) ≤ (x3 + 4) ∧ ((x3 + 4) : Int) < L ∧
I32 (x3 + 5) ∧
(0 : Int) ≤ (x3 + 5) ∧ ((x3 + 5) : Int) < L ∧
I32 (x3 + 6) ∧
(0 : Int) ≤ (x3 + 6) ∧ ((x3 + 6) : Int) < L ∧
I32 (x3 + 7) ∧
(0 : Int) ≤ (x3 + 7) ∧ ((x3 + 7) : Int) < L ∧
f_X12_those σ150 (Q (x3 + 1)) (b_lor (b_lshl (Q (x3 + 2)) 32) (b_land (Q (x3 + 3)) 4294967295)) (b_lor (b_lshl (Q (x3 + 4)) 32) (b_land (Q (x3 + 5)) 4294967295)) (b_lor (b_lshl (Q (x3 + 6)) 32) (b_land (Q (x3 + 7)) 4294967295)) (fun r165 σ165 => ∀ _ : I64 r165,
(r150 = r165 →
f_L_law_u1188 Q (f_L_law_u18 Q K177 K240 K263 K296 K309 K322 K346 K379 K413 K447 K480 K514 K578 K726 K790 K833 K866 K909 K932 K975 K1008 K1051 K1074 K1097 K1140 K1163 K1186 K1194 L N) L σ165 x3) ∧
(r150 ≠ r165 →
K726 σ165)))) ∧
((b_and (Q x3) 31) = 14 →
I32 (x3 + 1) ∧
(0 : Int) ≤ (x3 + 1) ∧ ((x3 + 1) : Int) < L ∧
I32 (x3 + 2) ∧
(0 : Int) ≤ (x3 + 2) ∧ ((x3 + 2) : Int) < L ∧
I32 (x3 + 3) ∧
(0 : Int) ≤ (x3 + 3) ∧ ((x3 + 3) : Int) < L ∧
f_X11_first σ (Q (x3 + 1)) (b_lor (b_lshl (Q (x3 + 2)) 32) (b_land (Q (x3 + 3)) 4294967295)) (fun r173 σ173 => ∀ _ : I64 r173,
I32 (x3 + 1) ∧
(0 : Int) ≤ (x3 + 1) ∧ ((x3 + 1) : Int) < L ∧
I32 (x3 + 2) ∧
(0 : Int) ≤ (x3 + 2) ∧ ((x3 + 2) : Int) < L ∧
I32 (x3 + 3) ∧
(0 : Int) ≤ (x3 + 3) ∧ ((x3 + 3) : Int) < L ∧
f_X12_first σ173 (Q (x3 + 1)) (b_lor (b_lshl (Q (x3 + 2)) 32) (b_land (Q (x3 + 3)) 4294967295)) (fun r180 σ180 => ∀ _ : I64 r180,
(r173 = r180 →
f_L_law_u1188 Q (f_L_law_u18 Q K177 K240 K263 K296 K309 K322 K346 K379 K413 K447 K480 K514 K578 K726 K790 K833 K866 K909 K932 K975 K1008 K1051 K1074 K1097 K1140 K1163 K1186 K1194 L N) L σ180 x3) ∧
(r173 ≠ r180 →
K790 σ180)))) ∧
((b_and (Q x3) 31) = 15 →
I32 (x3 + 1) ∧
(0 : Int) ≤ (x3 + 1) ∧ ((x3 + 1) : Int) < L ∧
I32 (x3 + 2) ∧
(0 : Int) ≤ (x3 + 2) ∧ ((x3 + 2) : Int) < L ∧
I32 (x3 + 3) ∧
(0 : Int) ≤ (x3 + 3) ∧ ((x3 + 3) : Int) < L ∧
f_X11_both σ (Q (x3 + 1)) (Q (x3 + 2)) (Q (x3 + 3)) (fun r188 σ188 => ∀ _ : I32 r188,
I32 (x3 + 1) ∧
(0 : Int) ≤ (x3 + 1) ∧ ((x3 + 1) : Int) < L ∧
I32 (x3 + 2) ∧
(0 : Int) ≤ (x3 + 2) ∧ ((x3 + 2) : Int) < L ∧
I32 (x3 + 3) ∧
(0 : Int) ≤ (x3 + 3) ∧ ((x3 + 3) : Int) < L ∧
f_X12_both σ188 (Q (x3 + 1)) (Q (x3 + 2)) (Q (x3 + 3)) (fun r195 σ195 => ∀ _ : I32 r195,
(r188 = r195 →
f_L_law_u1188 Q (f_L_law_u18 Q K177 K240 K263 K296 K309 K322 K346 K379 K413 K447 K480 K514 K578 K726 K790 K833 K866 K909 K932 K975 K1008 K1051 K1074 K1097 K1140 K1163 K1186 K1194 L N) L σ195 x3) ∧
(r188 ≠ r195 →
K833 σ195)))) ∧
((b_and (Q x3) 31) = 16 →
I32 (x3 + 1) ∧
(0 : Int) ≤ (x3 + 1) ∧ ((x3 + 1) : Int) < L ∧
I32 (x3 + 2) ∧
(0 : Int) ≤ (x3 + 2) ∧ ((x3 + 2) : Int) < L ∧
f_X11_is σ (Q (x3 + 1)) (Q (x3 + 2)) (fun r201 σ201 => ∀ _ : I32 r201,
I32 (x3 + 1) ∧
(0 : Int) ≤ (x3 + 1) ∧ ((x3 + 1) : Int) < L ∧
I32 (x3 + 2) ∧
(0 : Int) ≤ (x3 + 2) ∧ ((x3 + 2) : Int) < L ∧
f_X12_is σ201 (Q (x3 + 1)) (Q (x3 + 2)) (fun r206 σ206 => ∀ _ : I32 r206,
(r201 = r206 →
f_L_law_u1188 Q (f_L_law_u18 Q K177 K240 K263 K296 K309 K322 K346 K379 K413 K447 K480 K514 K578 K726 K790 K833 K866 K909 K932 K975 K1008 K1051 K1074 K1097 K1140 K1163 K1186 K1194 L N) L σ206 x3) ∧
(r201 ≠ r206 →
K866 σ206)))) ∧
((b_and (Q x3) 31) = 17 →
I32 (x3 + 1) ∧
(0 : Int) ≤ (x3 + 1) ∧ ((x3 + 1) : Int) < L ∧
I32 (x3 + 2) ∧
(0 : Int) ≤ (x3 + 2) ∧ ((x3 + 2) : Int) < L ∧
I32 (x3 + 3) ∧
(0 : Int) ≤ (x3 + 3) ∧ ((x3 + 3) : Int) < L ∧
f_X11_many σ (Q (x3 + 1)) (Q (x3 + 2)) (Q (x3 + 3)) (fun r214 σ214 => ∀ _ : I32 r214,
I32 (x3 + 1) ∧
(0 : Int) ≤ (x3 + 1) ∧ ((x3 + 1) : Int) < L ∧
I32 (x3 + 2) ∧
(0 : Int) ≤ (x3 + 2) ∧ ((x3 + 2) : Int) < L ∧
I32 (x3 + 3) ∧
(0 : Int) ≤ (x3 + 3) ∧ ((x3 + 3) : Int) < L ∧
f_X12_many σ214 (Q (x3 + 1)) (Q (x3 + 2)) (Q (x3 + 3)) (fun r221 σ221 => ∀ _ : I32 r221,
(r214 = r221 →
f_L_law_u1188 Q (f_L_law_u18 Q K177 K240 K263 K296 K309 K322 K346 K379 K413 K447 K480 K514 K578 K726 K790 K833 K866 K909 K932 K975 K1008 K1051 K1074 K1097 K1140 K1163 K1186 K1194 L N) L σ221 x3) ∧
(r214 ≠ r221 →
K909 σ221)))) ∧
((b_and (Q x3) 31) = 18 →
I32 (x3 + 1) ∧
(0 : Int) ≤ (x3 + 1) ∧ ((x3 + 1) : Int) < L ∧
f_X11_made σ (Q (x3 + 1)) (fun r225 σ225 => ∀ _ : I32 r225,
I32 (x3 + 1) ∧
(0 : Int) ≤ (x3 + 1) ∧ ((x3 + 1) : Int) < L ∧
f_X12_made σ225 (Q (x3 + 1)) (fun r228 σ228 => ∀ _ : I32 r228,
(r225 = r228 →
f_L_law_u1188 Q (f_L_law_u18 Q K177 K240 K263 K296 K309 K322 K346 K379 K413 K447 K480 K514 K578 K726 K790 K833 K866 K909 K932 K975 K1008 K1051 K1074 K1097 K1140 K1163 K1186 K1194 L N) L σ228 x3) ∧
(r225 ≠ r228 →
K932 σ228)))) ∧
((b_and (Q x3) 31) = 19 →
I32 (x3 + 1) ∧
(0 : Int) ≤ (x3 + 1) ∧ ((x3 + 1) : Int) < L ∧
I32 (x3 + 2) ∧
(0 : Int) ≤ (x3 + 2) ∧ ((x3 + 2) : Int) < L ∧
I32 (x3 + 3) ∧
(0 : Int) ≤ (x3 + 3) ∧ ((x3 + 3) : Int) < L ∧
f_X11_shortest σ (Q (x3 + 1)) (Q (x3 + 2)) (Q (x3 + 3)) (fun r236 σ236 => ∀ _ : I32 r236,
I32 (x3 + 1) ∧
(0 : Int) ≤ (x3 + 1) ∧ ((x3 + 1) : Int) < L ∧
I32 (x3 + 2) ∧
(0 : Int) ≤ (x3 + 2) ∧ ((x3 + 2) : Int) < L ∧
I32 (x3 + 3) ∧
(0 : Int) ≤ (x3 + 3) ∧ ((x3 + 3) : Int) < L ∧
f_X12_shortest σ236 (Q (x3 + 1)) (Q (x3 + 2)) (Q (x3 + 3)) (fun r243 σ243 => ∀ _ : I32 r243,
(r236 = r243 →
f_L_law_u1188 Q (f_L_law_u18 Q K177 K240 K263 K296 K309 K322 K346 K379 K413 K447 K480 K514 K578 K726 K790 K833 K866 K909 K932 K975 K1008 K1051 K1074 K1097 K1140 K1163 K1186 K1194 L N) L σ243 x3) ∧
(r236 ≠ r243 →
K975 σ243)))) ∧
((b_and (Q x3) 31) = 20 →
I32 (x3 + 1) ∧
(0 : Int) ≤ (x3 + 1) ∧ ((x3 + 1) : Int) < L ∧
I32 (x3 + 2) ∧
(0 : Int) ≤ (x3 + 2) ∧ ((x3 + 2) : Int) < L ∧
f_X11_cost σ (Q (x3 + 1)) (Q (x3 + 2)) (fun r249 σ249 => ∀ _ : ml_B r249,
I32 (x3 + 1) ∧
(0 : Int) ≤ (x3 + 1) ∧ ((x3 + 1) : Int) < L ∧
I32 (x3 + 2) ∧
(0 : Int) ≤ (x3 + 2) ∧ ((x3 + 2) : Int) < L ∧
f_X12_cost σ249 (Q (x3 + 1)) (Q (x3 + 2)) (fun r254 σ254 => ∀ _ : ml_B r254,
(r249 = r254 →
f_L_law_u1188 Q (f_L_law_u18 Q K177 K240 K263 K296 K309 K322 K346 K379 K413 K447 K480 K514 K578 K726 K790 K833 K866 K909 K932 K975 K1008 K1051 K1074 K1097 K1140 K1163 K1186 K1194 L N) L σ254 x3) ∧
(r249 ≠ r254 →
K1008 σ254)))) ∧
((b_and (Q x3) 31) = 21 →
I32 (x3 + 1) ∧
(0 : Int) ≤ (x3 + 1) ∧ ((x3 + 1) : Int) < L ∧
I32 (x3 + 2) ∧
(0 : Int) ≤ (x3 + 2) ∧ ((x3 + 2) : Int) < L ∧
I32 (x3 + 3) ∧
(0 : Int) ≤ (x3 + 3) ∧ ((x3 + 3) : Int) < L ∧
f_X11_cheapest σ (Q (x3 + 1)) (Q (x3 + 2)) (Q (x3 + 3)) (fun r262 σ262 => ∀ _ : I32 r262,
I32 (x3 + 1) ∧
(0 : Int) ≤ (x3 + 1) ∧ ((x3 + 1) : Int) < L ∧
I32 (x3 + 2) ∧
(0 : Int) ≤ (x3 + 2) ∧ ((x3 + 2) : Int) < L ∧
I32 (x3 + 3) ∧
(0 : Int) ≤ (x3 + 3) ∧ ((x3 + 3) : Int) < L ∧
f_X12_cheapest σ262 (Q (x3 + 1)) (Q (x3 + 2)) (Q (x3 + 3)) (fun r269 σ269 => ∀ _ : I32 r269,
(r262 = r269 →
f_L_law_u1188 Q (f_L_law_u18 Q K177 K240 K263 K296 K309 K322 K346 K379 K413 K447 K480 K514 K578 K726 K790 K833 K866 K909 K932 K975 K1008 K1051 K1074 K1097 K1140 K1163 K1186 K1194 L N) L σ269 x3) ∧
(r262 ≠ r269 →
K1051 σ269)))) ∧
((b_and (Q x3) 31) = 22 →
I32 (x3 + 1) ∧
(0 : Int) ≤ (x3 + 1) ∧ ((x3 + 1) : Int) < L ∧
f_X11_mend σ (Q (x3 + 1)) (fun r273 σ273 => ∀ _ : I32 r273,
I32 (x3 + 1) ∧
(0 : Int) ≤ (x3 + 1) ∧ ((x3 + 1) : Int) < L ∧
f_X12_mend σ273 (Q (x3 + 1)) (fun r276 σ276 => ∀ _ : I32 r276,
(r273 = r276 →
f_L_law_u1188 Q (f_L_law_u18 Q K177 K240 K263 K296 K309 K322 K346 K379 K413 K447 K480 K514 K578 K726 K790 K833 K866 K909 K932 K975 K1008 K1051 K1074 K1097 K1140 K1163 K1186 K1194 L N) L σ276 x3) ∧
(r273 ≠ r276 →
K1074 σ276)))) ∧
((b_and (Q x3) 31) = 23 →
I32 (x3 + 1) ∧
(0 : Int) ≤ (x3 + 1) ∧ ((x3 + 1) : Int) < L ∧
f_X11_back σ (Q (x3 + 1)) (fun r280 σ280 => ∀ _ : I32 r280,
I32 (x3 + 1) ∧
(0 : Int) ≤ (x3 + 1) ∧ ((x3 + 1) : Int) < L ∧
f_X12_back σ280 (Q (x3 + 1)) (fun r283 σ283 => ∀ _ : I32 r283,
(r280 = r283 →
f_L_law_u1188 Q (f_L_law_u18 Q K177 K240 K263 K296 K309 K322 K346 K379 K413 K447 K480 K514 K578 K726 K790 K833 K866 K909 K932 K975 K1008 K1051 K1074 K1097 K1140 K1163 K1186 K1194 L N) L σ283 x3) ∧
(r280 ≠ r283 →
K1097 σ283)))) ∧
((b_and (Q x3) 31) = 24 →
I32 (x3 + 1) ∧
(0 : Int) ≤ (x3 + 1) ∧ ((x3 + 1) : Int) < L ∧
I32 (x3 + 2) ∧
(0 : Int) ≤ (x3 + 2) ∧ ((x3 + 2) : Int) < L ∧
I32 (x3 + 3) ∧
(0 : Int) ≤ (x3 + 3) ∧ ((x3 + 3) : Int) < L ∧
f_X11_walk σ (Q (x3 + 1)) (Q (x3 + 2)) (Q (x3 + 3)) (fun r291 σ291 => ∀ _ : I32 r291,
I32 (x3 + 1) ∧
(0 : Int) ≤ (x3 + 1) ∧ ((x3 + 1) : Int) < L ∧
I32 (x3 + 2) ∧
(0 : Int) ≤ (x3 + 2) ∧ ((x3 + 2) : Int) < L ∧
I32 (x3 + 3) ∧
(0 : Int) ≤ (x3 + 3) ∧ ((x3 + 3) : Int) < L ∧
f_X12_walk σ291 (Q (x3 + 1)) (Q (x3 + 2)) (Q (x3 + 3)) (fun r298 σ298 => ∀ _ : I32 r298,
(r291 = r298 →
f_L_law_u1188 Q (f_L_law_u18 Q K177 K240 K263 K296 K309 K322 K346 K379 K413 K447 K480 K514 K578 K726 K790 K833 K866 K909 K932 K975 K1008 K1051 K1074 K1097 K1140 K1163 K1186 K1194 L N) L σ298 x3) ∧
(r291 ≠ r298 →
K1140 σ298)))) ∧
((b_and (Q x3) 31) = 25 →
I32 (x3 + 1) ∧
(0 : Int) ≤ (x3 + 1) ∧ ((x3 + 1) : Int) < L ∧
f_X11_check σ (Q (x3 + 1)) (fun r302 σ302 => ∀ _ : I32 r302,
I32 (x3 + 1) ∧
(0 : Int) ≤ (x3 + 1) ∧ ((x3 + 1) : Int) < L ∧
f_X12_check σ302 (Q (x3 + 1)) (fun r305 σ305 => ∀ _ : I32 r305,
(r302 = r305 →
f_L_law_u1188 Q (f_L_law_u18 Q K177 K240 K263 K296 K309 K322 K346 K379 K413 K447 K480 K514 K578 K726 K790 K833 K866 K909 K932 K975 K1008 K1051 K1074 K1097 K1140 K1163 K1186 K1194 L N) L σ305 x3) ∧
(r302 ≠ r305 →
K1163 σ305)))) ∧
((b_and (Q x3) 31) = 26 →
I32 (x3 + 1) ∧
(0 : Int) ≤ (x3 + 1) ∧ ((x3 + 1) : Int) < L ∧
f_X11_count σ (Q (x3 + 1)) (fun r309 σ309 => ∀ _ : I32 r309,
I32 (x3 + 1) ∧
(0 : Int) ≤ (x3 + 1) ∧ ((x3 + 1) : Int) < L ∧
f_X12_count σ309 (Q (x3 + 1)) (fun r312 σ312 => ∀ _ : I32 r312,
(r309 = r312 →
f_L_law_u1188 Q (f_L_law_u18 Q K177 K240 K263 K296 K309 K322 K346 K379 K413 K447 K480 K514 K578 K726 K790 K833 K866 K909 K932 K975 K1008 K1051 K1074 K1097 K1140 K1163 K1186 K1194 L N) L σ312 x3) ∧
(r309 ≠ r312 →
K1186 σ312)))) ∧
((b_and (Q x3) 31) < 0 ∨ 26 < (b_and (Q x3) 31) →
f_L_law_u1188 Q (f_L_law_u18 Q K177 K240 K263 K296 K309 K322 K346 K379 K413 K447 K480 K514 K578 K726 K790 K833 K866 K909 K932 K975 K1008 K1051 K1074 K1097 K1140 K1163 K1186 K1194 L N) L σ x3))
def f_L_law_u177 (Q : Int → Int) (L : Int) (σ : ml_St) : Prop :=
False
def f_L_law_u240 (Q : Int → Int) (L : Int) (σ : ml_St) : Prop :=
False
def f_L_law_u263 (Q : Int → Int) (L : Int) (σ : ml_St) : Prop :=
False
def f_L_law_u296 (Q : Int → Int) (L : Int) (σ : ml_St) : Prop :=
False
def f_L_law_u309 (Q : Int → Int) (L : Int) (σ : ml_St) : Prop :=
False
def f_L_law_u322 (Q : Int → Int) (L : Int) (σ : ml_St) : Prop :=
False
def f_L_law_u346 (Q : Int → Int) (L : Int) (σ : ml_St) : Prop :=
False
def f_L_law_u379 (Q : Int → Int) (L : Int) (σ : ml_St) : Prop :=
False
def f_L_law_u413 (Q : Int → Int) (L : Int) (σ : ml_St) : Prop :=
False
def f_L_law_u447 (Q : Int → Int) (L : Int) (σ : ml_St) : Prop :=
False
def f_L_law_u480 (Q : Int → Int) (L : Int) (σ : ml_St) : Prop :=
False
def f_L_law_u514 (Q : Int → Int) (L : Int) (σ : ml_St) : Prop :=
False
def f_L_law_u578 (Q : Int → Int) (L : Int) (σ : ml_St) : Prop :=
False
def f_L_law_u726 (Q : Int → Int) (L : Int) (σ : ml_St) : Prop :=
False
def f_L_law_u790 (Q : Int → Int) (L : Int) (σ : ml_St) : Prop :=
False
def f_L_law_u833 (Q : Int → Int) (L : Int) (σ : ml_St) : Prop :=
False
def f_L_law_u866 (Q : Int → Int) (L : Int) (σ : ml_St) : Prop :=
False
def f_L_law_u909 (Q : Int → Int) (L : Int) (σ : ml_St) : Prop :=
False
def f_L_law_u932 (Q : Int → Int) (L : Int) (σ : ml_St) : Prop :=
False
def f_L_law_u975 (Q : Int → Int) (L : Int) (σ : ml_St) : Prop :=
False
def f_L_law_u1008 (Q : Int → Int) (L : Int) (σ : ml_St) : Prop :=
False
def f_L_law_u1051 (Q : Int → Int) (L : Int) (σ : ml_St) : Prop :=
False
def f_L_law_u1074 (Q : Int → Int) (L : Int) (σ : ml_St) : Prop :=
False
def f_L_law_u1097 (Q : Int → Int) (L : Int) (σ : ml_St) : Prop :=
False
def f_L_law_u1140 (Q : Int → Int) (L : Int) (σ : ml_St) : Prop :=
False
def f_L_law_u1163 (Q : Int → Int) (L : Int) (σ : ml_St) : Prop :=
False
def f_L_law_u1186 (Q : Int → Int) (L : Int) (σ : ml_St) : Prop :=
False
def f_L_law_u1194 (Q : Int → Int) (L : Int) (σ : ml_St) : Prop :=
True
def f_L_law_u0 (Q : Int → Int) (L : Int) (σ : ml_St) : Prop :=
(∀ j : Int, σ 1 j = 0) ∧
f_X11_init σ (fun σ2 =>
(∀ j : Int, σ2 215 j = 0) ∧
f_X12_init σ2 (fun σ4 =>
ml_RO 256 σ4 ∧
∃ N1, f_L_law_u18 Q (f_L_law_u177 Q L) (f_L_law_u240 Q L) (f_L_law_u263 Q L) (f_L_law_u296 Q L) (f_L_law_u309 Q L) (f_L_law_u322 Q L) (f_L_law_u346 Q L) (f_L_law_u379 Q L) (f_L_law_u413 Q L) (f_L_law_u447 Q L) (f_L_law_u480 Q L) (f_L_law_u514 Q L) (f_L_law_u578 Q L) (f_L_law_u726 Q L) (f_L_law_u790 Q L) (f_L_law_u833 Q L) (f_L_law_u866 Q L) (f_L_law_u909 Q L) (f_L_law_u932 Q L) (f_L_law_u975 Q L) (f_L_law_u1008 Q L) (f_L_law_u1051 Q L) (f_L_law_u1074 Q L) (f_L_law_u1097 Q L) (f_L_law_u1140 Q L) (f_L_law_u1163 Q L) (f_L_law_u1186 Q L) (f_L_law_u1194 Q L) L N1 σ4 0))
set_option maxRecDepth 100000 in
set_option maxHeartbeats 8000000 in
theorem u_L_law_1188 {p : Program} {e : Env} {s : State} {m : MethodId} {below : List Frame} {meth : Method} {c : Code} {base : Nat} {D : va_G} {cA : Nat → ClassId} {l : Launch} {b : Nat} {L : Int} {xs : Nat → Int32} {Q : Int → Int} {K18 : ml_St → Int → Prop} (X : ml_X p s m c meth #[Value.ref b] D cA cL_law 4 RL ret) (hn : lw_S s base b L xs Q) (hK18 : ∀ (σ : ml_St) (x3 : Int) (h_x3 : I32 x3) (ls : Array Slot), lv_has ls 4 [(0, .ref b), (1, .ref (base + (1 : Int).toNat)), (2, .ref (base + (215 : Int).toNat)), (3, .int (Int32.ofInt x3))] → K18 σ x3 → ml_V p l e room_1 s m #[Value.ref b] below meth c (lw_Z below #[Value.ref b] s) base D cA 256 163205 256 (256) σ (F0 m 18 ls [])) (σ : ml_St) (x3 : Int) (h_x3 : I32 x3) (ls : Array Slot) (hl : lv_has ls 4 [(0, .ref b), (1, .ref (base + (1 : Int).toNat)), (2, .ref (base + (215 : Int).toNat)), (3, .int (Int32.ofInt x3))]) (hw : f_L_law_u1188 Q K18 L σ x3) : ml_V p l e room_1 s m #[Value.ref b] below meth c (lw_Z below #[Value.ref b] s) base D cA 256 163205 256 (256) σ (F0 m 1188 ls []) := by
  unfold f_L_law_u1188 at hw
  obtain ⟨v1, hw⟩ := hw
  obtain ⟨y1, e1⟩ : ∃ y : Int, y = x3 + 8 := ⟨_, rfl⟩
  have hw := hw y1 e1
  rw [← e1] at v1
  refine ml_iinc (pc := 1188) X e1 hl 3 rfl (by decide) (lst' := [(3, .int (Int32.ofInt y1)), (0, .ref b), (1, .ref (base + (1 : Int).toNat)), (2, .ref (base + (215 : Int).toNat))]) rfl dL_law_1188 (fun ls hl => ?_)
  refine ml_goto (pc := 1191) (tgt := 18) X dL_law_1191 (by decide) ?_
  exact hK18 σ y1 v1 _ (lv_sub hl [1, 2, 3, 0] rfl) hw
set_option maxRecDepth 100000 in
set_option maxHeartbeats 8000000 in
theorem u_L_law_18 {p : Program} {e : Env} {s : State} {m : MethodId} {below : List Frame} {meth : Method} {c : Code} {base : Nat} {D : va_G} {cA : Nat → ClassId} {l : Launch} {b : Nat} {L : Int} {xs : Nat → Int32} {Q : Int → Int} {K177 : ml_St → Prop} {K240 : ml_St → Prop} {K263 : ml_St → Prop} {K296 : ml_St → Prop} {K309 : ml_St → Prop} {K322 : ml_St → Prop} {K346 : ml_St → Prop} {K379 : ml_St → Prop} {K413 : ml_St → Prop} {K447 : ml_St → Prop} {K480 : ml_St → Prop} {K514 : ml_St → Prop} {K578 : ml_St → Prop} {K726 : ml_St → Prop} {K790 : ml_St → Prop} {K833 : ml_St → Prop} {K866 : ml_St → Prop} {K909 : ml_St → Prop} {K932 : ml_St → Prop} {K975 : ml_St → Prop} {K1008 : ml_St → Prop} {K1051 : ml_St → Prop} {K1074 : ml_St → Prop} {K1097 : ml_St → Prop} {K1140 : ml_St → Prop} {K1163 : ml_St → Prop} {K1186 : ml_St → Prop} {K1194 : ml_St → Prop} (X : ml_X p s m c meth #[Value.ref b] D cA cL_law 4 RL ret) (hn : lw_S s base b L xs Q) (hK177 : ∀ (σ : ml_St) (ls : Array Slot), lv_has ls 4 [] → K177 σ → ml_V p l e room_1 s m #[Value.ref b] below meth c (lw_Z below #[Value.ref b] s) base D cA 256 163205 256 (256) σ (F0 m 177 ls [])) (hK240 : ∀ (σ : ml_St) (ls : Array Slot), lv_has ls 4 [] → K240 σ → ml_V p l e room_1 s m #[Value.ref b] below meth c (lw_Z below #[Value.ref b] s) base D cA 256 163205 256 (256) σ (F0 m 240 ls [])) (hK263 : ∀ (σ : ml_St) (ls : Array Slot), lv_has ls 4 [] → K263 σ → ml_V p l e room_1 s m #[Value.ref b] below meth c (lw_Z below #[Value.ref b] s) base D cA 256 163205 256 (256) σ (F0 m 263 ls [])) (hK296 : ∀ (σ : ml_St) (ls : Array Slot), lv_has ls 4 [] → K296 σ → ml_V p l e room_1 s m #[Value.ref b] below meth c (lw_Z below #[Value.ref b] s) base D cA 256 163205 256 (256) σ (F0 m 296 ls [])) (hK309 : ∀ (σ : ml_St) (ls : Array Slot), lv_has ls 4 [] → K309 σ → ml_V p l e room_1 s m #[Value.ref b] below meth c (lw_Z below #[Value.ref b] s) base D cA 256 163205 256 (256) σ (F0 m 309 ls [])) (hK322 : ∀ (σ : ml_St) (ls : Array Slot), lv_has ls 4 [] → K322 σ → ml_V p l e room_1 s m #[Value.ref b] below meth c (lw_Z below #[Value.ref b] s) base D cA 256 163205 256 (256) σ (F0 m 322 ls [])) (hK346 : ∀ (σ : ml_St) (ls : Array Slot), lv_has ls 4 [] → K346 σ → ml_V p l e room_1 s m #[Value.ref b] below meth c (lw_Z below #[Value.ref b] s) base D cA 256 163205 256 (256) σ (F0 m 346 ls [])) (hK379 : ∀ (σ : ml_St) (ls : Array Slot), lv_has ls 4 [] → K379 σ → ml_V p l e room_1 s m #[Value.ref b] below meth c (lw_Z below #[Value.ref b] s) base D cA 256 163205 256 (256) σ (F0 m 379 ls [])) (hK413 : ∀ (σ : ml_St) (ls : Array Slot), lv_has ls 4 [] → K413 σ → ml_V p l e room_1 s m #[Value.ref b] below meth c (lw_Z below #[Value.ref b] s) base D cA 256 163205 256 (256) σ (F0 m 413 ls [])) (hK447 : ∀ (σ : ml_St) (ls : Array Slot), lv_has ls 4 [] → K447 σ → ml_V p l e room_1 s m #[Value.ref b] below meth c (lw_Z below #[Value.ref b] s) base D cA 256 163205 256 (256) σ (F0 m 447 ls [])) (hK480 : ∀ (σ : ml_St) (ls : Array Slot), lv_has ls 4 [] → K480 σ → ml_V p l e room_1 s m #[Value.ref b] below meth c (lw_Z below #[Value.ref b] s) base D cA 256 163205 256 (256) σ (F0 m 480 ls [])) (hK514 : ∀ (σ : ml_St) (ls : Array Slot), lv_has ls 4 [] → K514 σ → ml_V p l e room_1 s m #[Value.ref b] below meth c (lw_Z below #[Value.ref b] s) base D cA 256 163205 256 (256) σ (F0 m 514 ls [])) (hK578 : ∀ (σ : ml_St) (ls : Array Slot), lv_has ls 4 [] → K578 σ → ml_V p l e room_1 s m #[Value.ref b] below meth c (lw_Z below #[Value.ref b] s) base D cA 256 163205 256 (256) σ (F0 m 578 ls [])) (hK726 : ∀ (σ : ml_St) (ls : Array Slot), lv_has ls 4 [] → K726 σ → ml_V p l e room_1 s m #[Value.ref b] below meth c (lw_Z below #[Value.ref b] s) base D cA 256 163205 256 (256) σ (F0 m 726 ls [])) (hK790 : ∀ (σ : ml_St) (ls : Array Slot), lv_has ls 4 [] → K790 σ → ml_V p l e room_1 s m #[Value.ref b] below meth c (lw_Z below #[Value.ref b] s) base D cA 256 163205 256 (256) σ (F0 m 790 ls [])) (hK833 : ∀ (σ : ml_St) (ls : Array Slot), lv_has ls 4 [] → K833 σ → ml_V p l e room_1 s m #[Value.ref b] below meth c (lw_Z below #[Value.ref b] s) base D cA 256 163205 256 (256) σ (F0 m 833 ls [])) (hK866 : ∀ (σ : ml_St) (ls : Array Slot), lv_has ls 4 [] → K866 σ → ml_V p l e room_1 s m #[Value.ref b] below meth c (lw_Z below #[Value.ref b] s) base D cA 256 163205 256 (256) σ (F0 m 866 ls [])) (hK909 : ∀ (σ : ml_St) (ls : Array Slot), lv_has ls 4 [] → K909 σ → ml_V p l e room_1 s m #[Value.ref b] below meth c (lw_Z below #[Value.ref b] s) base D cA 256 163205 256 (256) σ (F0 m 909 ls [])) (hK932 : ∀ (σ : ml_St) (ls : Array Slot), lv_has ls 4 [] → K932 σ → ml_V p l e room_1 s m #[Value.ref b] below meth c (lw_Z below #[Value.ref b] s) base D cA 256 163205 256 (256) σ (F0 m 932 ls [])) (hK975 : ∀ (σ : ml_St) (ls : Array Slot), lv_has ls 4 [] → K975 σ → ml_V p l e room_1 s m #[Value.ref b] below meth c (lw_Z below #[Value.ref b] s) base D cA 256 163205 256 (256) σ (F0 m 975 ls [])) (hK1008 : ∀ (σ : ml_St) (ls : Array Slot), lv_has ls 4 [] → K1008 σ → ml_V p l e room_1 s m #[Value.ref b] below meth c (lw_Z below #[Value.ref b] s) base D cA 256 163205 256 (256) σ (F0 m 1008 ls [])) (hK1051 : ∀ (σ : ml_St) (ls : Array Slot), lv_has ls 4 [] → K1051 σ → ml_V p l e room_1 s m #[Value.ref b] below meth c (lw_Z below #[Value.ref b] s) base D cA 256 163205 256 (256) σ (F0 m 1051 ls [])) (hK1074 : ∀ (σ : ml_St) (ls : Array Slot), lv_has ls 4 [] → K1074 σ → ml_V p l e room_1 s m #[Value.ref b] below meth c (lw_Z below #[Value.ref b] s) base D cA 256 163205 256 (256) σ (F0 m 1074 ls [])) (hK1097 : ∀ (σ : ml_St) (ls : Array Slot), lv_has ls 4 [] → K1097 σ → ml_V p l e room_1 s m #[Value.ref b] below meth c (lw_Z below #[Value.ref b] s) base D cA 256 163205 256 (256) σ (F0 m 1097 ls [])) (hK1140 : ∀ (σ : ml_St) (ls : Array Slot), lv_has ls 4 [] → K1140 σ → ml_V p l e room_1 s m #[Value.ref b] below meth c (lw_Z below #[Value.ref b] s) base D cA 256 163205 256 (256) σ (F0 m 1140 ls [])) (hK1163 : ∀ (σ : ml_St) (ls : Array Slot), lv_has ls 4 [] → K1163 σ → ml_V p l e room_1 s m #[Value.ref b] below meth c (lw_Z below #[Value.ref b] s) base D cA 256 163205 256 (256) σ (F0 m 1163 ls [])) (hK1186 : ∀ (σ : ml_St) (ls : Array Slot), lv_has ls 4 [] → K1186 σ → ml_V p l e room_1 s m #[Value.ref b] below meth c (lw_Z below #[Value.ref b] s) base D cA 256 163205 256 (256) σ (F0 m 1186 ls [])) (hK1194 : ∀ (σ : ml_St) (ls : Array Slot), lv_has ls 4 [] → K1194 σ → ml_V p l e room_1 s m #[Value.ref b] below meth c (lw_Z below #[Value.ref b] s) base D cA 256 163205 256 (256) σ (F0 m 1194 ls [])) : ∀ (N : Nat) (σ : ml_St) (x3 : Int) (h_x3 : I32 x3) (ls : Array Slot), lv_has ls 4 [(0, .ref b), (1, .ref (base + (1 : Int).toNat)), (2, .ref (base + (215 : Int).toNat)), (3, .int (Int32.ofInt x3))] → f_L_law_u18 Q K177 K240 K263 K296 K309 K322 K346 K379 K413 K447 K480 K514 K578 K726 K790 K833 K866 K909 K932 K975 K1008 K1051 K1074 K1097 K1140 K1163 K1186 K1194 L N σ x3 → ml_V p l e room_1 s m #[Value.ref b] below meth c (lw_Z below #[Value.ref b] s) base D cA 256 163205 256 (256) σ (F0 m 18 ls []) := by
  intro N
  induction N with
  | zero => intro σ x3 h_x3 ls hl hw; exact False.elim hw
  | succ N ih =>
    intro σ x3 h_x3 ls hl hw
    unfold f_L_law_u18 at hw
    refine ml_iload_n (pc := 18) X hl 3 rfl rfl dL_law_18 ?_
    refine ml_aload_n (pc := 19) X hl 0 rfl rfl dL_law_19 ?_
    refine ml_slen (pc := 20) X hn dL_law_20 ?_
    refine ml_bipush (pc := 21) X dL_law_21 (by decide) ?_
    obtain ⟨v1, hw⟩ := hw
    refine ml_isub (pc := 23) X dL_law_23 ?_
    refine ml_icmp_gt (pc := 24) (tgt := 1194) X h_x3 v1 dL_law_24 (by decide) (fun c2 => ?_) (fun c2 => ?_)
    · have hw := hw.1 c2
      exact hK1194 σ   _ (lv_sub hl [] rfl) hw
    · have hw := hw.2 c2
      refine ml_aload_n (pc := 27) X hl 0 rfl rfl dL_law_27 ?_
      refine ml_iload_n (pc := 28) X hl 3 rfl rfl dL_law_28 ?_
      obtain ⟨a3, b3, hw⟩ := hw
      refine ml_sld (pc := 29) (i := x3) X hn a3 b3 dL_law_29 ?_
      refine ml_bipush (pc := 30) X dL_law_30 (by decide) ?_
      refine ml_iand (pc := 32) X dL_law_32 ?_
      rcases (show (b_and (Q x3) 31) = 0 ∨ (b_and (Q x3) 31) = 1 ∨ (b_and (Q x3) 31) = 2 ∨ (b_and (Q x3) 31) = 3 ∨ (b_and (Q x3) 31) = 4 ∨ (b_and (Q x3) 31) = 5 ∨ (b_and (Q x3) 31) = 6 ∨ (b_and (Q x3) 31) = 7 ∨ (b_and (Q x3) 31) = 8 ∨ (b_and (Q x3) 31) = 9 ∨ (b_and (Q x3) 31) = 10 ∨ (b_and (Q x3) 31) = 11 ∨ (b_and (Q x3) 31) = 12 ∨ (b_and (Q x3) 31) = 13 ∨ (b_and (Q x3) 31) = 14 ∨ (b_and (Q x3) 31) = 15 ∨ (b_and (Q x3) 31) = 16 ∨ (b_and (Q x3) 31) = 17 ∨ (b_and (Q x3) 31) = 18 ∨ (b_and (Q x3) 31) = 19 ∨ (b_and (Q x3) 31) = 20 ∨ (b_and (Q x3) 31) = 21 ∨ (b_and (Q x3) 31) = 22 ∨ (b_and (Q x3) 31) = 23 ∨ (b_and (Q x3) 31) = 24 ∨ (b_and (Q x3) 31) = 25 ∨ (b_and (Q x3) 31) = 26 ∨ ((b_and (Q x3) 31) < 0 ∨ 26 < (b_and (Q x3) 31)) by omega) with c4 | c4 | c4 | c4 | c4 | c4 | c4 | c4 | c4 | c4 | c4 | c4 | c4 | c4 | c4 | c4 | c4 | c4 | c4 | c4 | c4 | c4 | c4 | c4 | c4 | c4 | c4 | c4
      · have hw := hw.1 c4
        refine ml_tIn (pc := 33) (off := 123) (tgt := 156) X c4 dL_law_33 (by decide) (by decide) (by decide +kernel) (by decide) ?_
        refine ml_aload_n (pc := 156) X hl 1 rfl rfl dL_law_156 ?_
        refine ml_aload_n (pc := 157) X hl 0 rfl rfl dL_law_157 ?_
        refine ml_iload_n (pc := 158) X hl 3 rfl rfl dL_law_158 ?_
        refine ml_iconst (pc := 159) X dL_law_159 ?_
        obtain ⟨v5, hw⟩ := hw
        refine ml_iadd (pc := 160) X dL_law_160 ?_
        obtain ⟨a6, b6, hw⟩ := hw
        refine ml_sld (pc := 161) (i := x3 + 1) X hn a6 b6 dL_law_161 ?_
        refine ml_callzV (pc := 162) (rest := []) X [.int (Int32.ofInt (Q (x3 + 1)))] (by decide) rfl (ml_k1 (by decide)) (c_X11_rails l base D cA 256 (by decide) σ (Q (x3 + 1)) (hn.2.2.2.2.2.1 _) _ hw) cv_L_13 ⟨rfl, rfl⟩ ⟨by decide, by decide⟩ rfl rfl hl (Nat.le_of_ble_eq_true rfl) ⟨by decide, by decide⟩ dL_law_162 (fun r7 σ7 t7 hw => ?_)
        have hw := hw t7
        refine ml_aload_n (pc := 165) X hl 2 rfl rfl dL_law_165 ?_
        refine ml_aload_n (pc := 166) X hl 0 rfl rfl dL_law_166 ?_
        refine ml_iload_n (pc := 167) X hl 3 rfl rfl dL_law_167 ?_
        refine ml_iconst (pc := 168) X dL_law_168 ?_
        obtain ⟨v8, hw⟩ := hw
        refine ml_iadd (pc := 169) X dL_law_169 ?_
        obtain ⟨a9, b9, hw⟩ := hw
        refine ml_sld (pc := 170) (i := x3 + 1) X hn a9 b9 dL_law_170 ?_
        refine ml_callzV (pc := 171) (rest := [.int (Int32.ofInt r7)]) X [.int (Int32.ofInt (Q (x3 + 1)))] (by decide) rfl (ml_k215 (by decide)) (c_X12_rails l base D cA 256 (by decide) σ7 (Q (x3 + 1)) (hn.2.2.2.2.2.1 _) _ hw) cv_L_17 ⟨rfl, rfl⟩ ⟨by decide, by decide⟩ rfl rfl hl (Nat.le_of_ble_eq_true rfl) ⟨by decide, by decide⟩ dL_law_171 (fun r10 σ10 t10 hw => ?_)
        have hw := hw t10
        refine ml_icmp_eq (pc := 174) (tgt := 1188) X t7.i t10.i dL_law_174 (by decide) (fun c11 => ?_) (fun c11 => ?_)
        · have hw := hw.1 c11
          exact u_L_law_1188 X hn ih σ10 x3 h_x3 _ (lv_sub hl [0, 1, 2, 3] rfl) hw
        · have hw := hw.2 c11
          exact hK177 σ10   _ (lv_sub hl [] rfl) hw
      · have hw := hw.2.1 c4
        refine ml_tIn (pc := 33) (off := 146) (tgt := 179) X c4 dL_law_33 (by decide) (by decide) (by decide +kernel) (by decide) ?_
        refine ml_aload_n (pc := 179) X hl 1 rfl rfl dL_law_179 ?_
        refine ml_aload_n (pc := 180) X hl 0 rfl rfl dL_law_180 ?_
        refine ml_iload_n (pc := 181) X hl 3 rfl rfl dL_law_181 ?_
        refine ml_iconst (pc := 182) X dL_law_182 ?_
        obtain ⟨v12, hw⟩ := hw
        refine ml_iadd (pc := 183) X dL_law_183 ?_
        obtain ⟨a13, b13, hw⟩ := hw
        refine ml_sld (pc := 184) (i := x3 + 1) X hn a13 b13 dL_law_184 ?_
        refine ml_aload_n (pc := 185) X hl 0 rfl rfl dL_law_185 ?_
        refine ml_iload_n (pc := 186) X hl 3 rfl rfl dL_law_186 ?_
        refine ml_iconst (pc := 187) X dL_law_187 ?_
        obtain ⟨v14, hw⟩ := hw
        refine ml_iadd (pc := 188) X dL_law_188 ?_
        obtain ⟨a15, b15, hw⟩ := hw
        refine ml_sld (pc := 189) (i := x3 + 2) X hn a15 b15 dL_law_189 ?_
        refine ml_aload_n (pc := 190) X hl 0 rfl rfl dL_law_190 ?_
        refine ml_iload_n (pc := 191) X hl 3 rfl rfl dL_law_191 ?_
        refine ml_iconst (pc := 192) X dL_law_192 ?_
        obtain ⟨v16, hw⟩ := hw
        refine ml_iadd (pc := 193) X dL_law_193 ?_
        obtain ⟨a17, b17, hw⟩ := hw
        refine ml_sld (pc := 194) (i := x3 + 3) X hn a17 b17 dL_law_194 ?_
        refine ml_aload_n (pc := 195) X hl 0 rfl rfl dL_law_195 ?_
        refine ml_iload_n (pc := 196) X hl 3 rfl rfl dL_law_196 ?_
        refine ml_iconst (pc := 197) X dL_law_197 ?_
        obtain ⟨v18, hw⟩ := hw
        refine ml_iadd (pc := 198) X dL_law_198 ?_
        obtain ⟨a19, b19, hw⟩ := hw
        refine ml_sld (pc := 199) (i := x3 + 4) X hn a19 b19 dL_law_199 ?_
        refine ml_aload_n (pc := 200) X hl 0 rfl rfl dL_law_200 ?_
        refine ml_iload_n (pc := 201) X hl 3 rfl rfl dL_law_201 ?_
        refine ml_iconst (pc := 202) X dL_law_202 ?_
        obtain ⟨v20, hw⟩ := hw
        refine ml_iadd (pc := 203) X dL_law_203 ?_
        obtain ⟨a21, b21, hw⟩ := hw
        refine ml_sld (pc := 204) (i := x3 + 5) X hn a21 b21 dL_law_204 ?_
        refine ml_calliV (pc := 205) (rest := []) X [.int (Int32.ofInt (Q (x3 + 1))), .int (Int32.ofInt (Q (x3 + 2))), .int (Int32.ofInt (Q (x3 + 3))), .int (Int32.ofInt (Q (x3 + 4))), .int (Int32.ofInt (Q (x3 + 5)))] (by decide) rfl (ml_k1 (by decide)) (c_X11_feed l base D cA 256 (by decide) σ (Q (x3 + 1)) (Q (x3 + 2)) (Q (x3 + 3)) (Q (x3 + 4)) (Q (x3 + 5)) (hn.2.2.2.2.2.1 _) (hn.2.2.2.2.2.1 _) (hn.2.2.2.2.2.1 _) (hn.2.2.2.2.2.1 _) (hn.2.2.2.2.2.1 _) _ hw) cv_L_18 ⟨rfl, rfl⟩ ⟨by decide, by decide⟩ rfl rfl hl (Nat.le_of_ble_eq_true rfl) ⟨by decide, by decide⟩ dL_law_205 (fun r22 σ22 t22 hw => ?_)
        have hw := hw t22
        refine ml_aload_n (pc := 208) X hl 2 rfl rfl dL_law_208 ?_
        refine ml_aload_n (pc := 209) X hl 0 rfl rfl dL_law_209 ?_
        refine ml_iload_n (pc := 210) X hl 3 rfl rfl dL_law_210 ?_
        refine ml_iconst (pc := 211) X dL_law_211 ?_
        obtain ⟨v23, hw⟩ := hw
        refine ml_iadd (pc := 212) X dL_law_212 ?_
        obtain ⟨a24, b24, hw⟩ := hw
        refine ml_sld (pc := 213) (i := x3 + 1) X hn a24 b24 dL_law_213 ?_
        refine ml_aload_n (pc := 214) X hl 0 rfl rfl dL_law_214 ?_
        refine ml_iload_n (pc := 215) X hl 3 rfl rfl dL_law_215 ?_
        refine ml_iconst (pc := 216) X dL_law_216 ?_
        obtain ⟨v25, hw⟩ := hw
        refine ml_iadd (pc := 217) X dL_law_217 ?_
        obtain ⟨a26, b26, hw⟩ := hw
        refine ml_sld (pc := 218) (i := x3 + 2) X hn a26 b26 dL_law_218 ?_
        refine ml_aload_n (pc := 219) X hl 0 rfl rfl dL_law_219 ?_
        refine ml_iload_n (pc := 220) X hl 3 rfl rfl dL_law_220 ?_
        refine ml_iconst (pc := 221) X dL_law_221 ?_
        obtain ⟨v27, hw⟩ := hw
        refine ml_iadd (pc := 222) X dL_law_222 ?_
        obtain ⟨a28, b28, hw⟩ := hw
        refine ml_sld (pc := 223) (i := x3 + 3) X hn a28 b28 dL_law_223 ?_
        refine ml_aload_n (pc := 224) X hl 0 rfl rfl dL_law_224 ?_
        refine ml_iload_n (pc := 225) X hl 3 rfl rfl dL_law_225 ?_
        refine ml_iconst (pc := 226) X dL_law_226 ?_
        obtain ⟨v29, hw⟩ := hw
        refine ml_iadd (pc := 227) X dL_law_227 ?_
        obtain ⟨a30, b30, hw⟩ := hw
        refine ml_sld (pc := 228) (i := x3 + 4) X hn a30 b30 dL_law_228 ?_
        refine ml_aload_n (pc := 229) X hl 0 rfl rfl dL_law_229 ?_
        refine ml_iload_n (pc := 230) X hl 3 rfl rfl dL_law_230 ?_
        refine ml_iconst (pc := 231) X dL_law_231 ?_
        obtain ⟨v31, hw⟩ := hw
        refine ml_iadd (pc := 232) X dL_law_232 ?_
        obtain ⟨a32, b32, hw⟩ := hw
        refine ml_sld (pc := 233) (i := x3 + 5) X hn a32 b32 dL_law_233 ?_
        refine ml_calliV (pc := 234) (rest := [.int (Int32.ofInt r22)]) X [.int (Int32.ofInt (Q (x3 + 1))), .int (Int32.ofInt (Q (x3 + 2))), .int (Int32.ofInt (Q (x3 + 3))), .int (Int32.ofInt (Q (x3 + 4))), .int (Int32.ofInt (Q (x3 + 5)))] (by decide) rfl (ml_k215 (by decide)) (c_X12_feed l base D cA 256 (by decide) σ22 (Q (x3 + 1)) (Q (x3 + 2)) (Q (x3 + 3)) (Q (x3 + 4)) (Q (x3 + 5)) (hn.2.2.2.2.2.1 _) (hn.2.2.2.2.2.1 _) (hn.2.2.2.2.2.1 _) (hn.2.2.2.2.2.1 _) (hn.2.2.2.2.2.1 _) _ hw) cv_L_22 ⟨rfl, rfl⟩ ⟨by decide, by decide⟩ rfl rfl hl (Nat.le_of_ble_eq_true rfl) ⟨by decide, by decide⟩ dL_law_234 (fun r33 σ33 t33 hw => ?_)
        have hw := hw t33
        refine ml_icmp_eq (pc := 237) (tgt := 1188) X t22 t33 dL_law_237 (by decide) (fun c34 => ?_) (fun c34 => ?_)
        · have hw := hw.1 c34
          exact u_L_law_1188 X hn ih σ33 x3 h_x3 _ (lv_sub hl [0, 1, 2, 3] rfl) hw
        · have hw := hw.2 c34
          exact hK240 σ33   _ (lv_sub hl [] rfl) hw
      · have hw := hw.2.2.1 c4
        refine ml_tIn (pc := 33) (off := 209) (tgt := 242) X c4 dL_law_33 (by decide) (by decide) (by decide +kernel) (by decide) ?_
        refine ml_aload_n (pc := 242) X hl 1 rfl rfl dL_law_242 ?_
        refine ml_aload_n (pc := 243) X hl 0 rfl rfl dL_law_243 ?_
        refine ml_iload_n (pc := 244) X hl 3 rfl rfl dL_law_244 ?_
        refine ml_iconst (pc := 245) X dL_law_245 ?_
        obtain ⟨v35, hw⟩ := hw
        refine ml_iadd (pc := 246) X dL_law_246 ?_
        obtain ⟨a36, b36, hw⟩ := hw
        refine ml_sld (pc := 247) (i := x3 + 1) X hn a36 b36 dL_law_247 ?_
        refine ml_calliV (pc := 248) (rest := []) X [.int (Int32.ofInt (Q (x3 + 1)))] (by decide) rfl (ml_k1 (by decide)) (c_X11_word l base D cA 256 (by decide) σ (Q (x3 + 1)) (hn.2.2.2.2.2.1 _) _ hw) cv_L_23 ⟨rfl, rfl⟩ ⟨by decide, by decide⟩ rfl rfl hl (Nat.le_of_ble_eq_true rfl) ⟨by decide, by decide⟩ dL_law_248 (fun r37 σ37 t37 hw => ?_)
        have hw := hw t37
        refine ml_aload_n (pc := 251) X hl 2 rfl rfl dL_law_251 ?_
        refine ml_aload_n (pc := 252) X hl 0 rfl rfl dL_law_252 ?_
        refine ml_iload_n (pc := 253) X hl 3 rfl rfl dL_law_253 ?_
        refine ml_iconst (pc := 254) X dL_law_254 ?_
        obtain ⟨v38, hw⟩ := hw
        refine ml_iadd (pc := 255) X dL_law_255 ?_
        obtain ⟨a39, b39, hw⟩ := hw
        refine ml_sld (pc := 256) (i := x3 + 1) X hn a39 b39 dL_law_256 ?_
        refine ml_calliV (pc := 257) (rest := [.int (Int32.ofInt r37)]) X [.int (Int32.ofInt (Q (x3 + 1)))] (by decide) rfl (ml_k215 (by decide)) (c_X12_word l base D cA 256 (by decide) σ37 (Q (x3 + 1)) (hn.2.2.2.2.2.1 _) _ hw) cv_L_27 ⟨rfl, rfl⟩ ⟨by decide, by decide⟩ rfl rfl hl (Nat.le_of_ble_eq_true rfl) ⟨by decide, by decide⟩ dL_law_257 (fun r40 σ40 t40 hw => ?_)
        have hw := hw t40
        refine ml_icmp_eq (pc := 260) (tgt := 1188) X t37 t40 dL_law_260 (by decide) (fun c41 => ?_) (fun c41 => ?_)
        · have hw := hw.1 c41
          exact u_L_law_1188 X hn ih σ40 x3 h_x3 _ (lv_sub hl [0, 1, 2, 3] rfl) hw
        · have hw := hw.2 c41
          exact hK263 σ40   _ (lv_sub hl [] rfl) hw
      · have hw := hw.2.2.2.1 c4
        refine ml_tIn (pc := 33) (off := 232) (tgt := 265) X c4 dL_law_33 (by decide) (by decide) (by decide +kernel) (by decide) ?_
        refine ml_aload_n (pc := 265) X hl 1 rfl rfl dL_law_265 ?_
        refine ml_aload_n (pc := 266) X hl 0 rfl rfl dL_law_266 ?_
        refine ml_iload_n (pc := 267) X hl 3 rfl rfl dL_law_267 ?_
        refine ml_iconst (pc := 268) X dL_law_268 ?_
        obtain ⟨v42, hw⟩ := hw
        refine ml_iadd (pc := 269) X dL_law_269 ?_
        obtain ⟨a43, b43, hw⟩ := hw
        refine ml_sld (pc := 270) (i := x3 + 1) X hn a43 b43 dL_law_270 ?_
        refine ml_aload_n (pc := 271) X hl 0 rfl rfl dL_law_271 ?_
        refine ml_iload_n (pc := 272) X hl 3 rfl rfl dL_law_272 ?_
        refine ml_iconst (pc := 273) X dL_law_273 ?_
        obtain ⟨v44, hw⟩ := hw
        refine ml_iadd (pc := 274) X dL_law_274 ?_
        obtain ⟨a45, b45, hw⟩ := hw
        refine ml_sld (pc := 275) (i := x3 + 2) X hn a45 b45 dL_law_275 ?_
        refine ml_calliV (pc := 276) (rest := []) X [.int (Int32.ofInt (Q (x3 + 1))), .int (Int32.ofInt (Q (x3 + 2)))] (by decide) rfl (ml_k1 (by decide)) (c_X11_change l base D cA 256 (by decide) σ (Q (x3 + 1)) (Q (x3 + 2)) (hn.2.2.2.2.2.1 _) (hn.2.2.2.2.2.1 _) _ hw) cv_L_28 ⟨rfl, rfl⟩ ⟨by decide, by decide⟩ rfl rfl hl (Nat.le_of_ble_eq_true rfl) ⟨by decide, by decide⟩ dL_law_276 (fun r46 σ46 t46 hw => ?_)
        have hw := hw t46
        refine ml_aload_n (pc := 279) X hl 2 rfl rfl dL_law_279 ?_
        refine ml_aload_n (pc := 280) X hl 0 rfl rfl dL_law_280 ?_
        refine ml_iload_n (pc := 281) X hl 3 rfl rfl dL_law_281 ?_
        refine ml_iconst (pc := 282) X dL_law_282 ?_
        obtain ⟨v47, hw⟩ := hw
        refine ml_iadd (pc := 283) X dL_law_283 ?_
        obtain ⟨a48, b48, hw⟩ := hw
        refine ml_sld (pc := 284) (i := x3 + 1) X hn a48 b48 dL_law_284 ?_
        refine ml_aload_n (pc := 285) X hl 0 rfl rfl dL_law_285 ?_
        refine ml_iload_n (pc := 286) X hl 3 rfl rfl dL_law_286 ?_
        refine ml_iconst (pc := 287) X dL_law_287 ?_
        obtain ⟨v49, hw⟩ := hw
        refine ml_iadd (pc := 288) X dL_law_288 ?_
        obtain ⟨a50, b50, hw⟩ := hw
        refine ml_sld (pc := 289) (i := x3 + 2) X hn a50 b50 dL_law_289 ?_
        refine ml_calliV (pc := 290) (rest := [.int (Int32.ofInt r46)]) X [.int (Int32.ofInt (Q (x3 + 1))), .int (Int32.ofInt (Q (x3 + 2)))] (by decide) rfl (ml_k215 (by decide)) (c_X12_change l base D cA 256 (by decide) σ46 (Q (x3 + 1)) (Q (x3 + 2)) (hn.2.2.2.2.2.1 _) (hn.2.2.2.2.2.1 _) _ hw) cv_L_32 ⟨rfl, rfl⟩ ⟨by decide, by decide⟩ rfl rfl hl (Nat.le_of_ble_eq_true rfl) ⟨by decide, by decide⟩ dL_law_290 (fun r51 σ51 t51 hw => ?_)
        have hw := hw t51
        refine ml_icmp_eq (pc := 293) (tgt := 1188) X t46 t51 dL_law_293 (by decide) (fun c52 => ?_) (fun c52 => ?_)
        · have hw := hw.1 c52
          exact u_L_law_1188 X hn ih σ51 x3 h_x3 _ (lv_sub hl [0, 1, 2, 3] rfl) hw
        · have hw := hw.2 c52
          exact hK296 σ51   _ (lv_sub hl [] rfl) hw
      · have hw := hw.2.2.2.2.1 c4
        refine ml_tIn (pc := 33) (off := 265) (tgt := 298) X c4 dL_law_33 (by decide) (by decide) (by decide +kernel) (by decide) ?_
        refine ml_aload_n (pc := 298) X hl 1 rfl rfl dL_law_298 ?_
        refine ml_callzV (pc := 299) (rest := []) X [] (by decide) rfl (ml_k1 (by decide)) (c_X11_round l base D cA 256 (by decide) σ _ hw) cv_L_33 ⟨rfl, rfl⟩ ⟨by decide, by decide⟩ rfl rfl hl (Nat.le_of_ble_eq_true rfl) ⟨by decide, by decide⟩ dL_law_299 (fun r53 σ53 t53 hw => ?_)
        have hw := hw t53
        refine ml_aload_n (pc := 302) X hl 2 rfl rfl dL_law_302 ?_
        refine ml_callzV (pc := 303) (rest := [.int (Int32.ofInt r53)]) X [] (by decide) rfl (ml_k215 (by decide)) (c_X12_round l base D cA 256 (by decide) σ53 _ hw) cv_L_37 ⟨rfl, rfl⟩ ⟨by decide, by decide⟩ rfl rfl hl (Nat.le_of_ble_eq_true rfl) ⟨by decide, by decide⟩ dL_law_303 (fun r54 σ54 t54 hw => ?_)
        have hw := hw t54
        refine ml_icmp_eq (pc := 306) (tgt := 1188) X t53.i t54.i dL_law_306 (by decide) (fun c55 => ?_) (fun c55 => ?_)
        · have hw := hw.1 c55
          exact u_L_law_1188 X hn ih σ54 x3 h_x3 _ (lv_sub hl [0, 1, 2, 3] rfl) hw
        · have hw := hw.2 c55
          exact hK309 σ54   _ (lv_sub hl [] rfl) hw
      · have hw := hw.2.2.2.2.2.1 c4
        refine ml_tIn (pc := 33) (off := 278) (tgt := 311) X c4 dL_law_33 (by decide) (by decide) (by decide +kernel) (by decide) ?_
        refine ml_aload_n (pc := 311) X hl 1 rfl rfl dL_law_311 ?_
        refine ml_callzV (pc := 312) (rest := []) X [] (by decide) rfl (ml_k1 (by decide)) (c_X11_caps l base D cA 256 (by decide) σ _ hw) cv_L_38 ⟨rfl, rfl⟩ ⟨by decide, by decide⟩ rfl rfl hl (Nat.le_of_ble_eq_true rfl) ⟨by decide, by decide⟩ dL_law_312 (fun r56 σ56 t56 hw => ?_)
        have hw := hw t56
        refine ml_aload_n (pc := 315) X hl 2 rfl rfl dL_law_315 ?_
        refine ml_callzV (pc := 316) (rest := [.int (Int32.ofInt r56)]) X [] (by decide) rfl (ml_k215 (by decide)) (c_X12_caps l base D cA 256 (by decide) σ56 _ hw) cv_L_41 ⟨rfl, rfl⟩ ⟨by decide, by decide⟩ rfl rfl hl (Nat.le_of_ble_eq_true rfl) ⟨by decide, by decide⟩ dL_law_316 (fun r57 σ57 t57 hw => ?_)
        have hw := hw t57
        refine ml_icmp_eq (pc := 319) (tgt := 1188) X t56.i t57.i dL_law_319 (by decide) (fun c58 => ?_) (fun c58 => ?_)
        · have hw := hw.1 c58
          exact u_L_law_1188 X hn ih σ57 x3 h_x3 _ (lv_sub hl [0, 1, 2, 3] rfl) hw
        · have hw := hw.2 c58
          exact hK322 σ57   _ (lv_sub hl [] rfl) hw
      · have hw := hw.2.2.2.2.2.2.1 c4
        refine ml_tIn (pc := 33) (off := 291) (tgt := 324) X c4 dL_law_33 (by decide) (by decide) (by decide +kernel) (by decide) ?_
        refine ml_aload_n (pc := 324) X hl 1 rfl rfl dL_law_324 ?_
        refine ml_aload_n (pc := 325) X hl 0 rfl rfl dL_law_325 ?_
        refine ml_iload_n (pc := 326) X hl 3 rfl rfl dL_law_326 ?_
        refine ml_iconst (pc := 327) X dL_law_327 ?_
        obtain ⟨v59, hw⟩ := hw
        refine ml_iadd (pc := 328) X dL_law_328 ?_
        obtain ⟨a60, b60, hw⟩ := hw
        refine ml_sld (pc := 329) (i := x3 + 1) X hn a60 b60 dL_law_329 ?_
        refine ml_calllV (pc := 330) (rest := []) X [.int (Int32.ofInt (Q (x3 + 1)))] (by decide) rfl (ml_k1 (by decide)) (c_X11_signs l base D cA 256 (by decide) σ (Q (x3 + 1)) (hn.2.2.2.2.2.1 _) _ hw) cv_L_42 ⟨rfl, rfl⟩ ⟨by decide, by decide⟩ rfl rfl hl (Nat.le_of_ble_eq_true rfl) ⟨by decide, by decide⟩ dL_law_330 (fun r61 σ61 t61 hw => ?_)
        have hw := hw t61
        refine ml_aload_n (pc := 333) X hl 2 rfl rfl dL_law_333 ?_
        refine ml_aload_n (pc := 334) X hl 0 rfl rfl dL_law_334 ?_
        refine ml_iload_n (pc := 335) X hl 3 rfl rfl dL_law_335 ?_
        refine ml_iconst (pc := 336) X dL_law_336 ?_
        obtain ⟨v62, hw⟩ := hw
        refine ml_iadd (pc := 337) X dL_law_337 ?_
        obtain ⟨a63, b63, hw⟩ := hw
        refine ml_sld (pc := 338) (i := x3 + 1) X hn a63 b63 dL_law_338 ?_
        refine ml_calllV (pc := 339) (rest := [.long (Int64.ofInt r61)]) X [.int (Int32.ofInt (Q (x3 + 1)))] (by decide) rfl (ml_k215 (by decide)) (c_X12_signs l base D cA 256 (by decide) σ61 (Q (x3 + 1)) (hn.2.2.2.2.2.1 _) _ hw) cv_L_46 ⟨rfl, rfl⟩ ⟨by decide, by decide⟩ rfl rfl hl (Nat.le_of_ble_eq_true rfl) ⟨by decide, by decide⟩ dL_law_339 (fun r64 σ64 t64 hw => ?_)
        have hw := hw t64
        refine ml_lcmp_eq (pc := 342) (tgt := 1188) X t61 t64 dL_law_342 dL_law_343 (by decide) (fun c65 => ?_) (fun c65 => ?_)
        · have hw := hw.1 c65
          exact u_L_law_1188 X hn ih σ64 x3 h_x3 _ (lv_sub hl [0, 1, 2, 3] rfl) hw
        · have hw := hw.2 c65
          exact hK346 σ64   _ (lv_sub hl [] rfl) hw
      · have hw := hw.2.2.2.2.2.2.2.1 c4
        refine ml_tIn (pc := 33) (off := 315) (tgt := 348) X c4 dL_law_33 (by decide) (by decide) (by decide +kernel) (by decide) ?_
        refine ml_aload_n (pc := 348) X hl 1 rfl rfl dL_law_348 ?_
        refine ml_aload_n (pc := 349) X hl 0 rfl rfl dL_law_349 ?_
        refine ml_iload_n (pc := 350) X hl 3 rfl rfl dL_law_350 ?_
        refine ml_iconst (pc := 351) X dL_law_351 ?_
        obtain ⟨v66, hw⟩ := hw
        refine ml_iadd (pc := 352) X dL_law_352 ?_
        obtain ⟨a67, b67, hw⟩ := hw
        refine ml_sld (pc := 353) (i := x3 + 1) X hn a67 b67 dL_law_353 ?_
        refine ml_aload_n (pc := 354) X hl 0 rfl rfl dL_law_354 ?_
        refine ml_iload_n (pc := 355) X hl 3 rfl rfl dL_law_355 ?_
        refine ml_iconst (pc := 356) X dL_law_356 ?_
        obtain ⟨v68, hw⟩ := hw
        refine ml_iadd (pc := 357) X dL_law_357 ?_
        obtain ⟨a69, b69, hw⟩ := hw
        refine ml_sld (pc := 358) (i := x3 + 2) X hn a69 b69 dL_law_358 ?_
        refine ml_calliV (pc := 359) (rest := []) X [.int (Int32.ofInt (Q (x3 + 1))), .int (Int32.ofInt (Q (x3 + 2)))] (by decide) rfl (ml_k1 (by decide)) (c_X11_joined l base D cA 256 (by decide) σ (Q (x3 + 1)) (Q (x3 + 2)) (hn.2.2.2.2.2.1 _) (hn.2.2.2.2.2.1 _) _ hw) cv_L_47 ⟨rfl, rfl⟩ ⟨by decide, by decide⟩ rfl rfl hl (Nat.le_of_ble_eq_true rfl) ⟨by decide, by decide⟩ dL_law_359 (fun r70 σ70 t70 hw => ?_)
        have hw := hw t70
        refine ml_aload_n (pc := 362) X hl 2 rfl rfl dL_law_362 ?_
        refine ml_aload_n (pc := 363) X hl 0 rfl rfl dL_law_363 ?_
        refine ml_iload_n (pc := 364) X hl 3 rfl rfl dL_law_364 ?_
        refine ml_iconst (pc := 365) X dL_law_365 ?_
        obtain ⟨v71, hw⟩ := hw
        refine ml_iadd (pc := 366) X dL_law_366 ?_
        obtain ⟨a72, b72, hw⟩ := hw
        refine ml_sld (pc := 367) (i := x3 + 1) X hn a72 b72 dL_law_367 ?_
        refine ml_aload_n (pc := 368) X hl 0 rfl rfl dL_law_368 ?_
        refine ml_iload_n (pc := 369) X hl 3 rfl rfl dL_law_369 ?_
        refine ml_iconst (pc := 370) X dL_law_370 ?_
        obtain ⟨v73, hw⟩ := hw
        refine ml_iadd (pc := 371) X dL_law_371 ?_
        obtain ⟨a74, b74, hw⟩ := hw
        refine ml_sld (pc := 372) (i := x3 + 2) X hn a74 b74 dL_law_372 ?_
        refine ml_calliV (pc := 373) (rest := [.int (Int32.ofInt r70)]) X [.int (Int32.ofInt (Q (x3 + 1))), .int (Int32.ofInt (Q (x3 + 2)))] (by decide) rfl (ml_k215 (by decide)) (c_X12_joined l base D cA 256 (by decide) σ70 (Q (x3 + 1)) (Q (x3 + 2)) (hn.2.2.2.2.2.1 _) (hn.2.2.2.2.2.1 _) _ hw) cv_L_50 ⟨rfl, rfl⟩ ⟨by decide, by decide⟩ rfl rfl hl (Nat.le_of_ble_eq_true rfl) ⟨by decide, by decide⟩ dL_law_373 (fun r75 σ75 t75 hw => ?_)
        have hw := hw t75
        refine ml_icmp_eq (pc := 376) (tgt := 1188) X t70 t75 dL_law_376 (by decide) (fun c76 => ?_) (fun c76 => ?_)
        · have hw := hw.1 c76
          exact u_L_law_1188 X hn ih σ75 x3 h_x3 _ (lv_sub hl [0, 1, 2, 3] rfl) hw
        · have hw := hw.2 c76
          exact hK379 σ75   _ (lv_sub hl [] rfl) hw
      · have hw := hw.2.2.2.2.2.2.2.2.1 c4
        refine ml_tIn (pc := 33) (off := 348) (tgt := 381) X c4 dL_law_33 (by decide) (by decide) (by decide +kernel) (by decide) ?_
        refine ml_aload_n (pc := 381) X hl 1 rfl rfl dL_law_381 ?_
        refine ml_aload_n (pc := 382) X hl 0 rfl rfl dL_law_382 ?_
        refine ml_iload_n (pc := 383) X hl 3 rfl rfl dL_law_383 ?_
        refine ml_iconst (pc := 384) X dL_law_384 ?_
        obtain ⟨v77, hw⟩ := hw
        refine ml_iadd (pc := 385) X dL_law_385 ?_
        obtain ⟨a78, b78, hw⟩ := hw
        refine ml_sld (pc := 386) (i := x3 + 1) X hn a78 b78 dL_law_386 ?_
        refine ml_aload_n (pc := 387) X hl 0 rfl rfl dL_law_387 ?_
        refine ml_iload_n (pc := 388) X hl 3 rfl rfl dL_law_388 ?_
        refine ml_iconst (pc := 389) X dL_law_389 ?_
        obtain ⟨v79, hw⟩ := hw
        refine ml_iadd (pc := 390) X dL_law_390 ?_
        obtain ⟨a80, b80, hw⟩ := hw
        refine ml_sld (pc := 391) (i := x3 + 2) X hn a80 b80 dL_law_391 ?_
        refine ml_calllV (pc := 392) (rest := []) X [.int (Int32.ofInt (Q (x3 + 1))), .int (Int32.ofInt (Q (x3 + 2)))] (by decide) rfl (ml_k1 (by decide)) (c_X11_length l base D cA 256 (by decide) σ (Q (x3 + 1)) (Q (x3 + 2)) (hn.2.2.2.2.2.1 _) (hn.2.2.2.2.2.1 _) _ hw) cv_L_51 ⟨rfl, rfl⟩ ⟨by decide, by decide⟩ rfl rfl hl (Nat.le_of_ble_eq_true rfl) ⟨by decide, by decide⟩ dL_law_392 (fun r81 σ81 t81 hw => ?_)
        have hw := hw t81
        refine ml_aload_n (pc := 395) X hl 2 rfl rfl dL_law_395 ?_
        refine ml_aload_n (pc := 396) X hl 0 rfl rfl dL_law_396 ?_
        refine ml_iload_n (pc := 397) X hl 3 rfl rfl dL_law_397 ?_
        refine ml_iconst (pc := 398) X dL_law_398 ?_
        obtain ⟨v82, hw⟩ := hw
        refine ml_iadd (pc := 399) X dL_law_399 ?_
        obtain ⟨a83, b83, hw⟩ := hw
        refine ml_sld (pc := 400) (i := x3 + 1) X hn a83 b83 dL_law_400 ?_
        refine ml_aload_n (pc := 401) X hl 0 rfl rfl dL_law_401 ?_
        refine ml_iload_n (pc := 402) X hl 3 rfl rfl dL_law_402 ?_
        refine ml_iconst (pc := 403) X dL_law_403 ?_
        obtain ⟨v84, hw⟩ := hw
        refine ml_iadd (pc := 404) X dL_law_404 ?_
        obtain ⟨a85, b85, hw⟩ := hw
        refine ml_sld (pc := 405) (i := x3 + 2) X hn a85 b85 dL_law_405 ?_
        refine ml_calllV (pc := 406) (rest := [.long (Int64.ofInt r81)]) X [.int (Int32.ofInt (Q (x3 + 1))), .int (Int32.ofInt (Q (x3 + 2)))] (by decide) rfl (ml_k215 (by decide)) (c_X12_length l base D cA 256 (by decide) σ81 (Q (x3 + 1)) (Q (x3 + 2)) (hn.2.2.2.2.2.1 _) (hn.2.2.2.2.2.1 _) _ hw) cv_L_55 ⟨rfl, rfl⟩ ⟨by decide, by decide⟩ rfl rfl hl (Nat.le_of_ble_eq_true rfl) ⟨by decide, by decide⟩ dL_law_406 (fun r86 σ86 t86 hw => ?_)
        have hw := hw t86
        refine ml_lcmp_eq (pc := 409) (tgt := 1188) X t81 t86 dL_law_409 dL_law_410 (by decide) (fun c87 => ?_) (fun c87 => ?_)
        · have hw := hw.1 c87
          exact u_L_law_1188 X hn ih σ86 x3 h_x3 _ (lv_sub hl [0, 1, 2, 3] rfl) hw
        · have hw := hw.2 c87
          exact hK413 σ86   _ (lv_sub hl [] rfl) hw
      · have hw := hw.2.2.2.2.2.2.2.2.2.1 c4
        refine ml_tIn (pc := 33) (off := 382) (tgt := 415) X c4 dL_law_33 (by decide) (by decide) (by decide +kernel) (by decide) ?_
        refine ml_aload_n (pc := 415) X hl 1 rfl rfl dL_law_415 ?_
        refine ml_aload_n (pc := 416) X hl 0 rfl rfl dL_law_416 ?_
        refine ml_iload_n (pc := 417) X hl 3 rfl rfl dL_law_417 ?_
        refine ml_iconst (pc := 418) X dL_law_418 ?_
        obtain ⟨v88, hw⟩ := hw
        refine ml_iadd (pc := 419) X dL_law_419 ?_
        obtain ⟨a89, b89, hw⟩ := hw
        refine ml_sld (pc := 420) (i := x3 + 1) X hn a89 b89 dL_law_420 ?_
        refine ml_aload_n (pc := 421) X hl 0 rfl rfl dL_law_421 ?_
        refine ml_iload_n (pc := 422) X hl 3 rfl rfl dL_law_422 ?_
        refine ml_iconst (pc := 423) X dL_law_423 ?_
        obtain ⟨v90, hw⟩ := hw
        refine ml_iadd (pc := 424) X dL_law_424 ?_
        obtain ⟨a91, b91, hw⟩ := hw
        refine ml_sld (pc := 425) (i := x3 + 2) X hn a91 b91 dL_law_425 ?_
        refine ml_calllV (pc := 426) (rest := []) X [.int (Int32.ofInt (Q (x3 + 1))), .int (Int32.ofInt (Q (x3 + 2)))] (by decide) rfl (ml_k1 (by decide)) (c_X11_loops l base D cA 256 (by decide) σ (Q (x3 + 1)) (Q (x3 + 2)) (hn.2.2.2.2.2.1 _) (hn.2.2.2.2.2.1 _) _ hw) cv_L_56 ⟨rfl, rfl⟩ ⟨by decide, by decide⟩ rfl rfl hl (Nat.le_of_ble_eq_true rfl) ⟨by decide, by decide⟩ dL_law_426 (fun r92 σ92 t92 hw => ?_)
        have hw := hw t92
        refine ml_aload_n (pc := 429) X hl 2 rfl rfl dL_law_429 ?_
        refine ml_aload_n (pc := 430) X hl 0 rfl rfl dL_law_430 ?_
        refine ml_iload_n (pc := 431) X hl 3 rfl rfl dL_law_431 ?_
        refine ml_iconst (pc := 432) X dL_law_432 ?_
        obtain ⟨v93, hw⟩ := hw
        refine ml_iadd (pc := 433) X dL_law_433 ?_
        obtain ⟨a94, b94, hw⟩ := hw
        refine ml_sld (pc := 434) (i := x3 + 1) X hn a94 b94 dL_law_434 ?_
        refine ml_aload_n (pc := 435) X hl 0 rfl rfl dL_law_435 ?_
        refine ml_iload_n (pc := 436) X hl 3 rfl rfl dL_law_436 ?_
        refine ml_iconst (pc := 437) X dL_law_437 ?_
        obtain ⟨v95, hw⟩ := hw
        refine ml_iadd (pc := 438) X dL_law_438 ?_
        obtain ⟨a96, b96, hw⟩ := hw
        refine ml_sld (pc := 439) (i := x3 + 2) X hn a96 b96 dL_law_439 ?_
        refine ml_calllV (pc := 440) (rest := [.long (Int64.ofInt r92)]) X [.int (Int32.ofInt (Q (x3 + 1))), .int (Int32.ofInt (Q (x3 + 2)))] (by decide) rfl (ml_k215 (by decide)) (c_X12_loops l base D cA 256 (by decide) σ92 (Q (x3 + 1)) (Q (x3 + 2)) (hn.2.2.2.2.2.1 _) (hn.2.2.2.2.2.1 _) _ hw) cv_L_59 ⟨rfl, rfl⟩ ⟨by decide, by decide⟩ rfl rfl hl (Nat.le_of_ble_eq_true rfl) ⟨by decide, by decide⟩ dL_law_440 (fun r97 σ97 t97 hw => ?_)
        have hw := hw t97
        refine ml_lcmp_eq (pc := 443) (tgt := 1188) X t92 t97 dL_law_443 dL_law_444 (by decide) (fun c98 => ?_) (fun c98 => ?_)
        · have hw := hw.1 c98
          exact u_L_law_1188 X hn ih σ97 x3 h_x3 _ (lv_sub hl [0, 1, 2, 3] rfl) hw
        · have hw := hw.2 c98
          exact hK447 σ97   _ (lv_sub hl [] rfl) hw
      · have hw := hw.2.2.2.2.2.2.2.2.2.2.1 c4
        refine ml_tIn (pc := 33) (off := 416) (tgt := 449) X c4 dL_law_33 (by decide) (by decide) (by decide +kernel) (by decide) ?_
        refine ml_aload_n (pc := 449) X hl 1 rfl rfl dL_law_449 ?_
        refine ml_aload_n (pc := 450) X hl 0 rfl rfl dL_law_450 ?_
        refine ml_iload_n (pc := 451) X hl 3 rfl rfl dL_law_451 ?_
        refine ml_iconst (pc := 452) X dL_law_452 ?_
        obtain ⟨v99, hw⟩ := hw
        refine ml_iadd (pc := 453) X dL_law_453 ?_
        obtain ⟨a100, b100, hw⟩ := hw
        refine ml_sld (pc := 454) (i := x3 + 1) X hn a100 b100 dL_law_454 ?_
        refine ml_aload_n (pc := 455) X hl 0 rfl rfl dL_law_455 ?_
        refine ml_iload_n (pc := 456) X hl 3 rfl rfl dL_law_456 ?_
        refine ml_iconst (pc := 457) X dL_law_457 ?_
        obtain ⟨v101, hw⟩ := hw
        refine ml_iadd (pc := 458) X dL_law_458 ?_
        obtain ⟨a102, b102, hw⟩ := hw
        refine ml_sld (pc := 459) (i := x3 + 2) X hn a102 b102 dL_law_459 ?_
        refine ml_calliV (pc := 460) (rest := []) X [.int (Int32.ofInt (Q (x3 + 1))), .int (Int32.ofInt (Q (x3 + 2)))] (by decide) rfl (ml_k1 (by decide)) (c_X11_power l base D cA 256 (by decide) σ (Q (x3 + 1)) (Q (x3 + 2)) (hn.2.2.2.2.2.1 _) (hn.2.2.2.2.2.1 _) _ hw) cv_L_60 ⟨rfl, rfl⟩ ⟨by decide, by decide⟩ rfl rfl hl (Nat.le_of_ble_eq_true rfl) ⟨by decide, by decide⟩ dL_law_460 (fun r103 σ103 t103 hw => ?_)
        have hw := hw t103
        refine ml_aload_n (pc := 463) X hl 2 rfl rfl dL_law_463 ?_
        refine ml_aload_n (pc := 464) X hl 0 rfl rfl dL_law_464 ?_
        refine ml_iload_n (pc := 465) X hl 3 rfl rfl dL_law_465 ?_
        refine ml_iconst (pc := 466) X dL_law_466 ?_
        obtain ⟨v104, hw⟩ := hw
        refine ml_iadd (pc := 467) X dL_law_467 ?_
        obtain ⟨a105, b105, hw⟩ := hw
        refine ml_sld (pc := 468) (i := x3 + 1) X hn a105 b105 dL_law_468 ?_
        refine ml_aload_n (pc := 469) X hl 0 rfl rfl dL_law_469 ?_
        refine ml_iload_n (pc := 470) X hl 3 rfl rfl dL_law_470 ?_
        refine ml_iconst (pc := 471) X dL_law_471 ?_
        obtain ⟨v106, hw⟩ := hw
        refine ml_iadd (pc := 472) X dL_law_472 ?_
        obtain ⟨a107, b107, hw⟩ := hw
        refine ml_sld (pc := 473) (i := x3 + 2) X hn a107 b107 dL_law_473 ?_
        refine ml_calliV (pc := 474) (rest := [.int (Int32.ofInt r103)]) X [.int (Int32.ofInt (Q (x3 + 1))), .int (Int32.ofInt (Q (x3 + 2)))] (by decide) rfl (ml_k215 (by decide)) (c_X12_power l base D cA 256 (by decide) σ103 (Q (x3 + 1)) (Q (x3 + 2)) (hn.2.2.2.2.2.1 _) (hn.2.2.2.2.2.1 _) _ hw) cv_L_63 ⟨rfl, rfl⟩ ⟨by decide, by decide⟩ rfl rfl hl (Nat.le_of_ble_eq_true rfl) ⟨by decide, by decide⟩ dL_law_474 (fun r108 σ108 t108 hw => ?_)
        have hw := hw t108
        refine ml_icmp_eq (pc := 477) (tgt := 1188) X t103 t108 dL_law_477 (by decide) (fun c109 => ?_) (fun c109 => ?_)
        · have hw := hw.1 c109
          exact u_L_law_1188 X hn ih σ108 x3 h_x3 _ (lv_sub hl [0, 1, 2, 3] rfl) hw
        · have hw := hw.2 c109
          exact hK480 σ108   _ (lv_sub hl [] rfl) hw
      · have hw := hw.2.2.2.2.2.2.2.2.2.2.2.1 c4
        refine ml_tIn (pc := 33) (off := 449) (tgt := 482) X c4 dL_law_33 (by decide) (by decide) (by decide +kernel) (by decide) ?_
        refine ml_aload_n (pc := 482) X hl 1 rfl rfl dL_law_482 ?_
        refine ml_aload_n (pc := 483) X hl 0 rfl rfl dL_law_483 ?_
        refine ml_iload_n (pc := 484) X hl 3 rfl rfl dL_law_484 ?_
        refine ml_iconst (pc := 485) X dL_law_485 ?_
        obtain ⟨v110, hw⟩ := hw
        refine ml_iadd (pc := 486) X dL_law_486 ?_
        obtain ⟨a111, b111, hw⟩ := hw
        refine ml_sld (pc := 487) (i := x3 + 1) X hn a111 b111 dL_law_487 ?_
        refine ml_aload_n (pc := 488) X hl 0 rfl rfl dL_law_488 ?_
        refine ml_iload_n (pc := 489) X hl 3 rfl rfl dL_law_489 ?_
        refine ml_iconst (pc := 490) X dL_law_490 ?_
        obtain ⟨v112, hw⟩ := hw
        refine ml_iadd (pc := 491) X dL_law_491 ?_
        obtain ⟨a113, b113, hw⟩ := hw
        refine ml_sld (pc := 492) (i := x3 + 2) X hn a113 b113 dL_law_492 ?_
        refine ml_calllV (pc := 493) (rest := []) X [.int (Int32.ofInt (Q (x3 + 1))), .int (Int32.ofInt (Q (x3 + 2)))] (by decide) rfl (ml_k1 (by decide)) (c_X11_rule l base D cA 256 (by decide) σ (Q (x3 + 1)) (Q (x3 + 2)) (hn.2.2.2.2.2.1 _) (hn.2.2.2.2.2.1 _) _ hw) cv_L_64 ⟨rfl, rfl⟩ ⟨by decide, by decide⟩ rfl rfl hl (Nat.le_of_ble_eq_true rfl) ⟨by decide, by decide⟩ dL_law_493 (fun r114 σ114 t114 hw => ?_)
        have hw := hw t114
        refine ml_aload_n (pc := 496) X hl 2 rfl rfl dL_law_496 ?_
        refine ml_aload_n (pc := 497) X hl 0 rfl rfl dL_law_497 ?_
        refine ml_iload_n (pc := 498) X hl 3 rfl rfl dL_law_498 ?_
        refine ml_iconst (pc := 499) X dL_law_499 ?_
        obtain ⟨v115, hw⟩ := hw
        refine ml_iadd (pc := 500) X dL_law_500 ?_
        obtain ⟨a116, b116, hw⟩ := hw
        refine ml_sld (pc := 501) (i := x3 + 1) X hn a116 b116 dL_law_501 ?_
        refine ml_aload_n (pc := 502) X hl 0 rfl rfl dL_law_502 ?_
        refine ml_iload_n (pc := 503) X hl 3 rfl rfl dL_law_503 ?_
        refine ml_iconst (pc := 504) X dL_law_504 ?_
        obtain ⟨v117, hw⟩ := hw
        refine ml_iadd (pc := 505) X dL_law_505 ?_
        obtain ⟨a118, b118, hw⟩ := hw
        refine ml_sld (pc := 506) (i := x3 + 2) X hn a118 b118 dL_law_506 ?_
        refine ml_calllV (pc := 507) (rest := [.long (Int64.ofInt r114)]) X [.int (Int32.ofInt (Q (x3 + 1))), .int (Int32.ofInt (Q (x3 + 2)))] (by decide) rfl (ml_k215 (by decide)) (c_X12_rule l base D cA 256 (by decide) σ114 (Q (x3 + 1)) (Q (x3 + 2)) (hn.2.2.2.2.2.1 _) (hn.2.2.2.2.2.1 _) _ hw) cv_L_67 ⟨rfl, rfl⟩ ⟨by decide, by decide⟩ rfl rfl hl (Nat.le_of_ble_eq_true rfl) ⟨by decide, by decide⟩ dL_law_507 (fun r119 σ119 t119 hw => ?_)
        have hw := hw t119
        refine ml_lcmp_eq (pc := 510) (tgt := 1188) X t114 t119 dL_law_510 dL_law_511 (by decide) (fun c120 => ?_) (fun c120 => ?_)
        · have hw := hw.1 c120
          exact u_L_law_1188 X hn ih σ119 x3 h_x3 _ (lv_sub hl [0, 1, 2, 3] rfl) hw
        · have hw := hw.2 c120
          exact hK514 σ119   _ (lv_sub hl [] rfl) hw
      · have hw := hw.2.2.2.2.2.2.2.2.2.2.2.2.1 c4
        refine ml_tIn (pc := 33) (off := 483) (tgt := 516) X c4 dL_law_33 (by decide) (by decide) (by decide +kernel) (by decide) ?_
        refine ml_aload_n (pc := 516) X hl 1 rfl rfl dL_law_516 ?_
        refine ml_aload_n (pc := 517) X hl 0 rfl rfl dL_law_517 ?_
        refine ml_iload_n (pc := 518) X hl 3 rfl rfl dL_law_518 ?_
        refine ml_iconst (pc := 519) X dL_law_519 ?_
        obtain ⟨v121, hw⟩ := hw
        refine ml_iadd (pc := 520) X dL_law_520 ?_
        obtain ⟨a122, b122, hw⟩ := hw
        refine ml_sld (pc := 521) (i := x3 + 1) X hn a122 b122 dL_law_521 ?_
        refine ml_aload_n (pc := 522) X hl 0 rfl rfl dL_law_522 ?_
        refine ml_iload_n (pc := 523) X hl 3 rfl rfl dL_law_523 ?_
        refine ml_iconst (pc := 524) X dL_law_524 ?_
        obtain ⟨v123, hw⟩ := hw
        refine ml_iadd (pc := 525) X dL_law_525 ?_
        obtain ⟨a124, b124, hw⟩ := hw
        refine ml_sld (pc := 526) (i := x3 + 2) X hn a124 b124 dL_law_526 ?_
        refine ml_i2l (pc := 527) X (hn.2.2.2.2.2.1 _) dL_law_527 ?_
        refine ml_bipush (pc := 528) X dL_law_528 (by decide) ?_
        refine ml_lshl (pc := 530) X dL_law_530 ?_
        refine ml_aload_n (pc := 531) X hl 0 rfl rfl dL_law_531 ?_
        refine ml_iload_n (pc := 532) X hl 3 rfl rfl dL_law_532 ?_
        refine ml_iconst (pc := 533) X dL_law_533 ?_
        obtain ⟨v125, hw⟩ := hw
        refine ml_iadd (pc := 534) X dL_law_534 ?_
        obtain ⟨a126, b126, hw⟩ := hw
        refine ml_sld (pc := 535) (i := x3 + 3) X hn a126 b126 dL_law_535 ?_
        refine ml_i2l (pc := 536) X (hn.2.2.2.2.2.1 _) dL_law_536 ?_
        refine ml_ldc2 (pc := 537) (v := 4294967295) X dL_law_537 tc_7_17 ?_
        refine ml_land (pc := 540) X dL_law_540 ?_
        refine ml_lor (pc := 541) X dL_law_541 ?_
        refine ml_calllV (pc := 542) (rest := []) X [.int (Int32.ofInt (Q (x3 + 1))), .long (Int64.ofInt (b_lor (b_lshl (Q (x3 + 2)) 32) (b_land (Q (x3 + 3)) 4294967295)))] (by decide) rfl (ml_k1 (by decide)) (c_X11_left l base D cA 256 (by decide) σ (Q (x3 + 1)) (b_lor (b_lshl (Q (x3 + 2)) 32) (b_land (Q (x3 + 3)) 4294967295)) (hn.2.2.2.2.2.1 _) (b_lor_r _ _) _ hw) cv_L_70 ⟨rfl, rfl⟩ ⟨by decide, by decide⟩ rfl rfl hl (Nat.le_of_ble_eq_true rfl) ⟨by decide, by decide⟩ dL_law_542 (fun r127 σ127 t127 hw => ?_)
        have hw := hw t127
        refine ml_aload_n (pc := 545) X hl 2 rfl rfl dL_law_545 ?_
        refine ml_aload_n (pc := 546) X hl 0 rfl rfl dL_law_546 ?_
        refine ml_iload_n (pc := 547) X hl 3 rfl rfl dL_law_547 ?_
        refine ml_iconst (pc := 548) X dL_law_548 ?_
        obtain ⟨v128, hw⟩ := hw
        refine ml_iadd (pc := 549) X dL_law_549 ?_
        obtain ⟨a129, b129, hw⟩ := hw
        refine ml_sld (pc := 550) (i := x3 + 1) X hn a129 b129 dL_law_550 ?_
        refine ml_aload_n (pc := 551) X hl 0 rfl rfl dL_law_551 ?_
        refine ml_iload_n (pc := 552) X hl 3 rfl rfl dL_law_552 ?_
        refine ml_iconst (pc := 553) X dL_law_553 ?_
        obtain ⟨v130, hw⟩ := hw
        refine ml_iadd (pc := 554) X dL_law_554 ?_
        obtain ⟨a131, b131, hw⟩ := hw
        refine ml_sld (pc := 555) (i := x3 + 2) X hn a131 b131 dL_law_555 ?_
        refine ml_i2l (pc := 556) X (hn.2.2.2.2.2.1 _) dL_law_556 ?_
        refine ml_bipush (pc := 557) X dL_law_557 (by decide) ?_
        refine ml_lshl (pc := 559) X dL_law_559 ?_
        refine ml_aload_n (pc := 560) X hl 0 rfl rfl dL_law_560 ?_
        refine ml_iload_n (pc := 561) X hl 3 rfl rfl dL_law_561 ?_
        refine ml_iconst (pc := 562) X dL_law_562 ?_
        obtain ⟨v132, hw⟩ := hw
        refine ml_iadd (pc := 563) X dL_law_563 ?_
        obtain ⟨a133, b133, hw⟩ := hw
        refine ml_sld (pc := 564) (i := x3 + 3) X hn a133 b133 dL_law_564 ?_
        refine ml_i2l (pc := 565) X (hn.2.2.2.2.2.1 _) dL_law_565 ?_
        refine ml_ldc2 (pc := 566) (v := 4294967295) X dL_law_566 tc_7_17 ?_
        refine ml_land (pc := 569) X dL_law_569 ?_
        refine ml_lor (pc := 570) X dL_law_570 ?_
        refine ml_calllV (pc := 571) (rest := [.long (Int64.ofInt r127)]) X [.int (Int32.ofInt (Q (x3 + 1))), .long (Int64.ofInt (b_lor (b_lshl (Q (x3 + 2)) 32) (b_land (Q (x3 + 3)) 4294967295)))] (by decide) rfl (ml_k215 (by decide)) (c_X12_left l base D cA 256 (by decide) σ127 (Q (x3 + 1)) (b_lor (b_lshl (Q (x3 + 2)) 32) (b_land (Q (x3 + 3)) 4294967295)) (hn.2.2.2.2.2.1 _) (b_lor_r _ _) _ hw) cv_L_74 ⟨rfl, rfl⟩ ⟨by decide, by decide⟩ rfl rfl hl (Nat.le_of_ble_eq_true rfl) ⟨by decide, by decide⟩ dL_law_571 (fun r134 σ134 t134 hw => ?_)
        have hw := hw t134
        refine ml_lcmp_eq (pc := 574) (tgt := 1188) X t127 t134 dL_law_574 dL_law_575 (by decide) (fun c135 => ?_) (fun c135 => ?_)
        · have hw := hw.1 c135
          exact u_L_law_1188 X hn ih σ134 x3 h_x3 _ (lv_sub hl [0, 1, 2, 3] rfl) hw
        · have hw := hw.2 c135
          exact hK578 σ134   _ (lv_sub hl [] rfl) hw
      · have hw := hw.2.2.2.2.2.2.2.2.2.2.2.2.2.1 c4
        refine ml_tIn (pc := 33) (off := 547) (tgt := 580) X c4 dL_law_33 (by decide) (by decide) (by decide +kernel) (by decide) ?_
        refine ml_aload_n (pc := 580) X hl 1 rfl rfl dL_law_580 ?_
        refine ml_aload_n (pc := 581) X hl 0 rfl rfl dL_law_581 ?_
        refine ml_iload_n (pc := 582) X hl 3 rfl rfl dL_law_582 ?_
        refine ml_iconst (pc := 583) X dL_law_583 ?_
        obtain ⟨v136, hw⟩ := hw
        refine ml_iadd (pc := 584) X dL_law_584 ?_
        obtain ⟨a137, b137, hw⟩ := hw
        refine ml_sld (pc := 585) (i := x3 + 1) X hn a137 b137 dL_law_585 ?_
        refine ml_aload_n (pc := 586) X hl 0 rfl rfl dL_law_586 ?_
        refine ml_iload_n (pc := 587) X hl 3 rfl rfl dL_law_587 ?_
        refine ml_iconst (pc := 588) X dL_law_588 ?_
        obtain ⟨v138, hw⟩ := hw
        refine ml_iadd (pc := 589) X dL_law_589 ?_
        obtain ⟨a139, b139, hw⟩ := hw
        refine ml_sld (pc := 590) (i := x3 + 2) X hn a139 b139 dL_law_590 ?_
        refine ml_i2l (pc := 591) X (hn.2.2.2.2.2.1 _) dL_law_591 ?_
        refine ml_bipush (pc := 592) X dL_law_592 (by decide) ?_
        refine ml_lshl (pc := 594) X dL_law_594 ?_
        refine ml_aload_n (pc := 595) X hl 0 rfl rfl dL_law_595 ?_
        refine ml_iload_n (pc := 596) X hl 3 rfl rfl dL_law_596 ?_
        refine ml_iconst (pc := 597) X dL_law_597 ?_
        obtain ⟨v140, hw⟩ := hw
        refine ml_iadd (pc := 598) X dL_law_598 ?_
        obtain ⟨a141, b141, hw⟩ := hw
        refine ml_sld (pc := 599) (i := x3 + 3) X hn a141 b141 dL_law_599 ?_
        refine ml_i2l (pc := 600) X (hn.2.2.2.2.2.1 _) dL_law_600 ?_
        refine ml_ldc2 (pc := 601) (v := 4294967295) X dL_law_601 tc_7_17 ?_
        refine ml_land (pc := 604) X dL_law_604 ?_
        refine ml_lor (pc := 605) X dL_law_605 ?_
        refine ml_aload_n (pc := 606) X hl 0 rfl rfl dL_law_606 ?_
        refine ml_iload_n (pc := 607) X hl 3 rfl rfl dL_law_607 ?_
        refine ml_iconst (pc := 608) X dL_law_608 ?_
        obtain ⟨v142, hw⟩ := hw
        refine ml_iadd (pc := 609) X dL_law_609 ?_
        obtain ⟨a143, b143, hw⟩ := hw
        refine ml_sld (pc := 610) (i := x3 + 4) X hn a143 b143 dL_law_610 ?_
        refine ml_i2l (pc := 611) X (hn.2.2.2.2.2.1 _) dL_law_611 ?_
        refine ml_bipush (pc := 612) X dL_law_612 (by decide) ?_
        refine ml_lshl (pc := 614) X dL_law_614 ?_
        refine ml_aload_n (pc := 615) X hl 0 rfl rfl dL_law_615 ?_
        refine ml_iload_n (pc := 616) X hl 3 rfl rfl dL_law_616 ?_
        refine ml_iconst (pc := 617) X dL_law_617 ?_
        obtain ⟨v144, hw⟩ := hw
        refine ml_iadd (pc := 618) X dL_law_618 ?_
        obtain ⟨a145, b145, hw⟩ := hw
        refine ml_sld (pc := 619) (i := x3 + 5) X hn a145 b145 dL_law_619 ?_
        refine ml_i2l (pc := 620) X (hn.2.2.2.2.2.1 _) dL_law_620 ?_
        refine ml_ldc2 (pc := 621) (v := 4294967295) X dL_law_621 tc_7_17 ?_
        refine ml_land (pc := 624) X dL_law_624 ?_
        refine ml_lor (pc := 625) X dL_law_625 ?_
        refine ml_aload_n (pc := 626) X hl 0 rfl rfl dL_law_626 ?_
        refine ml_iload_n (pc := 627) X hl 3 rfl rfl dL_law_627 ?_
        refine ml_bipush (pc := 628) X dL_law_628 (by decide) ?_
        obtain ⟨v146, hw⟩ := hw
        refine ml_iadd (pc := 630) X dL_law_630 ?_
        obtain ⟨a147, b147, hw⟩ := hw
        refine ml_sld (pc := 631) (i := x3 + 6) X hn a147 b147 dL_law_631 ?_
        refine ml_i2l (pc := 632) X (hn.2.2.2.2.2.1 _) dL_law_632 ?_
        refine ml_bipush (pc := 633) X dL_law_633 (by decide) ?_
        refine ml_lshl (pc := 635) X dL_law_635 ?_
        refine ml_aload_n (pc := 636) X hl 0 rfl rfl dL_law_636 ?_
        refine ml_iload_n (pc := 637) X hl 3 rfl rfl dL_law_637 ?_
        refine ml_bipush (pc := 638) X dL_law_638 (by decide) ?_
        obtain ⟨v148, hw⟩ := hw
        refine ml_iadd (pc := 640) X dL_law_640 ?_
        obtain ⟨a149, b149, hw⟩ := hw
        refine ml_sld (pc := 641) (i := x3 + 7) X hn a149 b149 dL_law_641 ?_
        refine ml_i2l (pc := 642) X (hn.2.2.2.2.2.1 _) dL_law_642 ?_
        refine ml_ldc2 (pc := 643) (v := 4294967295) X dL_law_643 tc_7_17 ?_
        refine ml_land (pc := 646) X dL_law_646 ?_
        refine ml_lor (pc := 647) X dL_law_647 ?_
        refine ml_calllV (pc := 648) (rest := []) X [.int (Int32.ofInt (Q (x3 + 1))), .long (Int64.ofInt (b_lor (b_lshl (Q (x3 + 2)) 32) (b_land (Q (x3 + 3)) 4294967295))), .long (Int64.ofInt (b_lor (b_lshl (Q (x3 + 4)) 32) (b_land (Q (x3 + 5)) 4294967295))), .long (Int64.ofInt (b_lor (b_lshl (Q (x3 + 6)) 32) (b_land (Q (x3 + 7)) 4294967295)))] (by decide) rfl (ml_k1 (by decide)) (c_X11_those l base D cA 256 (by decide) σ (Q (x3 + 1)) (b_lor (b_lshl (Q (x3 + 2)) 32) (b_land (Q (x3 + 3)) 4294967295)) (b_lor (b_lshl (Q (x3 + 4)) 32) (b_land (Q (x3 + 5)) 4294967295)) (b_lor (b_lshl (Q (x3 + 6)) 32) (b_land (Q (x3 + 7)) 4294967295)) (hn.2.2.2.2.2.1 _) (b_lor_r _ _) (b_lor_r _ _) (b_lor_r _ _) _ hw) cv_L_75 ⟨rfl, rfl⟩ ⟨by decide, by decide⟩ rfl rfl hl (Nat.le_of_ble_eq_true rfl) ⟨by decide, by decide⟩ dL_law_648 (fun r150 σ150 t150 hw => ?_)
        have hw := hw t150
        refine ml_aload_n (pc := 651) X hl 2 rfl rfl dL_law_651 ?_
        refine ml_aload_n (pc := 652) X hl 0 rfl rfl dL_law_652 ?_
        refine ml_iload_n (pc := 653) X hl 3 rfl rfl dL_law_653 ?_
        refine ml_iconst (pc := 654) X dL_law_654 ?_
        obtain ⟨v151, hw⟩ := hw
        refine ml_iadd (pc := 655) X dL_law_655 ?_
        obtain ⟨a152, b152, hw⟩ := hw
        refine ml_sld (pc := 656) (i := x3 + 1) X hn a152 b152 dL_law_656 ?_
        refine ml_aload_n (pc := 657) X hl 0 rfl rfl dL_law_657 ?_
        refine ml_iload_n (pc := 658) X hl 3 rfl rfl dL_law_658 ?_
        refine ml_iconst (pc := 659) X dL_law_659 ?_
        obtain ⟨v153, hw⟩ := hw
        refine ml_iadd (pc := 660) X dL_law_660 ?_
        obtain ⟨a154, b154, hw⟩ := hw
        refine ml_sld (pc := 661) (i := x3 + 2) X hn a154 b154 dL_law_661 ?_
        refine ml_i2l (pc := 662) X (hn.2.2.2.2.2.1 _) dL_law_662 ?_
        refine ml_bipush (pc := 663) X dL_law_663 (by decide) ?_
        refine ml_lshl (pc := 665) X dL_law_665 ?_
        refine ml_aload_n (pc := 666) X hl 0 rfl rfl dL_law_666 ?_
        refine ml_iload_n (pc := 667) X hl 3 rfl rfl dL_law_667 ?_
        refine ml_iconst (pc := 668) X dL_law_668 ?_
        obtain ⟨v155, hw⟩ := hw
        refine ml_iadd (pc := 669) X dL_law_669 ?_
        obtain ⟨a156, b156, hw⟩ := hw
        refine ml_sld (pc := 670) (i := x3 + 3) X hn a156 b156 dL_law_670 ?_
        refine ml_i2l (pc := 671) X (hn.2.2.2.2.2.1 _) dL_law_671 ?_
        refine ml_ldc2 (pc := 672) (v := 4294967295) X dL_law_672 tc_7_17 ?_
        refine ml_land (pc := 675) X dL_law_675 ?_
        refine ml_lor (pc := 676) X dL_law_676 ?_
        refine ml_aload_n (pc := 677) X hl 0 rfl rfl dL_law_677 ?_
        refine ml_iload_n (pc := 678) X hl 3 rfl rfl dL_law_678 ?_
        refine ml_iconst (pc := 679) X dL_law_679 ?_
        obtain ⟨v157, hw⟩ := hw
        refine ml_iadd (pc := 680) X dL_law_680 ?_
        obtain ⟨a158, b158, hw⟩ := hw
        refine ml_sld (pc := 681) (i := x3 + 4) X hn a158 b158 dL_law_681 ?_
        refine ml_i2l (pc := 682) X (hn.2.2.2.2.2.1 _) dL_law_682 ?_
        refine ml_bipush (pc := 683) X dL_law_683 (by decide) ?_
        refine ml_lshl (pc := 685) X dL_law_685 ?_
        refine ml_aload_n (pc := 686) X hl 0 rfl rfl dL_law_686 ?_
        refine ml_iload_n (pc := 687) X hl 3 rfl rfl dL_law_687 ?_
        refine ml_iconst (pc := 688) X dL_law_688 ?_
        obtain ⟨v159, hw⟩ := hw
        refine ml_iadd (pc := 689) X dL_law_689 ?_
        obtain ⟨a160, b160, hw⟩ := hw
        refine ml_sld (pc := 690) (i := x3 + 5) X hn a160 b160 dL_law_690 ?_
        refine ml_i2l (pc := 691) X (hn.2.2.2.2.2.1 _) dL_law_691 ?_
        refine ml_ldc2 (pc := 692) (v := 4294967295) X dL_law_692 tc_7_17 ?_
        refine ml_land (pc := 695) X dL_law_695 ?_
        refine ml_lor (pc := 696) X dL_law_696 ?_
        refine ml_aload_n (pc := 697) X hl 0 rfl rfl dL_law_697 ?_
        refine ml_iload_n (pc := 698) X hl 3 rfl rfl dL_law_698 ?_
        refine ml_bipush (pc := 699) X dL_law_699 (by decide) ?_
        obtain ⟨v161, hw⟩ := hw
        refine ml_iadd (pc := 701) X dL_law_701 ?_
        obtain ⟨a162, b162, hw⟩ := hw
        refine ml_sld (pc := 702) (i := x3 + 6) X hn a162 b162 dL_law_702 ?_
        refine ml_i2l (pc := 703) X (hn.2.2.2.2.2.1 _) dL_law_703 ?_
        refine ml_bipush (pc := 704) X dL_law_704 (by decide) ?_
        refine ml_lshl (pc := 706) X dL_law_706 ?_
        refine ml_aload_n (pc := 707) X hl 0 rfl rfl dL_law_707 ?_
        refine ml_iload_n (pc := 708) X hl 3 rfl rfl dL_law_708 ?_
        refine ml_bipush (pc := 709) X dL_law_709 (by decide) ?_
        obtain ⟨v163, hw⟩ := hw
        refine ml_iadd (pc := 711) X dL_law_711 ?_
        obtain ⟨a164, b164, hw⟩ := hw
        refine ml_sld (pc := 712) (i := x3 + 7) X hn a164 b164 dL_law_712 ?_
        refine ml_i2l (pc := 713) X (hn.2.2.2.2.2.1 _) dL_law_713 ?_
        refine ml_ldc2 (pc := 714) (v := 4294967295) X dL_law_714 tc_7_17 ?_
        refine ml_land (pc := 717) X dL_law_717 ?_
        refine ml_lor (pc := 718) X dL_law_718 ?_
        refine ml_calllV (pc := 719) (rest := [.long (Int64.ofInt r150)]) X [.int (Int32.ofInt (Q (x3 + 1))), .long (Int64.ofInt (b_lor (b_lshl (Q (x3 + 2)) 32) (b_land (Q (x3 + 3)) 4294967295))), .long (Int64.ofInt (b_lor (b_lshl (Q (x3 + 4)) 32) (b_land (Q (x3 + 5)) 4294967295))), .long (Int64.ofInt (b_lor (b_lshl (Q (x3 + 6)) 32) (b_land (Q (x3 + 7)) 4294967295)))] (by decide) rfl (ml_k215 (by decide)) (c_X12_those l base D cA 256 (by decide) σ150 (Q (x3 + 1)) (b_lor (b_lshl (Q (x3 + 2)) 32) (b_land (Q (x3 + 3)) 4294967295)) (b_lor (b_lshl (Q (x3 + 4)) 32) (b_land (Q (x3 + 5)) 4294967295)) (b_lor (b_lshl (Q (x3 + 6)) 32) (b_land (Q (x3 + 7)) 4294967295)) (hn.2.2.2.2.2.1 _) (b_lor_r _ _) (b_lor_r _ _) (b_lor_r _ _) _ hw) cv_L_79 ⟨rfl, rfl⟩ ⟨by decide, by decide⟩ rfl rfl hl (Nat.le_of_ble_eq_true rfl) ⟨by decide, by decide⟩ dL_law_719 (fun r165 σ165 t165 hw => ?_)
        have hw := hw t165
        refine ml_lcmp_eq (pc := 722) (tgt := 1188) X t150 t165 dL_law_722 dL_law_723 (by decide) (fun c166 => ?_) (fun c166 => ?_)
        · have hw := hw.1 c166
          exact u_L_law_1188 X hn ih σ165 x3 h_x3 _ (lv_sub hl [0, 1, 2, 3] rfl) hw
        · have hw := hw.2 c166
          exact hK726 σ165   _ (lv_sub hl [] rfl) hw
      · have hw := hw.2.2.2.2.2.2.2.2.2.2.2.2.2.2.1 c4
        refine ml_tIn (pc := 33) (off := 695) (tgt := 728) X c4 dL_law_33 (by decide) (by decide) (by decide +kernel) (by decide) ?_
        refine ml_aload_n (pc := 728) X hl 1 rfl rfl dL_law_728 ?_
        refine ml_aload_n (pc := 729) X hl 0 rfl rfl dL_law_729 ?_
        refine ml_iload_n (pc := 730) X hl 3 rfl rfl dL_law_730 ?_
        refine ml_iconst (pc := 731) X dL_law_731 ?_
        obtain ⟨v167, hw⟩ := hw
        refine ml_iadd (pc := 732) X dL_law_732 ?_
        obtain ⟨a168, b168, hw⟩ := hw
        refine ml_sld (pc := 733) (i := x3 + 1) X hn a168 b168 dL_law_733 ?_
        refine ml_aload_n (pc := 734) X hl 0 rfl rfl dL_law_734 ?_
        refine ml_iload_n (pc := 735) X hl 3 rfl rfl dL_law_735 ?_
        refine ml_iconst (pc := 736) X dL_law_736 ?_
        obtain ⟨v169, hw⟩ := hw
        refine ml_iadd (pc := 737) X dL_law_737 ?_
        obtain ⟨a170, b170, hw⟩ := hw
        refine ml_sld (pc := 738) (i := x3 + 2) X hn a170 b170 dL_law_738 ?_
        refine ml_i2l (pc := 739) X (hn.2.2.2.2.2.1 _) dL_law_739 ?_
        refine ml_bipush (pc := 740) X dL_law_740 (by decide) ?_
        refine ml_lshl (pc := 742) X dL_law_742 ?_
        refine ml_aload_n (pc := 743) X hl 0 rfl rfl dL_law_743 ?_
        refine ml_iload_n (pc := 744) X hl 3 rfl rfl dL_law_744 ?_
        refine ml_iconst (pc := 745) X dL_law_745 ?_
        obtain ⟨v171, hw⟩ := hw
        refine ml_iadd (pc := 746) X dL_law_746 ?_
        obtain ⟨a172, b172, hw⟩ := hw
        refine ml_sld (pc := 747) (i := x3 + 3) X hn a172 b172 dL_law_747 ?_
        refine ml_i2l (pc := 748) X (hn.2.2.2.2.2.1 _) dL_law_748 ?_
        refine ml_ldc2 (pc := 749) (v := 4294967295) X dL_law_749 tc_7_17 ?_
        refine ml_land (pc := 752) X dL_law_752 ?_
        refine ml_lor (pc := 753) X dL_law_753 ?_
        refine ml_calllV (pc := 754) (rest := []) X [.int (Int32.ofInt (Q (x3 + 1))), .long (Int64.ofInt (b_lor (b_lshl (Q (x3 + 2)) 32) (b_land (Q (x3 + 3)) 4294967295)))] (by decide) rfl (ml_k1 (by decide)) (c_X11_first l base D cA 256 (by decide) σ (Q (x3 + 1)) (b_lor (b_lshl (Q (x3 + 2)) 32) (b_land (Q (x3 + 3)) 4294967295)) (hn.2.2.2.2.2.1 _) (b_lor_r _ _) _ hw) cv_L_80 ⟨rfl, rfl⟩ ⟨by decide, by decide⟩ rfl rfl hl (Nat.le_of_ble_eq_true rfl) ⟨by decide, by decide⟩ dL_law_754 (fun r173 σ173 t173 hw => ?_)
        have hw := hw t173
        refine ml_aload_n (pc := 757) X hl 2 rfl rfl dL_law_757 ?_
        refine ml_aload_n (pc := 758) X hl 0 rfl rfl dL_law_758 ?_
        refine ml_iload_n (pc := 759) X hl 3 rfl rfl dL_law_759 ?_
        refine ml_iconst (pc := 760) X dL_law_760 ?_
        obtain ⟨v174, hw⟩ := hw
        refine ml_iadd (pc := 761) X dL_law_761 ?_
        obtain ⟨a175, b175, hw⟩ := hw
        refine ml_sld (pc := 762) (i := x3 + 1) X hn a175 b175 dL_law_762 ?_
        refine ml_aload_n (pc := 763) X hl 0 rfl rfl dL_law_763 ?_
        refine ml_iload_n (pc := 764) X hl 3 rfl rfl dL_law_764 ?_
        refine ml_iconst (pc := 765) X dL_law_765 ?_
        obtain ⟨v176, hw⟩ := hw
        refine ml_iadd (pc := 766) X dL_law_766 ?_
        obtain ⟨a177, b177, hw⟩ := hw
        refine ml_sld (pc := 767) (i := x3 + 2) X hn a177 b177 dL_law_767 ?_
        refine ml_i2l (pc := 768) X (hn.2.2.2.2.2.1 _) dL_law_768 ?_
        refine ml_bipush (pc := 769) X dL_law_769 (by decide) ?_
        refine ml_lshl (pc := 771) X dL_law_771 ?_
        refine ml_aload_n (pc := 772) X hl 0 rfl rfl dL_law_772 ?_
        refine ml_iload_n (pc := 773) X hl 3 rfl rfl dL_law_773 ?_
        refine ml_iconst (pc := 774) X dL_law_774 ?_
        obtain ⟨v178, hw⟩ := hw
        refine ml_iadd (pc := 775) X dL_law_775 ?_
        obtain ⟨a179, b179, hw⟩ := hw
        refine ml_sld (pc := 776) (i := x3 + 3) X hn a179 b179 dL_law_776 ?_
        refine ml_i2l (pc := 777) X (hn.2.2.2.2.2.1 _) dL_law_777 ?_
        refine ml_ldc2 (pc := 778) (v := 4294967295) X dL_law_778 tc_7_17 ?_
        refine ml_land (pc := 781) X dL_law_781 ?_
        refine ml_lor (pc := 782) X dL_law_782 ?_
        refine ml_calllV (pc := 783) (rest := [.long (Int64.ofInt r173)]) X [.int (Int32.ofInt (Q (x3 + 1))), .long (Int64.ofInt (b_lor (b_lshl (Q (x3 + 2)) 32) (b_land (Q (x3 + 3)) 4294967295)))] (by decide) rfl (ml_k215 (by decide)) (c_X12_first l base D cA 256 (by decide) σ173 (Q (x3 + 1)) (b_lor (b_lshl (Q (x3 + 2)) 32) (b_land (Q (x3 + 3)) 4294967295)) (hn.2.2.2.2.2.1 _) (b_lor_r _ _) _ hw) cv_L_83 ⟨rfl, rfl⟩ ⟨by decide, by decide⟩ rfl rfl hl (Nat.le_of_ble_eq_true rfl) ⟨by decide, by decide⟩ dL_law_783 (fun r180 σ180 t180 hw => ?_)
        have hw := hw t180
        refine ml_lcmp_eq (pc := 786) (tgt := 1188) X t173 t180 dL_law_786 dL_law_787 (by decide) (fun c181 => ?_) (fun c181 => ?_)
        · have hw := hw.1 c181
          exact u_L_law_1188 X hn ih σ180 x3 h_x3 _ (lv_sub hl [0, 1, 2, 3] rfl) hw
        · have hw := hw.2 c181
          exact hK790 σ180   _ (lv_sub hl [] rfl) hw
      · have hw := hw.2.2.2.2.2.2.2.2.2.2.2.2.2.2.2.1 c4
        refine ml_tIn (pc := 33) (off := 759) (tgt := 792) X c4 dL_law_33 (by decide) (by decide) (by decide +kernel) (by decide) ?_
        refine ml_aload_n (pc := 792) X hl 1 rfl rfl dL_law_792 ?_
        refine ml_aload_n (pc := 793) X hl 0 rfl rfl dL_law_793 ?_
        refine ml_iload_n (pc := 794) X hl 3 rfl rfl dL_law_794 ?_
        refine ml_iconst (pc := 795) X dL_law_795 ?_
        obtain ⟨v182, hw⟩ := hw
        refine ml_iadd (pc := 796) X dL_law_796 ?_
        obtain ⟨a183, b183, hw⟩ := hw
        refine ml_sld (pc := 797) (i := x3 + 1) X hn a183 b183 dL_law_797 ?_
        refine ml_aload_n (pc := 798) X hl 0 rfl rfl dL_law_798 ?_
        refine ml_iload_n (pc := 799) X hl 3 rfl rfl dL_law_799 ?_
        refine ml_iconst (pc := 800) X dL_law_800 ?_
        obtain ⟨v184, hw⟩ := hw
        refine ml_iadd (pc := 801) X dL_law_801 ?_
        obtain ⟨a185, b185, hw⟩ := hw
        refine ml_sld (pc := 802) (i := x3 + 2) X hn a185 b185 dL_law_802 ?_
        refine ml_aload_n (pc := 803) X hl 0 rfl rfl dL_law_803 ?_
        refine ml_iload_n (pc := 804) X hl 3 rfl rfl dL_law_804 ?_
        refine ml_iconst (pc := 805) X dL_law_805 ?_
        obtain ⟨v186, hw⟩ := hw
        refine ml_iadd (pc := 806) X dL_law_806 ?_
        obtain ⟨a187, b187, hw⟩ := hw
        refine ml_sld (pc := 807) (i := x3 + 3) X hn a187 b187 dL_law_807 ?_
        refine ml_calliV (pc := 808) (rest := []) X [.int (Int32.ofInt (Q (x3 + 1))), .int (Int32.ofInt (Q (x3 + 2))), .int (Int32.ofInt (Q (x3 + 3)))] (by decide) rfl (ml_k1 (by decide)) (c_X11_both l base D cA 256 (by decide) σ (Q (x3 + 1)) (Q (x3 + 2)) (Q (x3 + 3)) (hn.2.2.2.2.2.1 _) (hn.2.2.2.2.2.1 _) (hn.2.2.2.2.2.1 _) _ hw) cv_L_84 ⟨rfl, rfl⟩ ⟨by decide, by decide⟩ rfl rfl hl (Nat.le_of_ble_eq_true rfl) ⟨by decide, by decide⟩ dL_law_808 (fun r188 σ188 t188 hw => ?_)
        have hw := hw t188
        refine ml_aload_n (pc := 811) X hl 2 rfl rfl dL_law_811 ?_
        refine ml_aload_n (pc := 812) X hl 0 rfl rfl dL_law_812 ?_
        refine ml_iload_n (pc := 813) X hl 3 rfl rfl dL_law_813 ?_
        refine ml_iconst (pc := 814) X dL_law_814 ?_
        obtain ⟨v189, hw⟩ := hw
        refine ml_iadd (pc := 815) X dL_law_815 ?_
        obtain ⟨a190, b190, hw⟩ := hw
        refine ml_sld (pc := 816) (i := x3 + 1) X hn a190 b190 dL_law_816 ?_
        refine ml_aload_n (pc := 817) X hl 0 rfl rfl dL_law_817 ?_
        refine ml_iload_n (pc := 818) X hl 3 rfl rfl dL_law_818 ?_
        refine ml_iconst (pc := 819) X dL_law_819 ?_
        obtain ⟨v191, hw⟩ := hw
        refine ml_iadd (pc := 820) X dL_law_820 ?_
        obtain ⟨a192, b192, hw⟩ := hw
        refine ml_sld (pc := 821) (i := x3 + 2) X hn a192 b192 dL_law_821 ?_
        refine ml_aload_n (pc := 822) X hl 0 rfl rfl dL_law_822 ?_
        refine ml_iload_n (pc := 823) X hl 3 rfl rfl dL_law_823 ?_
        refine ml_iconst (pc := 824) X dL_law_824 ?_
        obtain ⟨v193, hw⟩ := hw
        refine ml_iadd (pc := 825) X dL_law_825 ?_
        obtain ⟨a194, b194, hw⟩ := hw
        refine ml_sld (pc := 826) (i := x3 + 3) X hn a194 b194 dL_law_826 ?_
        refine ml_calliV (pc := 827) (rest := [.int (Int32.ofInt r188)]) X [.int (Int32.ofInt (Q (x3 + 1))), .int (Int32.ofInt (Q (x3 + 2))), .int (Int32.ofInt (Q (x3 + 3)))] (by decide) rfl (ml_k215 (by decide)) (c_X12_both l base D cA 256 (by decide) σ188 (Q (x3 + 1)) (Q (x3 + 2)) (Q (x3 + 3)) (hn.2.2.2.2.2.1 _) (hn.2.2.2.2.2.1 _) (hn.2.2.2.2.2.1 _) _ hw) cv_L_88 ⟨rfl, rfl⟩ ⟨by decide, by decide⟩ rfl rfl hl (Nat.le_of_ble_eq_true rfl) ⟨by decide, by decide⟩ dL_law_827 (fun r195 σ195 t195 hw => ?_)
        have hw := hw t195
        refine ml_icmp_eq (pc := 830) (tgt := 1188) X t188 t195 dL_law_830 (by decide) (fun c196 => ?_) (fun c196 => ?_)
        · have hw := hw.1 c196
          exact u_L_law_1188 X hn ih σ195 x3 h_x3 _ (lv_sub hl [0, 1, 2, 3] rfl) hw
        · have hw := hw.2 c196
          exact hK833 σ195   _ (lv_sub hl [] rfl) hw
      · have hw := hw.2.2.2.2.2.2.2.2.2.2.2.2.2.2.2.2.1 c4
        refine ml_tIn (pc := 33) (off := 802) (tgt := 835) X c4 dL_law_33 (by decide) (by decide) (by decide +kernel) (by decide) ?_
        refine ml_aload_n (pc := 835) X hl 1 rfl rfl dL_law_835 ?_
        refine ml_aload_n (pc := 836) X hl 0 rfl rfl dL_law_836 ?_
        refine ml_iload_n (pc := 837) X hl 3 rfl rfl dL_law_837 ?_
        refine ml_iconst (pc := 838) X dL_law_838 ?_
        obtain ⟨v197, hw⟩ := hw
        refine ml_iadd (pc := 839) X dL_law_839 ?_
        obtain ⟨a198, b198, hw⟩ := hw
        refine ml_sld (pc := 840) (i := x3 + 1) X hn a198 b198 dL_law_840 ?_
        refine ml_aload_n (pc := 841) X hl 0 rfl rfl dL_law_841 ?_
        refine ml_iload_n (pc := 842) X hl 3 rfl rfl dL_law_842 ?_
        refine ml_iconst (pc := 843) X dL_law_843 ?_
        obtain ⟨v199, hw⟩ := hw
        refine ml_iadd (pc := 844) X dL_law_844 ?_
        obtain ⟨a200, b200, hw⟩ := hw
        refine ml_sld (pc := 845) (i := x3 + 2) X hn a200 b200 dL_law_845 ?_
        refine ml_calliV (pc := 846) (rest := []) X [.int (Int32.ofInt (Q (x3 + 1))), .int (Int32.ofInt (Q (x3 + 2)))] (by decide) rfl (ml_k1 (by decide)) (c_X11_is l base D cA 256 (by decide) σ (Q (x3 + 1)) (Q (x3 + 2)) (hn.2.2.2.2.2.1 _) (hn.2.2.2.2.2.1 _) _ hw) cv_L_89 ⟨rfl, rfl⟩ ⟨by decide, by decide⟩ rfl rfl hl (Nat.le_of_ble_eq_true rfl) ⟨by decide, by decide⟩ dL_law_846 (fun r201 σ201 t201 hw => ?_)
        have hw := hw t201
        refine ml_aload_n (pc := 849) X hl 2 rfl rfl dL_law_849 ?_
        refine ml_aload_n (pc := 850) X hl 0 rfl rfl dL_law_850 ?_
        refine ml_iload_n (pc := 851) X hl 3 rfl rfl dL_law_851 ?_
        refine ml_iconst (pc := 852) X dL_law_852 ?_
        obtain ⟨v202, hw⟩ := hw
        refine ml_iadd (pc := 853) X dL_law_853 ?_
        obtain ⟨a203, b203, hw⟩ := hw
        refine ml_sld (pc := 854) (i := x3 + 1) X hn a203 b203 dL_law_854 ?_
        refine ml_aload_n (pc := 855) X hl 0 rfl rfl dL_law_855 ?_
        refine ml_iload_n (pc := 856) X hl 3 rfl rfl dL_law_856 ?_
        refine ml_iconst (pc := 857) X dL_law_857 ?_
        obtain ⟨v204, hw⟩ := hw
        refine ml_iadd (pc := 858) X dL_law_858 ?_
        obtain ⟨a205, b205, hw⟩ := hw
        refine ml_sld (pc := 859) (i := x3 + 2) X hn a205 b205 dL_law_859 ?_
        refine ml_calliV (pc := 860) (rest := [.int (Int32.ofInt r201)]) X [.int (Int32.ofInt (Q (x3 + 1))), .int (Int32.ofInt (Q (x3 + 2)))] (by decide) rfl (ml_k215 (by decide)) (c_X12_is l base D cA 256 (by decide) σ201 (Q (x3 + 1)) (Q (x3 + 2)) (hn.2.2.2.2.2.1 _) (hn.2.2.2.2.2.1 _) _ hw) cv_L_92 ⟨rfl, rfl⟩ ⟨by decide, by decide⟩ rfl rfl hl (Nat.le_of_ble_eq_true rfl) ⟨by decide, by decide⟩ dL_law_860 (fun r206 σ206 t206 hw => ?_)
        have hw := hw t206
        refine ml_icmp_eq (pc := 863) (tgt := 1188) X t201 t206 dL_law_863 (by decide) (fun c207 => ?_) (fun c207 => ?_)
        · have hw := hw.1 c207
          exact u_L_law_1188 X hn ih σ206 x3 h_x3 _ (lv_sub hl [0, 1, 2, 3] rfl) hw
        · have hw := hw.2 c207
          exact hK866 σ206   _ (lv_sub hl [] rfl) hw
      · have hw := hw.2.2.2.2.2.2.2.2.2.2.2.2.2.2.2.2.2.1 c4
        refine ml_tIn (pc := 33) (off := 835) (tgt := 868) X c4 dL_law_33 (by decide) (by decide) (by decide +kernel) (by decide) ?_
        refine ml_aload_n (pc := 868) X hl 1 rfl rfl dL_law_868 ?_
        refine ml_aload_n (pc := 869) X hl 0 rfl rfl dL_law_869 ?_
        refine ml_iload_n (pc := 870) X hl 3 rfl rfl dL_law_870 ?_
        refine ml_iconst (pc := 871) X dL_law_871 ?_
        obtain ⟨v208, hw⟩ := hw
        refine ml_iadd (pc := 872) X dL_law_872 ?_
        obtain ⟨a209, b209, hw⟩ := hw
        refine ml_sld (pc := 873) (i := x3 + 1) X hn a209 b209 dL_law_873 ?_
        refine ml_aload_n (pc := 874) X hl 0 rfl rfl dL_law_874 ?_
        refine ml_iload_n (pc := 875) X hl 3 rfl rfl dL_law_875 ?_
        refine ml_iconst (pc := 876) X dL_law_876 ?_
        obtain ⟨v210, hw⟩ := hw
        refine ml_iadd (pc := 877) X dL_law_877 ?_
        obtain ⟨a211, b211, hw⟩ := hw
        refine ml_sld (pc := 878) (i := x3 + 2) X hn a211 b211 dL_law_878 ?_
        refine ml_aload_n (pc := 879) X hl 0 rfl rfl dL_law_879 ?_
        refine ml_iload_n (pc := 880) X hl 3 rfl rfl dL_law_880 ?_
        refine ml_iconst (pc := 881) X dL_law_881 ?_
        obtain ⟨v212, hw⟩ := hw
        refine ml_iadd (pc := 882) X dL_law_882 ?_
        obtain ⟨a213, b213, hw⟩ := hw
        refine ml_sld (pc := 883) (i := x3 + 3) X hn a213 b213 dL_law_883 ?_
        refine ml_calliV (pc := 884) (rest := []) X [.int (Int32.ofInt (Q (x3 + 1))), .int (Int32.ofInt (Q (x3 + 2))), .int (Int32.ofInt (Q (x3 + 3)))] (by decide) rfl (ml_k1 (by decide)) (c_X11_many l base D cA 256 (by decide) σ (Q (x3 + 1)) (Q (x3 + 2)) (Q (x3 + 3)) (hn.2.2.2.2.2.1 _) (hn.2.2.2.2.2.1 _) (hn.2.2.2.2.2.1 _) _ hw) cv_L_93 ⟨rfl, rfl⟩ ⟨by decide, by decide⟩ rfl rfl hl (Nat.le_of_ble_eq_true rfl) ⟨by decide, by decide⟩ dL_law_884 (fun r214 σ214 t214 hw => ?_)
        have hw := hw t214
        refine ml_aload_n (pc := 887) X hl 2 rfl rfl dL_law_887 ?_
        refine ml_aload_n (pc := 888) X hl 0 rfl rfl dL_law_888 ?_
        refine ml_iload_n (pc := 889) X hl 3 rfl rfl dL_law_889 ?_
        refine ml_iconst (pc := 890) X dL_law_890 ?_
        obtain ⟨v215, hw⟩ := hw
        refine ml_iadd (pc := 891) X dL_law_891 ?_
        obtain ⟨a216, b216, hw⟩ := hw
        refine ml_sld (pc := 892) (i := x3 + 1) X hn a216 b216 dL_law_892 ?_
        refine ml_aload_n (pc := 893) X hl 0 rfl rfl dL_law_893 ?_
        refine ml_iload_n (pc := 894) X hl 3 rfl rfl dL_law_894 ?_
        refine ml_iconst (pc := 895) X dL_law_895 ?_
        obtain ⟨v217, hw⟩ := hw
        refine ml_iadd (pc := 896) X dL_law_896 ?_
        obtain ⟨a218, b218, hw⟩ := hw
        refine ml_sld (pc := 897) (i := x3 + 2) X hn a218 b218 dL_law_897 ?_
        refine ml_aload_n (pc := 898) X hl 0 rfl rfl dL_law_898 ?_
        refine ml_iload_n (pc := 899) X hl 3 rfl rfl dL_law_899 ?_
        refine ml_iconst (pc := 900) X dL_law_900 ?_
        obtain ⟨v219, hw⟩ := hw
        refine ml_iadd (pc := 901) X dL_law_901 ?_
        obtain ⟨a220, b220, hw⟩ := hw
        refine ml_sld (pc := 902) (i := x3 + 3) X hn a220 b220 dL_law_902 ?_
        refine ml_calliV (pc := 903) (rest := [.int (Int32.ofInt r214)]) X [.int (Int32.ofInt (Q (x3 + 1))), .int (Int32.ofInt (Q (x3 + 2))), .int (Int32.ofInt (Q (x3 + 3)))] (by decide) rfl (ml_k215 (by decide)) (c_X12_many l base D cA 256 (by decide) σ214 (Q (x3 + 1)) (Q (x3 + 2)) (Q (x3 + 3)) (hn.2.2.2.2.2.1 _) (hn.2.2.2.2.2.1 _) (hn.2.2.2.2.2.1 _) _ hw) cv_L_96 ⟨rfl, rfl⟩ ⟨by decide, by decide⟩ rfl rfl hl (Nat.le_of_ble_eq_true rfl) ⟨by decide, by decide⟩ dL_law_903 (fun r221 σ221 t221 hw => ?_)
        have hw := hw t221
        refine ml_icmp_eq (pc := 906) (tgt := 1188) X t214 t221 dL_law_906 (by decide) (fun c222 => ?_) (fun c222 => ?_)
        · have hw := hw.1 c222
          exact u_L_law_1188 X hn ih σ221 x3 h_x3 _ (lv_sub hl [0, 1, 2, 3] rfl) hw
        · have hw := hw.2 c222
          exact hK909 σ221   _ (lv_sub hl [] rfl) hw
      · have hw := hw.2.2.2.2.2.2.2.2.2.2.2.2.2.2.2.2.2.2.1 c4
        refine ml_tIn (pc := 33) (off := 878) (tgt := 911) X c4 dL_law_33 (by decide) (by decide) (by decide +kernel) (by decide) ?_
        refine ml_aload_n (pc := 911) X hl 1 rfl rfl dL_law_911 ?_
        refine ml_aload_n (pc := 912) X hl 0 rfl rfl dL_law_912 ?_
        refine ml_iload_n (pc := 913) X hl 3 rfl rfl dL_law_913 ?_
        refine ml_iconst (pc := 914) X dL_law_914 ?_
        obtain ⟨v223, hw⟩ := hw
        refine ml_iadd (pc := 915) X dL_law_915 ?_
        obtain ⟨a224, b224, hw⟩ := hw
        refine ml_sld (pc := 916) (i := x3 + 1) X hn a224 b224 dL_law_916 ?_
        refine ml_calliV (pc := 917) (rest := []) X [.int (Int32.ofInt (Q (x3 + 1)))] (by decide) rfl (ml_k1 (by decide)) (c_X11_made l base D cA 256 (by decide) σ (Q (x3 + 1)) (hn.2.2.2.2.2.1 _) _ hw) cv_L_97 ⟨rfl, rfl⟩ ⟨by decide, by decide⟩ rfl rfl hl (Nat.le_of_ble_eq_true rfl) ⟨by decide, by decide⟩ dL_law_917 (fun r225 σ225 t225 hw => ?_)
        have hw := hw t225
        refine ml_aload_n (pc := 920) X hl 2 rfl rfl dL_law_920 ?_
        refine ml_aload_n (pc := 921) X hl 0 rfl rfl dL_law_921 ?_
        refine ml_iload_n (pc := 922) X hl 3 rfl rfl dL_law_922 ?_
        refine ml_iconst (pc := 923) X dL_law_923 ?_
        obtain ⟨v226, hw⟩ := hw
        refine ml_iadd (pc := 924) X dL_law_924 ?_
        obtain ⟨a227, b227, hw⟩ := hw
        refine ml_sld (pc := 925) (i := x3 + 1) X hn a227 b227 dL_law_925 ?_
        refine ml_calliV (pc := 926) (rest := [.int (Int32.ofInt r225)]) X [.int (Int32.ofInt (Q (x3 + 1)))] (by decide) rfl (ml_k215 (by decide)) (c_X12_made l base D cA 256 (by decide) σ225 (Q (x3 + 1)) (hn.2.2.2.2.2.1 _) _ hw) cv_L_100 ⟨rfl, rfl⟩ ⟨by decide, by decide⟩ rfl rfl hl (Nat.le_of_ble_eq_true rfl) ⟨by decide, by decide⟩ dL_law_926 (fun r228 σ228 t228 hw => ?_)
        have hw := hw t228
        refine ml_icmp_eq (pc := 929) (tgt := 1188) X t225 t228 dL_law_929 (by decide) (fun c229 => ?_) (fun c229 => ?_)
        · have hw := hw.1 c229
          exact u_L_law_1188 X hn ih σ228 x3 h_x3 _ (lv_sub hl [0, 1, 2, 3] rfl) hw
        · have hw := hw.2 c229
          exact hK932 σ228   _ (lv_sub hl [] rfl) hw
      · have hw := hw.2.2.2.2.2.2.2.2.2.2.2.2.2.2.2.2.2.2.2.1 c4
        refine ml_tIn (pc := 33) (off := 901) (tgt := 934) X c4 dL_law_33 (by decide) (by decide) (by decide +kernel) (by decide) ?_
        refine ml_aload_n (pc := 934) X hl 1 rfl rfl dL_law_934 ?_
        refine ml_aload_n (pc := 935) X hl 0 rfl rfl dL_law_935 ?_
        refine ml_iload_n (pc := 936) X hl 3 rfl rfl dL_law_936 ?_
        refine ml_iconst (pc := 937) X dL_law_937 ?_
        obtain ⟨v230, hw⟩ := hw
        refine ml_iadd (pc := 938) X dL_law_938 ?_
        obtain ⟨a231, b231, hw⟩ := hw
        refine ml_sld (pc := 939) (i := x3 + 1) X hn a231 b231 dL_law_939 ?_
        refine ml_aload_n (pc := 940) X hl 0 rfl rfl dL_law_940 ?_
        refine ml_iload_n (pc := 941) X hl 3 rfl rfl dL_law_941 ?_
        refine ml_iconst (pc := 942) X dL_law_942 ?_
        obtain ⟨v232, hw⟩ := hw
        refine ml_iadd (pc := 943) X dL_law_943 ?_
        obtain ⟨a233, b233, hw⟩ := hw
        refine ml_sld (pc := 944) (i := x3 + 2) X hn a233 b233 dL_law_944 ?_
        refine ml_aload_n (pc := 945) X hl 0 rfl rfl dL_law_945 ?_
        refine ml_iload_n (pc := 946) X hl 3 rfl rfl dL_law_946 ?_
        refine ml_iconst (pc := 947) X dL_law_947 ?_
        obtain ⟨v234, hw⟩ := hw
        refine ml_iadd (pc := 948) X dL_law_948 ?_
        obtain ⟨a235, b235, hw⟩ := hw
        refine ml_sld (pc := 949) (i := x3 + 3) X hn a235 b235 dL_law_949 ?_
        refine ml_calliV (pc := 950) (rest := []) X [.int (Int32.ofInt (Q (x3 + 1))), .int (Int32.ofInt (Q (x3 + 2))), .int (Int32.ofInt (Q (x3 + 3)))] (by decide) rfl (ml_k1 (by decide)) (c_X11_shortest l base D cA 256 (by decide) σ (Q (x3 + 1)) (Q (x3 + 2)) (Q (x3 + 3)) (hn.2.2.2.2.2.1 _) (hn.2.2.2.2.2.1 _) (hn.2.2.2.2.2.1 _) _ hw) cv_L_101 ⟨rfl, rfl⟩ ⟨by decide, by decide⟩ rfl rfl hl (Nat.le_of_ble_eq_true rfl) ⟨by decide, by decide⟩ dL_law_950 (fun r236 σ236 t236 hw => ?_)
        have hw := hw t236
        refine ml_aload_n (pc := 953) X hl 2 rfl rfl dL_law_953 ?_
        refine ml_aload_n (pc := 954) X hl 0 rfl rfl dL_law_954 ?_
        refine ml_iload_n (pc := 955) X hl 3 rfl rfl dL_law_955 ?_
        refine ml_iconst (pc := 956) X dL_law_956 ?_
        obtain ⟨v237, hw⟩ := hw
        refine ml_iadd (pc := 957) X dL_law_957 ?_
        obtain ⟨a238, b238, hw⟩ := hw
        refine ml_sld (pc := 958) (i := x3 + 1) X hn a238 b238 dL_law_958 ?_
        refine ml_aload_n (pc := 959) X hl 0 rfl rfl dL_law_959 ?_
        refine ml_iload_n (pc := 960) X hl 3 rfl rfl dL_law_960 ?_
        refine ml_iconst (pc := 961) X dL_law_961 ?_
        obtain ⟨v239, hw⟩ := hw
        refine ml_iadd (pc := 962) X dL_law_962 ?_
        obtain ⟨a240, b240, hw⟩ := hw
        refine ml_sld (pc := 963) (i := x3 + 2) X hn a240 b240 dL_law_963 ?_
        refine ml_aload_n (pc := 964) X hl 0 rfl rfl dL_law_964 ?_
        refine ml_iload_n (pc := 965) X hl 3 rfl rfl dL_law_965 ?_
        refine ml_iconst (pc := 966) X dL_law_966 ?_
        obtain ⟨v241, hw⟩ := hw
        refine ml_iadd (pc := 967) X dL_law_967 ?_
        obtain ⟨a242, b242, hw⟩ := hw
        refine ml_sld (pc := 968) (i := x3 + 3) X hn a242 b242 dL_law_968 ?_
        refine ml_calliV (pc := 969) (rest := [.int (Int32.ofInt r236)]) X [.int (Int32.ofInt (Q (x3 + 1))), .int (Int32.ofInt (Q (x3 + 2))), .int (Int32.ofInt (Q (x3 + 3)))] (by decide) rfl (ml_k215 (by decide)) (c_X12_shortest l base D cA 256 (by decide) σ236 (Q (x3 + 1)) (Q (x3 + 2)) (Q (x3 + 3)) (hn.2.2.2.2.2.1 _) (hn.2.2.2.2.2.1 _) (hn.2.2.2.2.2.1 _) _ hw) cv_L_104 ⟨rfl, rfl⟩ ⟨by decide, by decide⟩ rfl rfl hl (Nat.le_of_ble_eq_true rfl) ⟨by decide, by decide⟩ dL_law_969 (fun r243 σ243 t243 hw => ?_)
        have hw := hw t243
        refine ml_icmp_eq (pc := 972) (tgt := 1188) X t236 t243 dL_law_972 (by decide) (fun c244 => ?_) (fun c244 => ?_)
        · have hw := hw.1 c244
          exact u_L_law_1188 X hn ih σ243 x3 h_x3 _ (lv_sub hl [0, 1, 2, 3] rfl) hw
        · have hw := hw.2 c244
          exact hK975 σ243   _ (lv_sub hl [] rfl) hw
      · have hw := hw.2.2.2.2.2.2.2.2.2.2.2.2.2.2.2.2.2.2.2.2.1 c4
        refine ml_tIn (pc := 33) (off := 944) (tgt := 977) X c4 dL_law_33 (by decide) (by decide) (by decide +kernel) (by decide) ?_
        refine ml_aload_n (pc := 977) X hl 1 rfl rfl dL_law_977 ?_
        refine ml_aload_n (pc := 978) X hl 0 rfl rfl dL_law_978 ?_
        refine ml_iload_n (pc := 979) X hl 3 rfl rfl dL_law_979 ?_
        refine ml_iconst (pc := 980) X dL_law_980 ?_
        obtain ⟨v245, hw⟩ := hw
        refine ml_iadd (pc := 981) X dL_law_981 ?_
        obtain ⟨a246, b246, hw⟩ := hw
        refine ml_sld (pc := 982) (i := x3 + 1) X hn a246 b246 dL_law_982 ?_
        refine ml_aload_n (pc := 983) X hl 0 rfl rfl dL_law_983 ?_
        refine ml_iload_n (pc := 984) X hl 3 rfl rfl dL_law_984 ?_
        refine ml_iconst (pc := 985) X dL_law_985 ?_
        obtain ⟨v247, hw⟩ := hw
        refine ml_iadd (pc := 986) X dL_law_986 ?_
        obtain ⟨a248, b248, hw⟩ := hw
        refine ml_sld (pc := 987) (i := x3 + 2) X hn a248 b248 dL_law_987 ?_
        refine ml_callzV (pc := 988) (rest := []) X [.int (Int32.ofInt (Q (x3 + 1))), .int (Int32.ofInt (Q (x3 + 2)))] (by decide) rfl (ml_k1 (by decide)) (c_X11_cost l base D cA 256 (by decide) σ (Q (x3 + 1)) (Q (x3 + 2)) (hn.2.2.2.2.2.1 _) (hn.2.2.2.2.2.1 _) _ hw) cv_L_105 ⟨rfl, rfl⟩ ⟨by decide, by decide⟩ rfl rfl hl (Nat.le_of_ble_eq_true rfl) ⟨by decide, by decide⟩ dL_law_988 (fun r249 σ249 t249 hw => ?_)
        have hw := hw t249
        refine ml_aload_n (pc := 991) X hl 2 rfl rfl dL_law_991 ?_
        refine ml_aload_n (pc := 992) X hl 0 rfl rfl dL_law_992 ?_
        refine ml_iload_n (pc := 993) X hl 3 rfl rfl dL_law_993 ?_
        refine ml_iconst (pc := 994) X dL_law_994 ?_
        obtain ⟨v250, hw⟩ := hw
        refine ml_iadd (pc := 995) X dL_law_995 ?_
        obtain ⟨a251, b251, hw⟩ := hw
        refine ml_sld (pc := 996) (i := x3 + 1) X hn a251 b251 dL_law_996 ?_
        refine ml_aload_n (pc := 997) X hl 0 rfl rfl dL_law_997 ?_
        refine ml_iload_n (pc := 998) X hl 3 rfl rfl dL_law_998 ?_
        refine ml_iconst (pc := 999) X dL_law_999 ?_
        obtain ⟨v252, hw⟩ := hw
        refine ml_iadd (pc := 1000) X dL_law_1000 ?_
        obtain ⟨a253, b253, hw⟩ := hw
        refine ml_sld (pc := 1001) (i := x3 + 2) X hn a253 b253 dL_law_1001 ?_
        refine ml_callzV (pc := 1002) (rest := [.int (Int32.ofInt r249)]) X [.int (Int32.ofInt (Q (x3 + 1))), .int (Int32.ofInt (Q (x3 + 2)))] (by decide) rfl (ml_k215 (by decide)) (c_X12_cost l base D cA 256 (by decide) σ249 (Q (x3 + 1)) (Q (x3 + 2)) (hn.2.2.2.2.2.1 _) (hn.2.2.2.2.2.1 _) _ hw) cv_L_109 ⟨rfl, rfl⟩ ⟨by decide, by decide⟩ rfl rfl hl (Nat.le_of_ble_eq_true rfl) ⟨by decide, by decide⟩ dL_law_1002 (fun r254 σ254 t254 hw => ?_)
        have hw := hw t254
        refine ml_icmp_eq (pc := 1005) (tgt := 1188) X t249.i t254.i dL_law_1005 (by decide) (fun c255 => ?_) (fun c255 => ?_)
        · have hw := hw.1 c255
          exact u_L_law_1188 X hn ih σ254 x3 h_x3 _ (lv_sub hl [0, 1, 2, 3] rfl) hw
        · have hw := hw.2 c255
          exact hK1008 σ254   _ (lv_sub hl [] rfl) hw
      · have hw := hw.2.2.2.2.2.2.2.2.2.2.2.2.2.2.2.2.2.2.2.2.2.1 c4
        refine ml_tIn (pc := 33) (off := 977) (tgt := 1010) X c4 dL_law_33 (by decide) (by decide) (by decide +kernel) (by decide) ?_
        refine ml_aload_n (pc := 1010) X hl 1 rfl rfl dL_law_1010 ?_
        refine ml_aload_n (pc := 1011) X hl 0 rfl rfl dL_law_1011 ?_
        refine ml_iload_n (pc := 1012) X hl 3 rfl rfl dL_law_1012 ?_
        refine ml_iconst (pc := 1013) X dL_law_1013 ?_
        obtain ⟨v256, hw⟩ := hw
        refine ml_iadd (pc := 1014) X dL_law_1014 ?_
        obtain ⟨a257, b257, hw⟩ := hw
        refine ml_sld (pc := 1015) (i := x3 + 1) X hn a257 b257 dL_law_1015 ?_
        refine ml_aload_n (pc := 1016) X hl 0 rfl rfl dL_law_1016 ?_
        refine ml_iload_n (pc := 1017) X hl 3 rfl rfl dL_law_1017 ?_
        refine ml_iconst (pc := 1018) X dL_law_1018 ?_
        obtain ⟨v258, hw⟩ := hw
        refine ml_iadd (pc := 1019) X dL_law_1019 ?_
        obtain ⟨a259, b259, hw⟩ := hw
        refine ml_sld (pc := 1020) (i := x3 + 2) X hn a259 b259 dL_law_1020 ?_
        refine ml_aload_n (pc := 1021) X hl 0 rfl rfl dL_law_1021 ?_
        refine ml_iload_n (pc := 1022) X hl 3 rfl rfl dL_law_1022 ?_
        refine ml_iconst (pc := 1023) X dL_law_1023 ?_
        obtain ⟨v260, hw⟩ := hw
        refine ml_iadd (pc := 1024) X dL_law_1024 ?_
        obtain ⟨a261, b261, hw⟩ := hw
        refine ml_sld (pc := 1025) (i := x3 + 3) X hn a261 b261 dL_law_1025 ?_
        refine ml_calliV (pc := 1026) (rest := []) X [.int (Int32.ofInt (Q (x3 + 1))), .int (Int32.ofInt (Q (x3 + 2))), .int (Int32.ofInt (Q (x3 + 3)))] (by decide) rfl (ml_k1 (by decide)) (c_X11_cheapest l base D cA 256 (by decide) σ (Q (x3 + 1)) (Q (x3 + 2)) (Q (x3 + 3)) (hn.2.2.2.2.2.1 _) (hn.2.2.2.2.2.1 _) (hn.2.2.2.2.2.1 _) _ hw) cv_L_110 ⟨rfl, rfl⟩ ⟨by decide, by decide⟩ rfl rfl hl (Nat.le_of_ble_eq_true rfl) ⟨by decide, by decide⟩ dL_law_1026 (fun r262 σ262 t262 hw => ?_)
        have hw := hw t262
        refine ml_aload_n (pc := 1029) X hl 2 rfl rfl dL_law_1029 ?_
        refine ml_aload_n (pc := 1030) X hl 0 rfl rfl dL_law_1030 ?_
        refine ml_iload_n (pc := 1031) X hl 3 rfl rfl dL_law_1031 ?_
        refine ml_iconst (pc := 1032) X dL_law_1032 ?_
        obtain ⟨v263, hw⟩ := hw
        refine ml_iadd (pc := 1033) X dL_law_1033 ?_
        obtain ⟨a264, b264, hw⟩ := hw
        refine ml_sld (pc := 1034) (i := x3 + 1) X hn a264 b264 dL_law_1034 ?_
        refine ml_aload_n (pc := 1035) X hl 0 rfl rfl dL_law_1035 ?_
        refine ml_iload_n (pc := 1036) X hl 3 rfl rfl dL_law_1036 ?_
        refine ml_iconst (pc := 1037) X dL_law_1037 ?_
        obtain ⟨v265, hw⟩ := hw
        refine ml_iadd (pc := 1038) X dL_law_1038 ?_
        obtain ⟨a266, b266, hw⟩ := hw
        refine ml_sld (pc := 1039) (i := x3 + 2) X hn a266 b266 dL_law_1039 ?_
        refine ml_aload_n (pc := 1040) X hl 0 rfl rfl dL_law_1040 ?_
        refine ml_iload_n (pc := 1041) X hl 3 rfl rfl dL_law_1041 ?_
        refine ml_iconst (pc := 1042) X dL_law_1042 ?_
        obtain ⟨v267, hw⟩ := hw
        refine ml_iadd (pc := 1043) X dL_law_1043 ?_
        obtain ⟨a268, b268, hw⟩ := hw
        refine ml_sld (pc := 1044) (i := x3 + 3) X hn a268 b268 dL_law_1044 ?_
        refine ml_calliV (pc := 1045) (rest := [.int (Int32.ofInt r262)]) X [.int (Int32.ofInt (Q (x3 + 1))), .int (Int32.ofInt (Q (x3 + 2))), .int (Int32.ofInt (Q (x3 + 3)))] (by decide) rfl (ml_k215 (by decide)) (c_X12_cheapest l base D cA 256 (by decide) σ262 (Q (x3 + 1)) (Q (x3 + 2)) (Q (x3 + 3)) (hn.2.2.2.2.2.1 _) (hn.2.2.2.2.2.1 _) (hn.2.2.2.2.2.1 _) _ hw) cv_L_113 ⟨rfl, rfl⟩ ⟨by decide, by decide⟩ rfl rfl hl (Nat.le_of_ble_eq_true rfl) ⟨by decide, by decide⟩ dL_law_1045 (fun r269 σ269 t269 hw => ?_)
        have hw := hw t269
        refine ml_icmp_eq (pc := 1048) (tgt := 1188) X t262 t269 dL_law_1048 (by decide) (fun c270 => ?_) (fun c270 => ?_)
        · have hw := hw.1 c270
          exact u_L_law_1188 X hn ih σ269 x3 h_x3 _ (lv_sub hl [0, 1, 2, 3] rfl) hw
        · have hw := hw.2 c270
          exact hK1051 σ269   _ (lv_sub hl [] rfl) hw
      · have hw := hw.2.2.2.2.2.2.2.2.2.2.2.2.2.2.2.2.2.2.2.2.2.2.1 c4
        refine ml_tIn (pc := 33) (off := 1020) (tgt := 1053) X c4 dL_law_33 (by decide) (by decide) (by decide +kernel) (by decide) ?_
        refine ml_aload_n (pc := 1053) X hl 1 rfl rfl dL_law_1053 ?_
        refine ml_aload_n (pc := 1054) X hl 0 rfl rfl dL_law_1054 ?_
        refine ml_iload_n (pc := 1055) X hl 3 rfl rfl dL_law_1055 ?_
        refine ml_iconst (pc := 1056) X dL_law_1056 ?_
        obtain ⟨v271, hw⟩ := hw
        refine ml_iadd (pc := 1057) X dL_law_1057 ?_
        obtain ⟨a272, b272, hw⟩ := hw
        refine ml_sld (pc := 1058) (i := x3 + 1) X hn a272 b272 dL_law_1058 ?_
        refine ml_calliV (pc := 1059) (rest := []) X [.int (Int32.ofInt (Q (x3 + 1)))] (by decide) rfl (ml_k1 (by decide)) (c_X11_mend l base D cA 256 (by decide) σ (Q (x3 + 1)) (hn.2.2.2.2.2.1 _) _ hw) cv_L_114 ⟨rfl, rfl⟩ ⟨by decide, by decide⟩ rfl rfl hl (Nat.le_of_ble_eq_true rfl) ⟨by decide, by decide⟩ dL_law_1059 (fun r273 σ273 t273 hw => ?_)
        have hw := hw t273
        refine ml_aload_n (pc := 1062) X hl 2 rfl rfl dL_law_1062 ?_
        refine ml_aload_n (pc := 1063) X hl 0 rfl rfl dL_law_1063 ?_
        refine ml_iload_n (pc := 1064) X hl 3 rfl rfl dL_law_1064 ?_
        refine ml_iconst (pc := 1065) X dL_law_1065 ?_
        obtain ⟨v274, hw⟩ := hw
        refine ml_iadd (pc := 1066) X dL_law_1066 ?_
        obtain ⟨a275, b275, hw⟩ := hw
        refine ml_sld (pc := 1067) (i := x3 + 1) X hn a275 b275 dL_law_1067 ?_
        refine ml_calliV (pc := 1068) (rest := [.int (Int32.ofInt r273)]) X [.int (Int32.ofInt (Q (x3 + 1)))] (by decide) rfl (ml_k215 (by decide)) (c_X12_mend l base D cA 256 (by decide) σ273 (Q (x3 + 1)) (hn.2.2.2.2.2.1 _) _ hw) cv_L_117 ⟨rfl, rfl⟩ ⟨by decide, by decide⟩ rfl rfl hl (Nat.le_of_ble_eq_true rfl) ⟨by decide, by decide⟩ dL_law_1068 (fun r276 σ276 t276 hw => ?_)
        have hw := hw t276
        refine ml_icmp_eq (pc := 1071) (tgt := 1188) X t273 t276 dL_law_1071 (by decide) (fun c277 => ?_) (fun c277 => ?_)
        · have hw := hw.1 c277
          exact u_L_law_1188 X hn ih σ276 x3 h_x3 _ (lv_sub hl [0, 1, 2, 3] rfl) hw
        · have hw := hw.2 c277
          exact hK1074 σ276   _ (lv_sub hl [] rfl) hw
      · have hw := hw.2.2.2.2.2.2.2.2.2.2.2.2.2.2.2.2.2.2.2.2.2.2.2.1 c4
        refine ml_tIn (pc := 33) (off := 1043) (tgt := 1076) X c4 dL_law_33 (by decide) (by decide) (by decide +kernel) (by decide) ?_
        refine ml_aload_n (pc := 1076) X hl 1 rfl rfl dL_law_1076 ?_
        refine ml_aload_n (pc := 1077) X hl 0 rfl rfl dL_law_1077 ?_
        refine ml_iload_n (pc := 1078) X hl 3 rfl rfl dL_law_1078 ?_
        refine ml_iconst (pc := 1079) X dL_law_1079 ?_
        obtain ⟨v278, hw⟩ := hw
        refine ml_iadd (pc := 1080) X dL_law_1080 ?_
        obtain ⟨a279, b279, hw⟩ := hw
        refine ml_sld (pc := 1081) (i := x3 + 1) X hn a279 b279 dL_law_1081 ?_
        refine ml_calliV (pc := 1082) (rest := []) X [.int (Int32.ofInt (Q (x3 + 1)))] (by decide) rfl (ml_k1 (by decide)) (c_X11_back l base D cA 256 (by decide) σ (Q (x3 + 1)) (hn.2.2.2.2.2.1 _) _ hw) cv_L_118 ⟨rfl, rfl⟩ ⟨by decide, by decide⟩ rfl rfl hl (Nat.le_of_ble_eq_true rfl) ⟨by decide, by decide⟩ dL_law_1082 (fun r280 σ280 t280 hw => ?_)
        have hw := hw t280
        refine ml_aload_n (pc := 1085) X hl 2 rfl rfl dL_law_1085 ?_
        refine ml_aload_n (pc := 1086) X hl 0 rfl rfl dL_law_1086 ?_
        refine ml_iload_n (pc := 1087) X hl 3 rfl rfl dL_law_1087 ?_
        refine ml_iconst (pc := 1088) X dL_law_1088 ?_
        obtain ⟨v281, hw⟩ := hw
        refine ml_iadd (pc := 1089) X dL_law_1089 ?_
        obtain ⟨a282, b282, hw⟩ := hw
        refine ml_sld (pc := 1090) (i := x3 + 1) X hn a282 b282 dL_law_1090 ?_
        refine ml_calliV (pc := 1091) (rest := [.int (Int32.ofInt r280)]) X [.int (Int32.ofInt (Q (x3 + 1)))] (by decide) rfl (ml_k215 (by decide)) (c_X12_back l base D cA 256 (by decide) σ280 (Q (x3 + 1)) (hn.2.2.2.2.2.1 _) _ hw) cv_L_121 ⟨rfl, rfl⟩ ⟨by decide, by decide⟩ rfl rfl hl (Nat.le_of_ble_eq_true rfl) ⟨by decide, by decide⟩ dL_law_1091 (fun r283 σ283 t283 hw => ?_)
        have hw := hw t283
        refine ml_icmp_eq (pc := 1094) (tgt := 1188) X t280 t283 dL_law_1094 (by decide) (fun c284 => ?_) (fun c284 => ?_)
        · have hw := hw.1 c284
          exact u_L_law_1188 X hn ih σ283 x3 h_x3 _ (lv_sub hl [0, 1, 2, 3] rfl) hw
        · have hw := hw.2 c284
          exact hK1097 σ283   _ (lv_sub hl [] rfl) hw
      · have hw := hw.2.2.2.2.2.2.2.2.2.2.2.2.2.2.2.2.2.2.2.2.2.2.2.2.1 c4
        refine ml_tIn (pc := 33) (off := 1066) (tgt := 1099) X c4 dL_law_33 (by decide) (by decide) (by decide +kernel) (by decide) ?_
        refine ml_aload_n (pc := 1099) X hl 1 rfl rfl dL_law_1099 ?_
        refine ml_aload_n (pc := 1100) X hl 0 rfl rfl dL_law_1100 ?_
        refine ml_iload_n (pc := 1101) X hl 3 rfl rfl dL_law_1101 ?_
        refine ml_iconst (pc := 1102) X dL_law_1102 ?_
        obtain ⟨v285, hw⟩ := hw
        refine ml_iadd (pc := 1103) X dL_law_1103 ?_
        obtain ⟨a286, b286, hw⟩ := hw
        refine ml_sld (pc := 1104) (i := x3 + 1) X hn a286 b286 dL_law_1104 ?_
        refine ml_aload_n (pc := 1105) X hl 0 rfl rfl dL_law_1105 ?_
        refine ml_iload_n (pc := 1106) X hl 3 rfl rfl dL_law_1106 ?_
        refine ml_iconst (pc := 1107) X dL_law_1107 ?_
        obtain ⟨v287, hw⟩ := hw
        refine ml_iadd (pc := 1108) X dL_law_1108 ?_
        obtain ⟨a288, b288, hw⟩ := hw
        refine ml_sld (pc := 1109) (i := x3 + 2) X hn a288 b288 dL_law_1109 ?_
        refine ml_aload_n (pc := 1110) X hl 0 rfl rfl dL_law_1110 ?_
        refine ml_iload_n (pc := 1111) X hl 3 rfl rfl dL_law_1111 ?_
        refine ml_iconst (pc := 1112) X dL_law_1112 ?_
        obtain ⟨v289, hw⟩ := hw
        refine ml_iadd (pc := 1113) X dL_law_1113 ?_
        obtain ⟨a290, b290, hw⟩ := hw
        refine ml_sld (pc := 1114) (i := x3 + 3) X hn a290 b290 dL_law_1114 ?_
        refine ml_calliV (pc := 1115) (rest := []) X [.int (Int32.ofInt (Q (x3 + 1))), .int (Int32.ofInt (Q (x3 + 2))), .int (Int32.ofInt (Q (x3 + 3)))] (by decide) rfl (ml_k1 (by decide)) (c_X11_walk l base D cA 256 (by decide) σ (Q (x3 + 1)) (Q (x3 + 2)) (Q (x3 + 3)) (hn.2.2.2.2.2.1 _) (hn.2.2.2.2.2.1 _) (hn.2.2.2.2.2.1 _) _ hw) cv_L_122 ⟨rfl, rfl⟩ ⟨by decide, by decide⟩ rfl rfl hl (Nat.le_of_ble_eq_true rfl) ⟨by decide, by decide⟩ dL_law_1115 (fun r291 σ291 t291 hw => ?_)
        have hw := hw t291
        refine ml_aload_n (pc := 1118) X hl 2 rfl rfl dL_law_1118 ?_
        refine ml_aload_n (pc := 1119) X hl 0 rfl rfl dL_law_1119 ?_
        refine ml_iload_n (pc := 1120) X hl 3 rfl rfl dL_law_1120 ?_
        refine ml_iconst (pc := 1121) X dL_law_1121 ?_
        obtain ⟨v292, hw⟩ := hw
        refine ml_iadd (pc := 1122) X dL_law_1122 ?_
        obtain ⟨a293, b293, hw⟩ := hw
        refine ml_sld (pc := 1123) (i := x3 + 1) X hn a293 b293 dL_law_1123 ?_
        refine ml_aload_n (pc := 1124) X hl 0 rfl rfl dL_law_1124 ?_
        refine ml_iload_n (pc := 1125) X hl 3 rfl rfl dL_law_1125 ?_
        refine ml_iconst (pc := 1126) X dL_law_1126 ?_
        obtain ⟨v294, hw⟩ := hw
        refine ml_iadd (pc := 1127) X dL_law_1127 ?_
        obtain ⟨a295, b295, hw⟩ := hw
        refine ml_sld (pc := 1128) (i := x3 + 2) X hn a295 b295 dL_law_1128 ?_
        refine ml_aload_n (pc := 1129) X hl 0 rfl rfl dL_law_1129 ?_
        refine ml_iload_n (pc := 1130) X hl 3 rfl rfl dL_law_1130 ?_
        refine ml_iconst (pc := 1131) X dL_law_1131 ?_
        obtain ⟨v296, hw⟩ := hw
        refine ml_iadd (pc := 1132) X dL_law_1132 ?_
        obtain ⟨a297, b297, hw⟩ := hw
        refine ml_sld (pc := 1133) (i := x3 + 3) X hn a297 b297 dL_law_1133 ?_
        refine ml_calliV (pc := 1134) (rest := [.int (Int32.ofInt r291)]) X [.int (Int32.ofInt (Q (x3 + 1))), .int (Int32.ofInt (Q (x3 + 2))), .int (Int32.ofInt (Q (x3 + 3)))] (by decide) rfl (ml_k215 (by decide)) (c_X12_walk l base D cA 256 (by decide) σ291 (Q (x3 + 1)) (Q (x3 + 2)) (Q (x3 + 3)) (hn.2.2.2.2.2.1 _) (hn.2.2.2.2.2.1 _) (hn.2.2.2.2.2.1 _) _ hw) cv_L_125 ⟨rfl, rfl⟩ ⟨by decide, by decide⟩ rfl rfl hl (Nat.le_of_ble_eq_true rfl) ⟨by decide, by decide⟩ dL_law_1134 (fun r298 σ298 t298 hw => ?_)
        have hw := hw t298
        refine ml_icmp_eq (pc := 1137) (tgt := 1188) X t291 t298 dL_law_1137 (by decide) (fun c299 => ?_) (fun c299 => ?_)
        · have hw := hw.1 c299
          exact u_L_law_1188 X hn ih σ298 x3 h_x3 _ (lv_sub hl [0, 1, 2, 3] rfl) hw
        · have hw := hw.2 c299
          exact hK1140 σ298   _ (lv_sub hl [] rfl) hw
      · have hw := hw.2.2.2.2.2.2.2.2.2.2.2.2.2.2.2.2.2.2.2.2.2.2.2.2.2.1 c4
        refine ml_tIn (pc := 33) (off := 1109) (tgt := 1142) X c4 dL_law_33 (by decide) (by decide) (by decide +kernel) (by decide) ?_
        refine ml_aload_n (pc := 1142) X hl 1 rfl rfl dL_law_1142 ?_
        refine ml_aload_n (pc := 1143) X hl 0 rfl rfl dL_law_1143 ?_
        refine ml_iload_n (pc := 1144) X hl 3 rfl rfl dL_law_1144 ?_
        refine ml_iconst (pc := 1145) X dL_law_1145 ?_
        obtain ⟨v300, hw⟩ := hw
        refine ml_iadd (pc := 1146) X dL_law_1146 ?_
        obtain ⟨a301, b301, hw⟩ := hw
        refine ml_sld (pc := 1147) (i := x3 + 1) X hn a301 b301 dL_law_1147 ?_
        refine ml_calliV (pc := 1148) (rest := []) X [.int (Int32.ofInt (Q (x3 + 1)))] (by decide) rfl (ml_k1 (by decide)) (c_X11_check l base D cA 256 (by decide) σ (Q (x3 + 1)) (hn.2.2.2.2.2.1 _) _ hw) cv_L_126 ⟨rfl, rfl⟩ ⟨by decide, by decide⟩ rfl rfl hl (Nat.le_of_ble_eq_true rfl) ⟨by decide, by decide⟩ dL_law_1148 (fun r302 σ302 t302 hw => ?_)
        have hw := hw t302
        refine ml_aload_n (pc := 1151) X hl 2 rfl rfl dL_law_1151 ?_
        refine ml_aload_n (pc := 1152) X hl 0 rfl rfl dL_law_1152 ?_
        refine ml_iload_n (pc := 1153) X hl 3 rfl rfl dL_law_1153 ?_
        refine ml_iconst (pc := 1154) X dL_law_1154 ?_
        obtain ⟨v303, hw⟩ := hw
        refine ml_iadd (pc := 1155) X dL_law_1155 ?_
        obtain ⟨a304, b304, hw⟩ := hw
        refine ml_sld (pc := 1156) (i := x3 + 1) X hn a304 b304 dL_law_1156 ?_
        refine ml_calliV (pc := 1157) (rest := [.int (Int32.ofInt r302)]) X [.int (Int32.ofInt (Q (x3 + 1)))] (by decide) rfl (ml_k215 (by decide)) (c_X12_check l base D cA 256 (by decide) σ302 (Q (x3 + 1)) (hn.2.2.2.2.2.1 _) _ hw) cv_L_129 ⟨rfl, rfl⟩ ⟨by decide, by decide⟩ rfl rfl hl (Nat.le_of_ble_eq_true rfl) ⟨by decide, by decide⟩ dL_law_1157 (fun r305 σ305 t305 hw => ?_)
        have hw := hw t305
        refine ml_icmp_eq (pc := 1160) (tgt := 1188) X t302 t305 dL_law_1160 (by decide) (fun c306 => ?_) (fun c306 => ?_)
        · have hw := hw.1 c306
          exact u_L_law_1188 X hn ih σ305 x3 h_x3 _ (lv_sub hl [0, 1, 2, 3] rfl) hw
        · have hw := hw.2 c306
          exact hK1163 σ305   _ (lv_sub hl [] rfl) hw
      · have hw := hw.2.2.2.2.2.2.2.2.2.2.2.2.2.2.2.2.2.2.2.2.2.2.2.2.2.2.1 c4
        refine ml_tIn (pc := 33) (off := 1132) (tgt := 1165) X c4 dL_law_33 (by decide) (by decide) (by decide +kernel) (by decide) ?_
        refine ml_aload_n (pc := 1165) X hl 1 rfl rfl dL_law_1165 ?_
        refine ml_aload_n (pc := 1166) X hl 0 rfl rfl dL_law_1166 ?_
        refine ml_iload_n (pc := 1167) X hl 3 rfl rfl dL_law_1167 ?_
        refine ml_iconst (pc := 1168) X dL_law_1168 ?_
        obtain ⟨v307, hw⟩ := hw
        refine ml_iadd (pc := 1169) X dL_law_1169 ?_
        obtain ⟨a308, b308, hw⟩ := hw
        refine ml_sld (pc := 1170) (i := x3 + 1) X hn a308 b308 dL_law_1170 ?_
        refine ml_calliV (pc := 1171) (rest := []) X [.int (Int32.ofInt (Q (x3 + 1)))] (by decide) rfl (ml_k1 (by decide)) (c_X11_count l base D cA 256 (by decide) σ (Q (x3 + 1)) (hn.2.2.2.2.2.1 _) _ hw) cv_L_130 ⟨rfl, rfl⟩ ⟨by decide, by decide⟩ rfl rfl hl (Nat.le_of_ble_eq_true rfl) ⟨by decide, by decide⟩ dL_law_1171 (fun r309 σ309 t309 hw => ?_)
        have hw := hw t309
        refine ml_aload_n (pc := 1174) X hl 2 rfl rfl dL_law_1174 ?_
        refine ml_aload_n (pc := 1175) X hl 0 rfl rfl dL_law_1175 ?_
        refine ml_iload_n (pc := 1176) X hl 3 rfl rfl dL_law_1176 ?_
        refine ml_iconst (pc := 1177) X dL_law_1177 ?_
        obtain ⟨v310, hw⟩ := hw
        refine ml_iadd (pc := 1178) X dL_law_1178 ?_
        obtain ⟨a311, b311, hw⟩ := hw
        refine ml_sld (pc := 1179) (i := x3 + 1) X hn a311 b311 dL_law_1179 ?_
        refine ml_calliV (pc := 1180) (rest := [.int (Int32.ofInt r309)]) X [.int (Int32.ofInt (Q (x3 + 1)))] (by decide) rfl (ml_k215 (by decide)) (c_X12_count l base D cA 256 (by decide) σ309 (Q (x3 + 1)) (hn.2.2.2.2.2.1 _) _ hw) cv_L_133 ⟨rfl, rfl⟩ ⟨by decide, by decide⟩ rfl rfl hl (Nat.le_of_ble_eq_true rfl) ⟨by decide, by decide⟩ dL_law_1180 (fun r312 σ312 t312 hw => ?_)
        have hw := hw t312
        refine ml_icmp_eq (pc := 1183) (tgt := 1188) X t309 t312 dL_law_1183 (by decide) (fun c313 => ?_) (fun c313 => ?_)
        · have hw := hw.1 c313
          exact u_L_law_1188 X hn ih σ312 x3 h_x3 _ (lv_sub hl [0, 1, 2, 3] rfl) hw
        · have hw := hw.2 c313
          exact hK1186 σ312   _ (lv_sub hl [] rfl) hw
      · have hw := hw.2.2.2.2.2.2.2.2.2.2.2.2.2.2.2.2.2.2.2.2.2.2.2.2.2.2.2 c4
        refine ml_tOut (pc := 33) (tgt := 1188) X (b_and_r _ _) dL_law_33 c4 (by decide) ?_
        exact u_L_law_1188 X hn ih σ x3 h_x3 _ (lv_sub hl [0, 1, 2, 3] rfl) hw
set_option maxRecDepth 100000 in
set_option maxHeartbeats 8000000 in
theorem u_L_law_177 {p : Program} {e : Env} {s : State} {m : MethodId} {below : List Frame} {meth : Method} {c : Code} {base : Nat} {D : va_G} {cA : Nat → ClassId} {l : Launch} {b : Nat} {L : Int} {xs : Nat → Int32} {Q : Int → Int} (X : ml_X p s m c meth #[Value.ref b] D cA cL_law 4 RL ret) (hn : lw_S s base b L xs Q) (σ : ml_St) (ls : Array Slot) (hl : lv_has ls 4 []) (hw : f_L_law_u177 Q L σ) : ml_V p l e room_1 s m #[Value.ref b] below meth c (lw_Z below #[Value.ref b] s) base D cA 256 163205 256 (256) σ (F0 m 177 ls []) := by
  unfold f_L_law_u177 at hw
  refine ml_iconst (pc := 177) X dL_law_177 ?_
  exact hw.elim
set_option maxRecDepth 100000 in
set_option maxHeartbeats 8000000 in
theorem u_L_law_240 {p : Program} {e : Env} {s : State} {m : MethodId} {below : List Frame} {meth : Method} {c : Code} {base : Nat} {D : va_G} {cA : Nat → ClassId} {l : Launch} {b : Nat} {L : Int} {xs : Nat → Int32} {Q : Int → Int} (X : ml_X p s m c meth #[Value.ref b] D cA cL_law 4 RL ret) (hn : lw_S s base b L xs Q) (σ : ml_St) (ls : Array Slot) (hl : lv_has ls 4 []) (hw : f_L_law_u240 Q L σ) : ml_V p l e room_1 s m #[Value.ref b] below meth c (lw_Z below #[Value.ref b] s) base D cA 256 163205 256 (256) σ (F0 m 240 ls []) := by
  unfold f_L_law_u240 at hw
  refine ml_iconst (pc := 240) X dL_law_240 ?_
  exact hw.elim
set_option maxRecDepth 100000 in
set_option maxHeartbeats 8000000 in
theorem u_L_law_263 {p : Program} {e : Env} {s : State} {m : MethodId} {below : List Frame} {meth : Method} {c : Code} {base : Nat} {D : va_G} {cA : Nat → ClassId} {l : Launch} {b : Nat} {L : Int} {xs : Nat → Int32} {Q : Int → Int} (X : ml_X p s m c meth #[Value.ref b] D cA cL_law 4 RL ret) (hn : lw_S s base b L xs Q) (σ : ml_St) (ls : Array Slot) (hl : lv_has ls 4 []) (hw : f_L_law_u263 Q L σ) : ml_V p l e room_1 s m #[Value.ref b] below meth c (lw_Z below #[Value.ref b] s) base D cA 256 163205 256 (256) σ (F0 m 263 ls []) := by
  unfold f_L_law_u263 at hw
  refine ml_iconst (pc := 263) X dL_law_263 ?_
  exact hw.elim
set_option maxRecDepth 100000 in
set_option maxHeartbeats 8000000 in
theorem u_L_law_296 {p : Program} {e : Env} {s : State} {m : MethodId} {below : List Frame} {meth : Method} {c : Code} {base : Nat} {D : va_G} {cA : Nat → ClassId} {l : Launch} {b : Nat} {L : Int} {xs : Nat → Int32} {Q : Int → Int} (X : ml_X p s m c meth #[Value.ref b] D cA cL_law 4 RL ret) (hn : lw_S s base b L xs Q) (σ : ml_St) (ls : Array Slot) (hl : lv_has ls 4 []) (hw : f_L_law_u296 Q L σ) : ml_V p l e room_1 s m #[Value.ref b] below meth c (lw_Z below #[Value.ref b] s) base D cA 256 163205 256 (256) σ (F0 m 296 ls []) := by
  unfold f_L_law_u296 at hw
  refine ml_iconst (pc := 296) X dL_law_296 ?_
  exact hw.elim
set_option maxRecDepth 100000 in
set_option maxHeartbeats 8000000 in
theorem u_L_law_309 {p : Program} {e : Env} {s : State} {m : MethodId} {below : List Frame} {meth : Method} {c : Code} {base : Nat} {D : va_G} {cA : Nat → ClassId} {l : Launch} {b : Nat} {L : Int} {xs : Nat → Int32} {Q : Int → Int} (X : ml_X p s m c meth #[Value.ref b] D cA cL_law 4 RL ret) (hn : lw_S s base b L xs Q) (σ : ml_St) (ls : Array Slot) (hl : lv_has ls 4 []) (hw : f_L_law_u309 Q L σ) : ml_V p l e room_1 s m #[Value.ref b] below meth c (lw_Z below #[Value.ref b] s) base D cA 256 163205 256 (256) σ (F0 m 309 ls []) := by
  unfold f_L_law_u309 at hw
  refine ml_iconst (pc := 309) X dL_law_309 ?_
  exact hw.elim
set_option maxRecDepth 100000 in
set_option maxHeartbeats 8000000 in
theorem u_L_law_322 {p : Program} {e : Env} {s : State} {m : MethodId} {below : List Frame} {meth : Method} {c : Code} {base : Nat} {D : va_G} {cA : Nat → ClassId} {l : Launch} {b : Nat} {L : Int} {xs : Nat → Int32} {Q : Int → Int} (X : ml_X p s m c meth #[Value.ref b] D cA cL_law 4 RL ret) (hn : lw_S s base b L xs Q) (σ : ml_St) (ls : Array Slot) (hl : lv_has ls 4 []) (hw : f_L_law_u322 Q L σ) : ml_V p l e room_1 s m #[Value.ref b] below meth c (lw_Z below #[Value.ref b] s) base D cA 256 163205 256 (256) σ (F0 m 322 ls []) := by
  unfold f_L_law_u322 at hw
  refine ml_iconst (pc := 322) X dL_law_322 ?_
  exact hw.elim
set_option maxRecDepth 100000 in
set_option maxHeartbeats 8000000 in
theorem u_L_law_346 {p : Program} {e : Env} {s : State} {m : MethodId} {below : List Frame} {meth : Method} {c : Code} {base : Nat} {D : va_G} {cA : Nat → ClassId} {l : Launch} {b : Nat} {L : Int} {xs : Nat → Int32} {Q : Int → Int} (X : ml_X p s m c meth #[Value.ref b] D cA cL_law 4 RL ret) (hn : lw_S s base b L xs Q) (σ : ml_St) (ls : Array Slot) (hl : lv_has ls 4 []) (hw : f_L_law_u346 Q L σ) : ml_V p l e room_1 s m #[Value.ref b] below meth c (lw_Z below #[Value.ref b] s) base D cA 256 163205 256 (256) σ (F0 m 346 ls []) := by
  unfold f_L_law_u346 at hw
  refine ml_iconst (pc := 346) X dL_law_346 ?_
  exact hw.elim
set_option maxRecDepth 100000 in
set_option maxHeartbeats 8000000 in
theorem u_L_law_379 {p : Program} {e : Env} {s : State} {m : MethodId} {below : List Frame} {meth : Method} {c : Code} {base : Nat} {D : va_G} {cA : Nat → ClassId} {l : Launch} {b : Nat} {L : Int} {xs : Nat → Int32} {Q : Int → Int} (X : ml_X p s m c meth #[Value.ref b] D cA cL_law 4 RL ret) (hn : lw_S s base b L xs Q) (σ : ml_St) (ls : Array Slot) (hl : lv_has ls 4 []) (hw : f_L_law_u379 Q L σ) : ml_V p l e room_1 s m #[Value.ref b] below meth c (lw_Z below #[Value.ref b] s) base D cA 256 163205 256 (256) σ (F0 m 379 ls []) := by
  unfold f_L_law_u379 at hw
  refine ml_iconst (pc := 379) X dL_law_379 ?_
  exact hw.elim
set_option maxRecDepth 100000 in
set_option maxHeartbeats 8000000 in
theorem u_L_law_413 {p : Program} {e : Env} {s : State} {m : MethodId} {below : List Frame} {meth : Method} {c : Code} {base : Nat} {D : va_G} {cA : Nat → ClassId} {l : Launch} {b : Nat} {L : Int} {xs : Nat → Int32} {Q : Int → Int} (X : ml_X p s m c meth #[Value.ref b] D cA cL_law 4 RL ret) (hn : lw_S s base b L xs Q) (σ : ml_St) (ls : Array Slot) (hl : lv_has ls 4 []) (hw : f_L_law_u413 Q L σ) : ml_V p l e room_1 s m #[Value.ref b] below meth c (lw_Z below #[Value.ref b] s) base D cA 256 163205 256 (256) σ (F0 m 413 ls []) := by
  unfold f_L_law_u413 at hw
  refine ml_iconst (pc := 413) X dL_law_413 ?_
  exact hw.elim
set_option maxRecDepth 100000 in
set_option maxHeartbeats 8000000 in
theorem u_L_law_447 {p : Program} {e : Env} {s : State} {m : MethodId} {below : List Frame} {meth : Method} {c : Code} {base : Nat} {D : va_G} {cA : Nat → ClassId} {l : Launch} {b : Nat} {L : Int} {xs : Nat → Int32} {Q : Int → Int} (X : ml_X p s m c meth #[Value.ref b] D cA cL_law 4 RL ret) (hn : lw_S s base b L xs Q) (σ : ml_St) (ls : Array Slot) (hl : lv_has ls 4 []) (hw : f_L_law_u447 Q L σ) : ml_V p l e room_1 s m #[Value.ref b] below meth c (lw_Z below #[Value.ref b] s) base D cA 256 163205 256 (256) σ (F0 m 447 ls []) := by
  unfold f_L_law_u447 at hw
  refine ml_iconst (pc := 447) X dL_law_447 ?_
  exact hw.elim
set_option maxRecDepth 100000 in
set_option maxHeartbeats 8000000 in
theorem u_L_law_480 {p : Program} {e : Env} {s : State} {m : MethodId} {below : List Frame} {meth : Method} {c : Code} {base : Nat} {D : va_G} {cA : Nat → ClassId} {l : Launch} {b : Nat} {L : Int} {xs : Nat → Int32} {Q : Int → Int} (X : ml_X p s m c meth #[Value.ref b] D cA cL_law 4 RL ret) (hn : lw_S s base b L xs Q) (σ : ml_St) (ls : Array Slot) (hl : lv_has ls 4 []) (hw : f_L_law_u480 Q L σ) : ml_V p l e room_1 s m #[Value.ref b] below meth c (lw_Z below #[Value.ref b] s) base D cA 256 163205 256 (256) σ (F0 m 480 ls []) := by
  unfold f_L_law_u480 at hw
  refine ml_iconst (pc := 480) X dL_law_480 ?_
  exact hw.elim
set_option maxRecDepth 100000 in
set_option maxHeartbeats 8000000 in
theorem u_L_law_514 {p : Program} {e : Env} {s : State} {m : MethodId} {below : List Frame} {meth : Method} {c : Code} {base : Nat} {D : va_G} {cA : Nat → ClassId} {l : Launch} {b : Nat} {L : Int} {xs : Nat → Int32} {Q : Int → Int} (X : ml_X p s m c meth #[Value.ref b] D cA cL_law 4 RL ret) (hn : lw_S s base b L xs Q) (σ : ml_St) (ls : Array Slot) (hl : lv_has ls 4 []) (hw : f_L_law_u514 Q L σ) : ml_V p l e room_1 s m #[Value.ref b] below meth c (lw_Z below #[Value.ref b] s) base D cA 256 163205 256 (256) σ (F0 m 514 ls []) := by
  unfold f_L_law_u514 at hw
  refine ml_iconst (pc := 514) X dL_law_514 ?_
  exact hw.elim
set_option maxRecDepth 100000 in
set_option maxHeartbeats 8000000 in
theorem u_L_law_578 {p : Program} {e : Env} {s : State} {m : MethodId} {below : List Frame} {meth : Method} {c : Code} {base : Nat} {D : va_G} {cA : Nat → ClassId} {l : Launch} {b : Nat} {L : Int} {xs : Nat → Int32} {Q : Int → Int} (X : ml_X p s m c meth #[Value.ref b] D cA cL_law 4 RL ret) (hn : lw_S s base b L xs Q) (σ : ml_St) (ls : Array Slot) (hl : lv_has ls 4 []) (hw : f_L_law_u578 Q L σ) : ml_V p l e room_1 s m #[Value.ref b] below meth c (lw_Z below #[Value.ref b] s) base D cA 256 163205 256 (256) σ (F0 m 578 ls []) := by
  unfold f_L_law_u578 at hw
  refine ml_iconst (pc := 578) X dL_law_578 ?_
  exact hw.elim
set_option maxRecDepth 100000 in
set_option maxHeartbeats 8000000 in
theorem u_L_law_726 {p : Program} {e : Env} {s : State} {m : MethodId} {below : List Frame} {meth : Method} {c : Code} {base : Nat} {D : va_G} {cA : Nat → ClassId} {l : Launch} {b : Nat} {L : Int} {xs : Nat → Int32} {Q : Int → Int} (X : ml_X p s m c meth #[Value.ref b] D cA cL_law 4 RL ret) (hn : lw_S s base b L xs Q) (σ : ml_St) (ls : Array Slot) (hl : lv_has ls 4 []) (hw : f_L_law_u726 Q L σ) : ml_V p l e room_1 s m #[Value.ref b] below meth c (lw_Z below #[Value.ref b] s) base D cA 256 163205 256 (256) σ (F0 m 726 ls []) := by
  unfold f_L_law_u726 at hw
  refine ml_iconst (pc := 726) X dL_law_726 ?_
  exact hw.elim
set_option maxRecDepth 100000 in
set_option maxHeartbeats 8000000 in
theorem u_L_law_790 {p : Program} {e : Env} {s : State} {m : MethodId} {below : List Frame} {meth : Method} {c : Code} {base : Nat} {D : va_G} {cA : Nat → ClassId} {l : Launch} {b : Nat} {L : Int} {xs : Nat → Int32} {Q : Int → Int} (X : ml_X p s m c meth #[Value.ref b] D cA cL_law 4 RL ret) (hn : lw_S s base b L xs Q) (σ : ml_St) (ls : Array Slot) (hl : lv_has ls 4 []) (hw : f_L_law_u790 Q L σ) : ml_V p l e room_1 s m #[Value.ref b] below meth c (lw_Z below #[Value.ref b] s) base D cA 256 163205 256 (256) σ (F0 m 790 ls []) := by
  unfold f_L_law_u790 at hw
  refine ml_iconst (pc := 790) X dL_law_790 ?_
  exact hw.elim
set_option maxRecDepth 100000 in
set_option maxHeartbeats 8000000 in
theorem u_L_law_833 {p : Program} {e : Env} {s : State} {m : MethodId} {below : List Frame} {meth : Method} {c : Code} {base : Nat} {D : va_G} {cA : Nat → ClassId} {l : Launch} {b : Nat} {L : Int} {xs : Nat → Int32} {Q : Int → Int} (X : ml_X p s m c meth #[Value.ref b] D cA cL_law 4 RL ret) (hn : lw_S s base b L xs Q) (σ : ml_St) (ls : Array Slot) (hl : lv_has ls 4 []) (hw : f_L_law_u833 Q L σ) : ml_V p l e room_1 s m #[Value.ref b] below meth c (lw_Z below #[Value.ref b] s) base D cA 256 163205 256 (256) σ (F0 m 833 ls []) := by
  unfold f_L_law_u833 at hw
  refine ml_iconst (pc := 833) X dL_law_833 ?_
  exact hw.elim
set_option maxRecDepth 100000 in
set_option maxHeartbeats 8000000 in
theorem u_L_law_866 {p : Program} {e : Env} {s : State} {m : MethodId} {below : List Frame} {meth : Method} {c : Code} {base : Nat} {D : va_G} {cA : Nat → ClassId} {l : Launch} {b : Nat} {L : Int} {xs : Nat → Int32} {Q : Int → Int} (X : ml_X p s m c meth #[Value.ref b] D cA cL_law 4 RL ret) (hn : lw_S s base b L xs Q) (σ : ml_St) (ls : Array Slot) (hl : lv_has ls 4 []) (hw : f_L_law_u866 Q L σ) : ml_V p l e room_1 s m #[Value.ref b] below meth c (lw_Z below #[Value.ref b] s) base D cA 256 163205 256 (256) σ (F0 m 866 ls []) := by
  unfold f_L_law_u866 at hw
  refine ml_iconst (pc := 866) X dL_law_866 ?_
  exact hw.elim
set_option maxRecDepth 100000 in
set_option maxHeartbeats 8000000 in
theorem u_L_law_909 {p : Program} {e : Env} {s : State} {m : MethodId} {below : List Frame} {meth : Method} {c : Code} {base : Nat} {D : va_G} {cA : Nat → ClassId} {l : Launch} {b : Nat} {L : Int} {xs : Nat → Int32} {Q : Int → Int} (X : ml_X p s m c meth #[Value.ref b] D cA cL_law 4 RL ret) (hn : lw_S s base b L xs Q) (σ : ml_St) (ls : Array Slot) (hl : lv_has ls 4 []) (hw : f_L_law_u909 Q L σ) : ml_V p l e room_1 s m #[Value.ref b] below meth c (lw_Z below #[Value.ref b] s) base D cA 256 163205 256 (256) σ (F0 m 909 ls []) := by
  unfold f_L_law_u909 at hw
  refine ml_iconst (pc := 909) X dL_law_909 ?_
  exact hw.elim
set_option maxRecDepth 100000 in
set_option maxHeartbeats 8000000 in
theorem u_L_law_932 {p : Program} {e : Env} {s : State} {m : MethodId} {below : List Frame} {meth : Method} {c : Code} {base : Nat} {D : va_G} {cA : Nat → ClassId} {l : Launch} {b : Nat} {L : Int} {xs : Nat → Int32} {Q : Int → Int} (X : ml_X p s m c meth #[Value.ref b] D cA cL_law 4 RL ret) (hn : lw_S s base b L xs Q) (σ : ml_St) (ls : Array Slot) (hl : lv_has ls 4 []) (hw : f_L_law_u932 Q L σ) : ml_V p l e room_1 s m #[Value.ref b] below meth c (lw_Z below #[Value.ref b] s) base D cA 256 163205 256 (256) σ (F0 m 932 ls []) := by
  unfold f_L_law_u932 at hw
  refine ml_iconst (pc := 932) X dL_law_932 ?_
  exact hw.elim
set_option maxRecDepth 100000 in
set_option maxHeartbeats 8000000 in
theorem u_L_law_975 {p : Program} {e : Env} {s : State} {m : MethodId} {below : List Frame} {meth : Method} {c : Code} {base : Nat} {D : va_G} {cA : Nat → ClassId} {l : Launch} {b : Nat} {L : Int} {xs : Nat → Int32} {Q : Int → Int} (X : ml_X p s m c meth #[Value.ref b] D cA cL_law 4 RL ret) (hn : lw_S s base b L xs Q) (σ : ml_St) (ls : Array Slot) (hl : lv_has ls 4 []) (hw : f_L_law_u975 Q L σ) : ml_V p l e room_1 s m #[Value.ref b] below meth c (lw_Z below #[Value.ref b] s) base D cA 256 163205 256 (256) σ (F0 m 975 ls []) := by
  unfold f_L_law_u975 at hw
  refine ml_iconst (pc := 975) X dL_law_975 ?_
  exact hw.elim
set_option maxRecDepth 100000 in
set_option maxHeartbeats 8000000 in
theorem u_L_law_1008 {p : Program} {e : Env} {s : State} {m : MethodId} {below : List Frame} {meth : Method} {c : Code} {base : Nat} {D : va_G} {cA : Nat → ClassId} {l : Launch} {b : Nat} {L : Int} {xs : Nat → Int32} {Q : Int → Int} (X : ml_X p s m c meth #[Value.ref b] D cA cL_law 4 RL ret) (hn : lw_S s base b L xs Q) (σ : ml_St) (ls : Array Slot) (hl : lv_has ls 4 []) (hw : f_L_law_u1008 Q L σ) : ml_V p l e room_1 s m #[Value.ref b] below meth c (lw_Z below #[Value.ref b] s) base D cA 256 163205 256 (256) σ (F0 m 1008 ls []) := by
  unfold f_L_law_u1008 at hw
  refine ml_iconst (pc := 1008) X dL_law_1008 ?_
  exact hw.elim
set_option maxRecDepth 100000 in
set_option maxHeartbeats 8000000 in
theorem u_L_law_1051 {p : Program} {e : Env} {s : State} {m : MethodId} {below : List Frame} {meth : Method} {c : Code} {base : Nat} {D : va_G} {cA : Nat → ClassId} {l : Launch} {b : Nat} {L : Int} {xs : Nat → Int32} {Q : Int → Int} (X : ml_X p s m c meth #[Value.ref b] D cA cL_law 4 RL ret) (hn : lw_S s base b L xs Q) (σ : ml_St) (ls : Array Slot) (hl : lv_has ls 4 []) (hw : f_L_law_u1051 Q L σ) : ml_V p l e room_1 s m #[Value.ref b] below meth c (lw_Z below #[Value.ref b] s) base D cA 256 163205 256 (256) σ (F0 m 1051 ls []) := by
  unfold f_L_law_u1051 at hw
  refine ml_iconst (pc := 1051) X dL_law_1051 ?_
  exact hw.elim
set_option maxRecDepth 100000 in
set_option maxHeartbeats 8000000 in
theorem u_L_law_1074 {p : Program} {e : Env} {s : State} {m : MethodId} {below : List Frame} {meth : Method} {c : Code} {base : Nat} {D : va_G} {cA : Nat → ClassId} {l : Launch} {b : Nat} {L : Int} {xs : Nat → Int32} {Q : Int → Int} (X : ml_X p s m c meth #[Value.ref b] D cA cL_law 4 RL ret) (hn : lw_S s base b L xs Q) (σ : ml_St) (ls : Array Slot) (hl : lv_has ls 4 []) (hw : f_L_law_u1074 Q L σ) : ml_V p l e room_1 s m #[Value.ref b] below meth c (lw_Z below #[Value.ref b] s) base D cA 256 163205 256 (256) σ (F0 m 1074 ls []) := by
  unfold f_L_law_u1074 at hw
  refine ml_iconst (pc := 1074) X dL_law_1074 ?_
  exact hw.elim
set_option maxRecDepth 100000 in
set_option maxHeartbeats 8000000 in
theorem u_L_law_1097 {p : Program} {e : Env} {s : State} {m : MethodId} {below : List Frame} {meth : Method} {c : Code} {base : Nat} {D : va_G} {cA : Nat → ClassId} {l : Launch} {b : Nat} {L : Int} {xs : Nat → Int32} {Q : Int → Int} (X : ml_X p s m c meth #[Value.ref b] D cA cL_law 4 RL ret) (hn : lw_S s base b L xs Q) (σ : ml_St) (ls : Array Slot) (hl : lv_has ls 4 []) (hw : f_L_law_u1097 Q L σ) : ml_V p l e room_1 s m #[Value.ref b] below meth c (lw_Z below #[Value.ref b] s) base D cA 256 163205 256 (256) σ (F0 m 1097 ls []) := by
  unfold f_L_law_u1097 at hw
  refine ml_iconst (pc := 1097) X dL_law_1097 ?_
  exact hw.elim
set_option maxRecDepth 100000 in
set_option maxHeartbeats 8000000 in
theorem u_L_law_1140 {p : Program} {e : Env} {s : State} {m : MethodId} {below : List Frame} {meth : Method} {c : Code} {base : Nat} {D : va_G} {cA : Nat → ClassId} {l : Launch} {b : Nat} {L : Int} {xs : Nat → Int32} {Q : Int → Int} (X : ml_X p s m c meth #[Value.ref b] D cA cL_law 4 RL ret) (hn : lw_S s base b L xs Q) (σ : ml_St) (ls : Array Slot) (hl : lv_has ls 4 []) (hw : f_L_law_u1140 Q L σ) : ml_V p l e room_1 s m #[Value.ref b] below meth c (lw_Z below #[Value.ref b] s) base D cA 256 163205 256 (256) σ (F0 m 1140 ls []) := by
  unfold f_L_law_u1140 at hw
  refine ml_iconst (pc := 1140) X dL_law_1140 ?_
  exact hw.elim
set_option maxRecDepth 100000 in
set_option maxHeartbeats 8000000 in
theorem u_L_law_1163 {p : Program} {e : Env} {s : State} {m : MethodId} {below : List Frame} {meth : Method} {c : Code} {base : Nat} {D : va_G} {cA : Nat → ClassId} {l : Launch} {b : Nat} {L : Int} {xs : Nat → Int32} {Q : Int → Int} (X : ml_X p s m c meth #[Value.ref b] D cA cL_law 4 RL ret) (hn : lw_S s base b L xs Q) (σ : ml_St) (ls : Array Slot) (hl : lv_has ls 4 []) (hw : f_L_law_u1163 Q L σ) : ml_V p l e room_1 s m #[Value.ref b] below meth c (lw_Z below #[Value.ref b] s) base D cA 256 163205 256 (256) σ (F0 m 1163 ls []) := by
  unfold f_L_law_u1163 at hw
  refine ml_iconst (pc := 1163) X dL_law_1163 ?_
  exact hw.elim
set_option maxRecDepth 100000 in
set_option maxHeartbeats 8000000 in
theorem u_L_law_1186 {p : Program} {e : Env} {s : State} {m : MethodId} {below : List Frame} {meth : Method} {c : Code} {base : Nat} {D : va_G} {cA : Nat → ClassId} {l : Launch} {b : Nat} {L : Int} {xs : Nat → Int32} {Q : Int → Int} (X : ml_X p s m c meth #[Value.ref b] D cA cL_law 4 RL ret) (hn : lw_S s base b L xs Q) (σ : ml_St) (ls : Array Slot) (hl : lv_has ls 4 []) (hw : f_L_law_u1186 Q L σ) : ml_V p l e room_1 s m #[Value.ref b] below meth c (lw_Z below #[Value.ref b] s) base D cA 256 163205 256 (256) σ (F0 m 1186 ls []) := by
  unfold f_L_law_u1186 at hw
  refine ml_iconst (pc := 1186) X dL_law_1186 ?_
  exact hw.elim
set_option maxRecDepth 100000 in
set_option maxHeartbeats 8000000 in
theorem u_L_law_1194 {p : Program} {e : Env} {s : State} {m : MethodId} {below : List Frame} {meth : Method} {c : Code} {base : Nat} {D : va_G} {cA : Nat → ClassId} {l : Launch} {b : Nat} {L : Int} {xs : Nat → Int32} {Q : Int → Int} (X : ml_X p s m c meth #[Value.ref b] D cA cL_law 4 RL ret) (hn : lw_S s base b L xs Q) (σ : ml_St) (ls : Array Slot) (hl : lv_has ls 4 []) (hw : f_L_law_u1194 Q L σ) : ml_V p l e room_1 s m #[Value.ref b] below meth c (lw_Z below #[Value.ref b] s) base D cA 256 163205 256 (256) σ (F0 m 1194 ls []) := by
  unfold f_L_law_u1194 at hw
  refine ml_iconst (pc := 1194) X dL_law_1194 ?_
  exact ml_lawret (pc := 1195) X hn dL_law_1195
set_option maxRecDepth 100000 in
set_option maxHeartbeats 8000000 in
theorem u_L_law_0 {p : Program} {e : Env} {s : State} {m : MethodId} {below : List Frame} {meth : Method} {c : Code} {base : Nat} {D : va_G} {cA : Nat → ClassId} {l : Launch} {b : Nat} {L : Int} {xs : Nat → Int32} {Q : Int → Int} (X : ml_X p s m c meth #[Value.ref b] D cA cL_law 4 RL ret) (hn : lw_S s base b L xs Q) (hs : s.heap.size = base + 1 + 0) (hNN : ml_N s) (σ : ml_St) (ls : Array Slot) (hl : lv_has ls 4 [(0, .ref b)]) (hw : f_L_law_u0 Q L σ) : ml_V p l e room_1 s m #[Value.ref b] below meth c (lw_Z below #[Value.ref b] s) base D cA 0 0 0 (0 + 0) σ (F0 m 0 ls []) := by
  unfold f_L_law_u0 at hw
  obtain ⟨z1, hw⟩ := hw
  refine ml_newO (n0 := 0) (kc := 0) (ks := 0) (pc := 0) (k := 1) X hs ⟨tw_1_18, tw_1_19, tw_1_1⟩ in_X11 rfl (by decide) tk_X11 df_X11 (by decide) (by omega) (by decide +kernel) z1 ⟨by decide, by decide⟩ dL_law_0 ?_
  refine ml_dup (pc := 3) X dL_law_3 rfl ?_
  refine ml_callCI (n0 := 0) (kc := 1) (ks := 13) (pc := 4) (k := 1) (mc := 213) (ms := 76181) X hs hNN (c_X11_init l base D cA σ _ hw) ⟨⟨tw_1_20, tw_1_21, tw_1_1, tw_1_22⟩, rfl, by decide +kernel⟩ ⟨rfl, rfl⟩ ⟨by decide, by decide⟩ (by omega) hl (Nat.le_of_ble_eq_true rfl) ⟨by decide, by decide⟩ dL_law_4 (fun σ2 hw => ?_)
  refine ml_astore_n (pc := 7) X rfl hl (by decide) (lst' := [(1, .ref (base + (1 : Int).toNat)), (0, .ref b)]) rfl dL_law_7 (fun ls hl => ?_)
  obtain ⟨z3, hw⟩ := hw
  refine ml_newO (n0 := 0) (kc := 214) (ks := 76194) (pc := 8) (k := 215) X hs ⟨tw_4_185, tw_4_186, tw_1_13⟩ in_X12 rfl (by decide) tk_X12 df_X12 (by decide) (by omega) (by decide +kernel) z3 ⟨by decide, by decide⟩ dL_law_8 ?_
  refine ml_dup (pc := 11) X dL_law_11 rfl ?_
  refine ml_callCI (n0 := 0) (kc := 215) (ks := 76256) (pc := 12) (k := 215) (mc := 41) (ms := 86949) X hs hNN (c_X12_init l base D cA σ2 _ hw) ⟨⟨tw_4_187, tw_4_188, tw_1_13, tw_4_189⟩, rfl, by decide +kernel⟩ ⟨rfl, rfl⟩ ⟨by decide, by decide⟩ (by omega) hl (Nat.le_of_ble_eq_true rfl) ⟨by decide, by decide⟩ dL_law_12 (fun σ4 hw => ?_)
  obtain ⟨oro, hw⟩ := hw
  refine ml_toRO oro ?_
  refine ml_astore_n (pc := 15) X rfl hl (by decide) (lst' := [(2, .ref (base + (215 : Int).toNat)), (1, .ref (base + (1 : Int).toNat)), (0, .ref b)]) rfl dL_law_15 (fun ls hl => ?_)
  refine ml_iconst (pc := 16) X dL_law_16 ?_
  refine ml_istore_n (pc := 17) X rfl hl (by decide) (lst' := [(3, .int (Int32.ofInt 0)), (2, .ref (base + (215 : Int).toNat)), (1, .ref (base + (1 : Int).toNat)), (0, .ref b)]) rfl dL_law_17 (fun ls hl => ?_)
  obtain ⟨N0, hw⟩ := hw
  exact u_L_law_18 X hn (fun σ   ls hl hw => u_L_law_177 X hn σ   ls hl hw) (fun σ   ls hl hw => u_L_law_240 X hn σ   ls hl hw) (fun σ   ls hl hw => u_L_law_263 X hn σ   ls hl hw) (fun σ   ls hl hw => u_L_law_296 X hn σ   ls hl hw) (fun σ   ls hl hw => u_L_law_309 X hn σ   ls hl hw) (fun σ   ls hl hw => u_L_law_322 X hn σ   ls hl hw) (fun σ   ls hl hw => u_L_law_346 X hn σ   ls hl hw) (fun σ   ls hl hw => u_L_law_379 X hn σ   ls hl hw) (fun σ   ls hl hw => u_L_law_413 X hn σ   ls hl hw) (fun σ   ls hl hw => u_L_law_447 X hn σ   ls hl hw) (fun σ   ls hl hw => u_L_law_480 X hn σ   ls hl hw) (fun σ   ls hl hw => u_L_law_514 X hn σ   ls hl hw) (fun σ   ls hl hw => u_L_law_578 X hn σ   ls hl hw) (fun σ   ls hl hw => u_L_law_726 X hn σ   ls hl hw) (fun σ   ls hl hw => u_L_law_790 X hn σ   ls hl hw) (fun σ   ls hl hw => u_L_law_833 X hn σ   ls hl hw) (fun σ   ls hl hw => u_L_law_866 X hn σ   ls hl hw) (fun σ   ls hl hw => u_L_law_909 X hn σ   ls hl hw) (fun σ   ls hl hw => u_L_law_932 X hn σ   ls hl hw) (fun σ   ls hl hw => u_L_law_975 X hn σ   ls hl hw) (fun σ   ls hl hw => u_L_law_1008 X hn σ   ls hl hw) (fun σ   ls hl hw => u_L_law_1051 X hn σ   ls hl hw) (fun σ   ls hl hw => u_L_law_1074 X hn σ   ls hl hw) (fun σ   ls hl hw => u_L_law_1097 X hn σ   ls hl hw) (fun σ   ls hl hw => u_L_law_1140 X hn σ   ls hl hw) (fun σ   ls hl hw => u_L_law_1163 X hn σ   ls hl hw) (fun σ   ls hl hw => u_L_law_1186 X hn σ   ls hl hw) (fun σ   ls hl hw => u_L_law_1194 X hn σ   ls hl hw) N0 σ4 0 ⟨by decide, by decide⟩ _ (lv_sub hl [3, 2, 1, 0] rfl) hw
