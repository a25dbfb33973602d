/-! objects, calls, ends -/
theorem ml_cell_obj {base : Nat} {cA : Nat → ClassId} {ci N : Nat} {f : Int → Int} (h : ci < 13) : ml_cell base cA (ci + 10, N) f = .inr (ci, (List.range N).map fun j => ml_fv base (ml_ty ci j) (f j)) := by
  match ci, h with
  | 0, _ => rfl
  | 1, _ => rfl
  | 2, _ => rfl
  | 3, _ => rfl
  | 4, _ => rfl
  | 5, _ => rfl
  | 6, _ => rfl
  | 7, _ => rfl
  | 8, _ => rfl
  | 9, _ => rfl
  | 10, _ => rfl
  | 11, _ => rfl
  | 12, _ => rfl
theorem ml_rgO {n : Nat} {σ : ml_St} {ci N : Nat} {k : Int} (h3 : ml_ok n σ) (hk : ml_at n k (ci + 10, N)) (j : Nat) : ml_rg (ml_fe (ml_ty ci j)) (σ k j) := by
  have h := h3 k j hk.1 hk.2.1 (Int.natCast_nonneg j)
  unfold ml_et at h
  rw [show ml_lay k = (ci + 10, N) from hk.2.2] at h
  rw [if_neg (by show ¬ ci + 10 < 10; omega)] at h
  rw [show (ci + 10, N).1 - 10 = ci from by show ci + 10 - 10 = ci; omega, show ((j : Nat) : Int).toNat = j from Int.toNat_natCast j] at h
  exact h
theorem ml_etO {n : Nat} {ci N : Nat} {k : Int} (hk : ml_at n k (ci + 10, N)) (j : Nat) : ml_et k j = ml_fe (ml_ty ci j) := by
  unfold ml_et
  rw [show ml_lay k = (ci + 10, N) from hk.2.2]
  rw [if_neg (by show ¬ ci + 10 < 10; omega)]
  rw [show (ci + 10, N).1 - 10 = ci from by show ci + 10 - 10 = ci; omega, show ((j : Nat) : Int).toNat = j from Int.toNat_natCast j]
theorem ml_obj_set {base : Nat} {σ : ml_St} {ci N j : Nat} {k x : Int} (hj : j < N) : ((List.range N).map fun j => ml_fv base (ml_ty ci j) (σ k j)).set j (ml_fv base (ml_ty ci j) x) = (List.range N).map fun i => ml_fv base (ml_ty ci i) (ml_up σ k j x k i) := by
  apply List.ext_getElem?
  intro i
  rw [List.getElem?_set]
  by_cases h : j = i
  · subst h
    simp [hj, ml_up]
  · rw [if_neg h]
    by_cases hi : i < N
    · have : ¬ (i : Int) = (j : Int) := by omega
      simp [hi, ml_up, this]
    · simp [hi]
def ml_U (base : Nat) (D : va_G) (cA : Nat → ClassId) (n : Nat) (σ : ml_St) (U : State) : Prop := va_P D ml_cls (ml_cells base cA n σ) U.heap ∧ va_K D ml_cls (ml_tys cA) U ∧ ml_ok n σ ∧ ml_RO n σ
theorem ml_U_blind {base : Nat} {D : va_G} {cA : Nat → ClassId} {n : Nat} {σ : ml_St} {As : List Value} : FrameBlind (va_Pc As (ml_U base D cA n σ)) := fun a U g mk q => by
  obtain ⟨q0, qP, qK, q3, q4⟩ := q
  exact ⟨q0, qP, va_K.moved (u := U) (U := U.calling g mk a) (Vm.Alike.refl U.vm) qK, q3, q4⟩
def ml_Qv (base : Nat) (D : va_G) (cA : Nat → ClassId) (n : Nat) (Q : ml_St → Prop) : Array Value → State → Outcome → State → Prop := va_Qv (fun u : ml_St => Q u) (fun u U => ml_U base D cA n u U) (ml_A base)
def ml_Qi (rg : Int → Prop) (base : Nat) (D : va_G) (cA : Nat → ClassId) (n : Nat) (Q : Int → ml_St → Prop) : Array Value → State → Outcome → State → Prop := va_Qi (fun (r : Int32) (u : Int × ml_St) => r = Int32.ofInt u.1 ∧ rg u.1 ∧ Q u.1 u.2) (fun u U => ml_U base D cA n u.2 U) (ml_A base)
def ml_Ql (base : Nat) (D : va_G) (cA : Nat → ClassId) (n : Nat) (Q : Int → ml_St → Prop) : Array Value → State → Outcome → State → Prop := va_Ql (fun (r : Int64) (u : Int × ml_St) => r = Int64.ofInt u.1 ∧ I64 u.1 ∧ Q u.1 u.2) (fun u U => ml_U base D cA n u.2 U) (ml_A base)
theorem ml_bad {base : Nat} {cA : Nat → ClassId} {D : va_G} {ws wc : va_W} {H : Heap} {n : Nat} {σ : ml_St} (hP : va_P D ml_cls (ml_cells base cA n σ) H) : ∀ q, q < H.size → ml_A base q → ml_A base q := fun _ _ h => h
section MLO
variable {p : Program} {l : Launch} {e : Env} {R : Room} {s : State} {m : MethodId} {args : Array Value} {below : List Frame} {meth : Method} {c : Code} {Q : State → Prop} {base : Nat} {D : va_G} {cA : Nat → ClassId} {kc ks rr n : Nat} {σ : ml_St} {cc : ByteArray} {nL pc : Nat} {own : String} {rt : Option FieldType} {ls : Array Slot} {rest : List Value} {lst : List (Nat × Value)}
theorem ml_getg (X : ml_X p s m c meth args D cA cc nL own rt) {C : String} {T : u_T} {N ci index : Nat} (hin : ∀ w ∈ u_ws C T N, w ∈ ml_T) (hc : ml_cls[ci]? = some (C, T, N)) (hci : ci < 13) (j : Nat) (hj : j < N) (hl : Cond.fieldLink own index (T j).1 (T j).2.1 (T j).2.2.1 ∈ ml_T) {k : Int} (hk : ml_at n k (ci + 10, N)) (d : decode cc pc = .ok (.getfield index, 3)) {v : Value} (hv : ml_RO rr σ → ml_fv base (ml_ty ci j) (σ k j) = v)
    (kk : ml_rg (ml_fe (ml_ty ci j)) (σ k j) → ml_V p l e R s m args below meth c Q base D cA kc ks rr n σ (F0 m (pc + 3) ls (v :: rest))) : ml_V p l e R s m args below meth c Q base D cA kc ks rr n σ (F0 m pc ls (.ref (base + k.toNat) :: rest)) := by
  intro H locs h1 h2 h3 h4
  have hg := ml_cells_get (base := base) (cA := cA) (σ := σ) hk
  rw [ml_cell_obj hci] at hg
  have hv' := hv h4
  exact va_get X.1 X.2.1 X.2.2.2.2.1 hin X.2.2.2.1 X.2.2.2.2.2.1 h1 (k.toNat - 1) hg hc j hj (X.2.2.2.2.1 _ hl) (fun _ h => h) (by simp [hj, hv']) d (kk (ml_rgO h3 hk j) H locs h1 h2 h3 h4)
theorem ml_putg (X : ml_X p s m c meth args D cA cc nL own rt) {C : String} {T : u_T} {N ci index : Nat} (hin : ∀ w ∈ u_ws C T N, w ∈ ml_T) (hc : ml_cls[ci]? = some (C, T, N)) (hci : ci < 13) (hty : ∀ k, k < N → parseFieldDescriptor (T k).2.2.1 = some (ml_ty ci k)) (hnm : ∀ a, a < N → ∀ b, b < N → a ≠ b → (T a).2.1 ≠ (T b).2.1) (j : Nat) (hj : j < N) (hfin : (T j).2.2.2 = false) (hl : Cond.fieldLink own index (T j).1 (T j).2.1 (T j).2.2.1 ∈ ml_T) {k x : Int} (hk : ml_at n k (ci + 10, N)) (d : decode cc pc = .ok (.putfield index, 3)) {v : Value} (hv : v = ml_fv base (ml_ty ci j) x) (hx : ml_rg (ml_fe (ml_ty ci j)) x) (hnar : narrow (ml_ty ci j) v = v) (hfit : fits (ml_ty ci j) v = true) (hro : rr < k ∨ ml_rof k j = 0)
    (kk : ∀ σ' : ml_St, σ' = ml_up σ k j x → ml_V p l e R s m args below meth c Q base D cA kc ks rr n σ' (F0 m (pc + 3) ls rest)) : ml_V p l e R s m args below meth c Q base D cA kc ks rr n σ (F0 m pc ls (v :: .ref (base + k.toNat) :: rest)) := by
  intro H locs h1 h2 h3 h4
  have hg := ml_cells_get (base := base) (cA := cA) (σ := σ) hk
  rw [ml_cell_obj hci] at hg
  refine va_put X.1 X.2.1 X.2.2.2.2.1 hin (ml_ty ci) hty hnm X.2.2.2.1 X.2.2.2.2.2.1 h1 (ml_cells_D base cA n σ) h2 (k.toNat - 1) hg hc j hj (X.2.2.2.2.1 _ hl) (fun _ h => h) hfin (hty j hj) hnar hfit (by simp [hj]) d (fun H1 locs1 g1 _ g3 => ?_)
  have e : ml_cell base cA (ci + 10, N) (ml_up σ k j x k) = .inr (ci, (List.range N).map fun i => ml_fv base (ml_ty ci i) (ml_up σ k j x k i)) := ml_cell_obj hci
  rw [hv, ml_obj_set hj, ml_cells_set (kd := (ci + 10, N)) (σ' := ml_up σ k j x) hk e.symm (fun a ha => ml_up_k ha)] at g1
  refine kk _ rfl H1 locs1 g1 g3 (ml_ok_up h3 (by rw [ml_etO hk]; exact hx)) ?_
  intro a b q1 q2 q3
  by_cases ha : a = k ∧ b = j
  · rcases hro with q | q
    · exact absurd (ha.1 ▸ q2) (by omega)
    · rw [ha.1, ha.2] at q3; exact absurd q q3
  · simp only [ml_up, ha, if_false]; exact h4 a b q1 q2 q3
theorem ml_putF (X : ml_X p s m c meth args D cA cc nL own rt) (hini : meth.name = "<init>") {C : String} {T : u_T} {N ci index : Nat} (hin : ∀ w ∈ u_ws C T N, w ∈ ml_T) (hc : ml_cls[ci]? = some (C, T, N)) (hci : ci < 13) (hty : ∀ k, k < N → parseFieldDescriptor (T k).2.2.1 = some (ml_ty ci k)) (hnm : ∀ a, a < N → ∀ b, b < N → a ≠ b → (T a).2.1 ≠ (T b).2.1) (j : Nat) (hj : j < N) (hfin : (T j).2.2.2 = true) (hdecl : (T j).1 = own) (hl : Cond.fieldLink own index (T j).1 (T j).2.1 (T j).2.2.1 ∈ ml_T) {k x : Int} (hk : ml_at n k (ci + 10, N)) (d : decode cc pc = .ok (.putfield index, 3)) {v : Value} (hv : v = ml_fv base (ml_ty ci j) x) (hx : ml_rg (ml_fe (ml_ty ci j)) x) (hnar : narrow (ml_ty ci j) v = v) (hfit : fits (ml_ty ci j) v = true) (hro : rr < k ∨ ml_rof k j = 0)
    (kk : ∀ σ' : ml_St, σ' = ml_up σ k j x → ml_V p l e R s m args below meth c Q base D cA kc ks rr n σ' (F0 m (pc + 3) ls rest)) : ml_V p l e R s m args below meth c Q base D cA kc ks rr n σ (F0 m pc ls (v :: .ref (base + k.toNat) :: rest)) := by
  intro H locs h1 h2 h3 h4
  have hg := ml_cells_get (base := base) (cA := cA) (σ := σ) hk
  rw [ml_cell_obj hci] at hg
  refine va_putF X.1 X.2.1 X.2.2.2.2.1 hin (ml_ty ci) hty hnm X.2.2.2.1 X.2.2.2.2.2.1 h1 (ml_cells_D base cA n σ) h2 (k.toNat - 1) hg hc j hj (X.2.2.2.2.1 _ hl) (fun _ h => h) hfin hini hdecl (hty j hj) hnar hfit (by simp [hj]) d (fun H1 locs1 g1 _ g3 => ?_)
  have e : ml_cell base cA (ci + 10, N) (ml_up σ k j x k) = .inr (ci, (List.range N).map fun i => ml_fv base (ml_ty ci i) (ml_up σ k j x k i)) := ml_cell_obj hci
  rw [hv, ml_obj_set hj, ml_cells_set (kd := (ci + 10, N)) (σ' := ml_up σ k j x) hk e.symm (fun a ha => ml_up_k ha)] at g1
  refine kk _ rfl H1 locs1 g1 g3 (ml_ok_up h3 (by rw [ml_etO hk]; exact hx)) ?_
  intro a b q1 q2 q3
  by_cases ha : a = k ∧ b = j
  · rcases hro with q | q
    · exact absurd (ha.1 ▸ q2) (by omega)
    · rw [ha.1, ha.2] at q3; exact absurd q q3
  · simp only [ml_up, ha, if_false]; exact h4 a b q1 q2 q3
theorem ml_recv {H : Heap} {ci N : Nat} {k : Int} {C : String} {T : u_T} (hK : va_K D ml_cls (ml_tys cA) s) (hP : va_P D ml_cls (ml_cells base cA n σ) H) (hci : ci < 13) (hc : ml_cls[ci]? = some (C, T, N)) (hk : ml_at n k (ci + 10, N)) : ∃ cell : Cell, H[base + k.toNat]? = some cell ∧ cell.vm.isStatics = false ∧ s.vm.findClass C = some cell.cls := by
  have hg := ml_cells_get (base := base) (cA := cA) (σ := σ) hk
  rw [ml_cell_obj hci] at hg
  exact va_recv hK hP hc hg
theorem ml_good : ∀ w ∈ ml_T, ((w.onTables && w.keeps) = true ∨ ∃ ty, w = .arrayClass ty) := fun _ h => good_of_word (List.mem_filter.mp h).2
theorem ml_gd {y : MethodName} {bytes : ByteArray} {mxl : Nat} {ret : Option FieldType} (h : Cond.code y bytes mxl ret ∈ ml_T) : GoodIn ml_T (Cond.code y bytes mxl ret :: ml_T) := fun w hw => by
  rcases List.mem_cons.mp hw with rfl | hw
  · exact ⟨h, ml_good _ h⟩
  · exact ⟨hw, ml_good _ hw⟩
theorem ml_gdV {own C : String} {idx : Nat} {y : MethodName} {bytes : ByteArray} {mxl : Nat} {ret : Option FieldType} (h1 : Cond.methodLink own idx y ∈ ml_T) (h2 : Cond.instanceMethod y ∈ ml_T) (h3 : Cond.selects C y y ∈ ml_T) (h4 : Cond.initialized C ∈ ml_T) (h : Cond.code y bytes mxl ret ∈ ml_T) : GoodIn ml_T (wsV own idx C y (Cond.code y bytes mxl ret :: ml_T)) := fun w hw => by
  unfold wsV at hw
  rcases List.mem_append.mp hw with hw | hw
  · simp only [List.mem_cons, List.not_mem_nil, or_false] at hw
    rcases hw with rfl | rfl | rfl | rfl
    · exact ⟨h1, ml_good _ h1⟩
    · exact ⟨h2, ml_good _ h2⟩
    · exact ⟨h3, ml_good _ h3⟩
    · exact ⟨h4, ml_good _ h4⟩
  · exact ml_gd h w hw
theorem ml_gdS {own : String} {idx : Nat} {y : MethodName} {bytes : ByteArray} {mxl : Nat} {ret : Option FieldType} (h1 : Cond.methodLink own idx y ∈ ml_T) (h2 : Cond.static y ∈ ml_T) (h4 : Cond.initialized own ∈ ml_T) (h : Cond.code y bytes mxl ret ∈ ml_T) : GoodIn ml_T (wsS own idx y (Cond.code y bytes mxl ret :: ml_T)) := fun w hw => by
  unfold wsS at hw
  rcases List.mem_append.mp hw with hw | hw
  · simp only [List.mem_cons, List.not_mem_nil, or_false] at hw
    rcases hw with rfl | rfl | rfl
    · exact ⟨h1, ml_good _ h1⟩
    · exact ⟨h2, ml_good _ h2⟩
    · exact ⟨h4, ml_good _ h4⟩
  · exact ml_gd h w hw
/-- what a call by a link needs: the callee's words, its place, its room -/
def ml_CV (own C : String) (index : Nat) (y : MethodName) (bytes : ByteArray) (mxl : Nat) (ret : Option FieldType) (nA : Nat) : Prop := (Cond.methodLink own index y ∈ ml_T ∧ Cond.instanceMethod y ∈ ml_T ∧ Cond.selects C y y ∈ ml_T ∧ Cond.initialized C ∈ ml_T ∧ Cond.code y bytes mxl ret ∈ ml_T) ∧ (y.cls = C ∧ y.cls ≠ "java/lang/invoke/MethodHandle" ∧ y.cls ≠ "java/lang/invoke/VarHandle" ∧ (parseMethodDescriptor y.desc).map (fun d => d.parameters.length) = some nA)
def ml_CS (own cl : String) (index : Nat) (y : MethodName) (bytes : ByteArray) (mxl : Nat) (ret : Option FieldType) (nA : Nat) : Prop := (Cond.methodLink own index y ∈ ml_T ∧ Cond.static y ∈ ml_T ∧ Cond.initialized cl ∈ ml_T ∧ Cond.code y bytes mxl ret ∈ ml_T) ∧ (y.cls = cl ∧ y.cls ≠ "java/lang/invoke/MethodHandle" ∧ y.cls ≠ "java/lang/invoke/VarHandle" ∧ (parseMethodDescriptor y.desc).map (fun d => d.parameters.length) = some nA)
theorem ml_cwV {own C : String} {index : Nat} {y : MethodName} {bytes : ByteArray} {mxl : Nat} {ret : Option FieldType} {nA : Nat} {rm : Room} (X : ml_X p s m c meth args D cA cc nL own rt) (h : ml_CV own C index y bytes mxl ret nA) (h0 : rm.cells = 0 ∧ rm.slots = 0) (hR : rm.frames + 1 ≤ R.frames ∧ 8 + (mxl + 11) + rm.locals ≤ R.locals) : CallW R s args own C index y bytes mxl ret (Cond.code y bytes mxl ret :: ml_T) rm 0 0 nA :=
  cwV nA X.2.2.2.2.1 (ml_gdV h.1.1 h.1.2.1 h.1.2.2.1 h.1.2.2.2.1 h.1.2.2.2.2) rfl h0.1 h0.2 h.2 hR
theorem ml_cwS {own cl : String} {index : Nat} {y : MethodName} {bytes : ByteArray} {mxl : Nat} {ret : Option FieldType} {nA : Nat} {rm : Room} (X : ml_X p s m c meth args D cA cc nL own rt) (h : ml_CS own cl index y bytes mxl ret nA) (h0 : rm.cells = 0 ∧ rm.slots = 0) (hR : rm.frames + 1 ≤ R.frames ∧ 8 + (mxl + 11) + rm.locals ≤ R.locals) : CallB R s args own index y bytes mxl ret (Cond.code y bytes mxl ret :: ml_T) rm 0 0 nA ∧ (Cond.static y).before args s = true :=
  ⟨callB_of nA X.2.2.2.2.1 (ml_gd h.1.2.2.2) rfl h0.1 h0.2 (by rw [h.2.1]; exact X.2.2.2.2.1 _ h.1.2.2.1) (X.2.2.2.2.1 _ h.1.1) h.2.2 hR, X.2.2.2.2.1 _ h.1.2.1⟩
theorem ml_Upre {H : Heap} {As : List Value} (X : ml_X p s m c meth args D cA cc nL own rt) (h1 : va_P D ml_cls (ml_cells base cA n σ) H) (h3 : ml_ok n σ) (h4 : ml_RO n σ) : ∀ U : State, U.heap = H → s.WarmedH U.vm → va_Pc As (ml_U base D cA n σ) As.toArray U :=
  fun U hU hW => ⟨rfl, by rw [hU]; exact h1, va_K.moved hW.alike X.2.2.2.2.2.1, h3, h4⟩
theorem ml_callvV (X : ml_X p s m c meth args D cA cc nL own rt) {C : String} {index : Nat} {y : MethodName} {bytes : ByteArray} {mxl : Nat} {ret : Option FieldType} {nA : Nat} {rm : Room} (As : List Value) {Qc : ml_St → Prop} {ci N : Nat} {k : Int} {T : u_T} (hci : ci < 13) (hc : ml_cls[ci]? = some (C, T, N)) (hk : ml_at n k (ci + 10, N)) (hM : Met l y (Cond.code y bytes mxl ret :: ml_T) rm (va_Pc (.ref (base + k.toNat) :: As) (ml_U base D cA n σ)) (ml_Qv base D cA n Qc) 0 0 (ml_A base)) (cv : ml_CV own C index y bytes mxl ret nA) (h0 : rm.cells = 0 ∧ rm.slots = 0) (hR : rm.frames + 1 ≤ R.frames ∧ 8 + (mxl + 11) + rm.locals ≤ R.locals) {st : List Value} (hst : st = As.reverse ++ .ref (base + k.toNat) :: rest) (hn : As.length = nA) (hl : lv_has ls nL lst) (hrest : (rest.map fun v => v.category).sum ≤ 8) (hkc : kc ≤ R.cells ∧ ks ≤ R.slots) (d : decode cc pc = .ok (.invokevirtual index, 3))
    (kk : ∀ σ' : ml_St, Qc σ' → ml_V p l e R s m args below meth c Q base D cA kc ks n n σ' (F0 m (pc + 3) ls (rest))) : ml_V p l e R s m args below meth c Q base D cA kc ks n n σ (F0 m (pc) ls st) := by
  subst hst
  intro H locs h1 h2 h3 h4
  refine va_callv (va_runV (As := As) (rest := rest) ⟨X.1, X.2.1, X.2.2.1, X.2.2.2.1, X.2.2.2.2.1⟩ hM (ml_cwV X cv h0 hR) ⟨ml_U_blind, ml_recv X.2.2.2.2.2.1 h1 hci hc hk, ml_Upre X h1 h3 h4⟩ rfl hn hl.1 rfl (lv_room hrest) d hkc) h2 (fun _ _ h => h) (fun _ h => h) (fun u t H1 locs1 ht hvm hw hB hz1 hk1 hS => ?_)
  obtain ⟨hP1, hK1, hok1, hro1⟩ := hB
  rw [ht] at hP1
  exact kk u hw H1 locs1 hP1 hS hok1 hro1
theorem ml_callvS (X : ml_X p s m c meth args D cA cc nL own rt) {C : String} {index : Nat} {y : MethodName} {bytes : ByteArray} {mxl : Nat} {ret : Option FieldType} {nA : Nat} {rm : Room} (As : List Value) {Qc : ml_St → Prop} (hM : Met l y (Cond.code y bytes mxl ret :: ml_T) rm (va_Pc (As) (ml_U base D cA n σ)) (ml_Qv base D cA n Qc) 0 0 (ml_A base)) (cv : ml_CS own C index y bytes mxl ret nA) (h0 : rm.cells = 0 ∧ rm.slots = 0) (hR : rm.frames + 1 ≤ R.frames ∧ 8 + (mxl + 11) + rm.locals ≤ R.locals) {st : List Value} (hst : st = As.reverse ++ rest) (hn : As.length = nA) (hl : lv_has ls nL lst) (hrest : (rest.map fun v => v.category).sum ≤ 8) (hkc : kc ≤ R.cells ∧ ks ≤ R.slots) (d : decode cc pc = .ok (.invokestatic index, 3))
    (kk : ∀ σ' : ml_St, Qc σ' → ml_V p l e R s m args below meth c Q base D cA kc ks n n σ' (F0 m (pc + 3) ls (rest))) : ml_V p l e R s m args below meth c Q base D cA kc ks n n σ (F0 m (pc) ls st) := by
  subst hst
  intro H locs h1 h2 h3 h4
  refine va_callv (va_runS (As := As) (rest := rest) ⟨X.1, X.2.1, X.2.2.1, X.2.2.2.1, X.2.2.2.2.1⟩ hM (ml_cwS X cv h0 hR) ⟨ml_U_blind, ml_Upre X h1 h3 h4⟩ rfl hn hl.1 rfl (lv_room hrest) d hkc) h2 (fun _ _ h => h) (fun _ h => h) (fun u t H1 locs1 ht hvm hw hB hz1 hk1 hS => ?_)
  obtain ⟨hP1, hK1, hok1, hro1⟩ := hB
  rw [ht] at hP1
  exact kk u hw H1 locs1 hP1 hS hok1 hro1
theorem ml_calliV (X : ml_X p s m c meth args D cA cc nL own rt) {C : String} {index : Nat} {y : MethodName} {bytes : ByteArray} {mxl : Nat} {ret : Option FieldType} {nA : Nat} {rm : Room} (As : List Value) {Qc : Int → ml_St → Prop} {ci N : Nat} {k : Int} {T : u_T} (hci : ci < 13) (hc : ml_cls[ci]? = some (C, T, N)) (hk : ml_at n k (ci + 10, N)) (hM : Met l y (Cond.code y bytes mxl ret :: ml_T) rm (va_Pc (.ref (base + k.toNat) :: As) (ml_U base D cA n σ)) (ml_Qi I32 base D cA n Qc) 0 0 (ml_A base)) (cv : ml_CV own C index y bytes mxl ret nA) (h0 : rm.cells = 0 ∧ rm.slots = 0) (hR : rm.frames + 1 ≤ R.frames ∧ 8 + (mxl + 11) + rm.locals ≤ R.locals) {st : List Value} (hst : st = As.reverse ++ .ref (base + k.toNat) :: rest) (hn : As.length = nA) (hl : lv_has ls nL lst) (hrest : (rest.map fun v => v.category).sum ≤ 8) (hkc : kc ≤ R.cells ∧ ks ≤ R.slots) (d : decode cc pc = .ok (.invokevirtual index, 3))
    (kk : ∀ (r : Int) (σ' : ml_St), I32 r → Qc r σ' → ml_V p l e R s m args below meth c Q base D cA kc ks n n σ' (F0 m (pc + 3) ls (.int (Int32.ofInt r) :: rest))) : ml_V p l e R s m args below meth c Q base D cA kc ks n n σ (F0 m (pc) ls st) := by
  subst hst
  intro H locs h1 h2 h3 h4
  refine va_calli (va_runV (As := As) (rest := rest) ⟨X.1, X.2.1, X.2.2.1, X.2.2.2.1, X.2.2.2.2.1⟩ hM (ml_cwV X cv h0 hR) ⟨ml_U_blind, ml_recv X.2.2.2.2.2.1 h1 hci hc hk, ml_Upre X h1 h3 h4⟩ rfl hn hl.1 rfl (lv_room hrest) d hkc) h2 (fun _ _ h => h) (fun _ h => h) (fun r u t H1 locs1 ht hvm hw hB hz1 hk1 hS => ?_)
  obtain ⟨hP1, hK1, hok1, hro1⟩ := hB
  rw [ht] at hP1
  obtain ⟨rfl, hr, hq⟩ := hw
  exact kk u.1 u.2 hr hq H1 locs1 hP1 hS hok1 hro1
theorem ml_calliS (X : ml_X p s m c meth args D cA cc nL own rt) {C : String} {index : Nat} {y : MethodName} {bytes : ByteArray} {mxl : Nat} {ret : Option FieldType} {nA : Nat} {rm : Room} (As : List Value) {Qc : Int → ml_St → Prop} (hM : Met l y (Cond.code y bytes mxl ret :: ml_T) rm (va_Pc (As) (ml_U base D cA n σ)) (ml_Qi I32 base D cA n Qc) 0 0 (ml_A base)) (cv : ml_CS own C index y bytes mxl ret nA) (h0 : rm.cells = 0 ∧ rm.slots = 0) (hR : rm.frames + 1 ≤ R.frames ∧ 8 + (mxl + 11) + rm.locals ≤ R.locals) {st : List Value} (hst : st = As.reverse ++ rest) (hn : As.length = nA) (hl : lv_has ls nL lst) (hrest : (rest.map fun v => v.category).sum ≤ 8) (hkc : kc ≤ R.cells ∧ ks ≤ R.slots) (d : decode cc pc = .ok (.invokestatic index, 3))
    (kk : ∀ (r : Int) (σ' : ml_St), I32 r → Qc r σ' → ml_V p l e R s m args below meth c Q base D cA kc ks n n σ' (F0 m (pc + 3) ls (.int (Int32.ofInt r) :: rest))) : ml_V p l e R s m args below meth c Q base D cA kc ks n n σ (F0 m (pc) ls st) := by
  subst hst
  intro H locs h1 h2 h3 h4
  refine va_calli (va_runS (As := As) (rest := rest) ⟨X.1, X.2.1, X.2.2.1, X.2.2.2.1, X.2.2.2.2.1⟩ hM (ml_cwS X cv h0 hR) ⟨ml_U_blind, ml_Upre X h1 h3 h4⟩ rfl hn hl.1 rfl (lv_room hrest) d hkc) h2 (fun _ _ h => h) (fun _ h => h) (fun r u t H1 locs1 ht hvm hw hB hz1 hk1 hS => ?_)
  obtain ⟨hP1, hK1, hok1, hro1⟩ := hB
  rw [ht] at hP1
  obtain ⟨rfl, hr, hq⟩ := hw
  exact kk u.1 u.2 hr hq H1 locs1 hP1 hS hok1 hro1
theorem ml_callzV (X : ml_X p s m c meth args D cA cc nL own rt) {C : String} {index : Nat} {y : MethodName} {bytes : ByteArray} {mxl : Nat} {ret : Option FieldType} {nA : Nat} {rm : Room} (As : List Value) {Qc : Int → ml_St → Prop} {ci N : Nat} {k : Int} {T : u_T} (hci : ci < 13) (hc : ml_cls[ci]? = some (C, T, N)) (hk : ml_at n k (ci + 10, N)) (hM : Met l y (Cond.code y bytes mxl ret :: ml_T) rm (va_Pc (.ref (base + k.toNat) :: As) (ml_U base D cA n σ)) (ml_Qi ml_B base D cA n Qc) 0 0 (ml_A base)) (cv : ml_CV own C index y bytes mxl ret nA) (h0 : rm.cells = 0 ∧ rm.slots = 0) (hR : rm.frames + 1 ≤ R.frames ∧ 8 + (mxl + 11) + rm.locals ≤ R.locals) {st : List Value} (hst : st = As.reverse ++ .ref (base + k.toNat) :: rest) (hn : As.length = nA) (hl : lv_has ls nL lst) (hrest : (rest.map fun v => v.category).sum ≤ 8) (hkc : kc ≤ R.cells ∧ ks ≤ R.slots) (d : decode cc pc = .ok (.invokevirtual index, 3))
    (kk : ∀ (r : Int) (σ' : ml_St), ml_B r → Qc r σ' → ml_V p l e R s m args below meth c Q base D cA kc ks n n σ' (F0 m (pc + 3) ls (.int (Int32.ofInt r) :: rest))) : ml_V p l e R s m args below meth c Q base D cA kc ks n n σ (F0 m (pc) ls st) := by
  subst hst
  intro H locs h1 h2 h3 h4
  refine va_calli (va_runV (As := As) (rest := rest) ⟨X.1, X.2.1, X.2.2.1, X.2.2.2.1, X.2.2.2.2.1⟩ hM (ml_cwV X cv h0 hR) ⟨ml_U_blind, ml_recv X.2.2.2.2.2.1 h1 hci hc hk, ml_Upre X h1 h3 h4⟩ rfl hn hl.1 rfl (lv_room hrest) d hkc) h2 (fun _ _ h => h) (fun _ h => h) (fun r u t H1 locs1 ht hvm hw hB hz1 hk1 hS => ?_)
  obtain ⟨hP1, hK1, hok1, hro1⟩ := hB
  rw [ht] at hP1
  obtain ⟨rfl, hr, hq⟩ := hw
  exact kk u.1 u.2 hr hq H1 locs1 hP1 hS hok1 hro1
theorem ml_callzS (X : ml_X p s m c meth args D cA cc nL own rt) {C : String} {index : Nat} {y : MethodName} {bytes : ByteArray} {mxl : Nat} {ret : Option FieldType} {nA : Nat} {rm : Room} (As : List Value) {Qc : Int → ml_St → Prop} (hM : Met l y (Cond.code y bytes mxl ret :: ml_T) rm (va_Pc (As) (ml_U base D cA n σ)) (ml_Qi ml_B base D cA n Qc) 0 0 (ml_A base)) (cv : ml_CS own C index y bytes mxl ret nA) (h0 : rm.cells = 0 ∧ rm.slots = 0) (hR : rm.frames + 1 ≤ R.frames ∧ 8 + (mxl + 11) + rm.locals ≤ R.locals) {st : List Value} (hst : st = As.reverse ++ rest) (hn : As.length = nA) (hl : lv_has ls nL lst) (hrest : (rest.map fun v => v.category).sum ≤ 8) (hkc : kc ≤ R.cells ∧ ks ≤ R.slots) (d : decode cc pc = .ok (.invokestatic index, 3))
    (kk : ∀ (r : Int) (σ' : ml_St), ml_B r → Qc r σ' → ml_V p l e R s m args below meth c Q base D cA kc ks n n σ' (F0 m (pc + 3) ls (.int (Int32.ofInt r) :: rest))) : ml_V p l e R s m args below meth c Q base D cA kc ks n n σ (F0 m (pc) ls st) := by
  subst hst
  intro H locs h1 h2 h3 h4
  refine va_calli (va_runS (As := As) (rest := rest) ⟨X.1, X.2.1, X.2.2.1, X.2.2.2.1, X.2.2.2.2.1⟩ hM (ml_cwS X cv h0 hR) ⟨ml_U_blind, ml_Upre X h1 h3 h4⟩ rfl hn hl.1 rfl (lv_room hrest) d hkc) h2 (fun _ _ h => h) (fun _ h => h) (fun r u t H1 locs1 ht hvm hw hB hz1 hk1 hS => ?_)
  obtain ⟨hP1, hK1, hok1, hro1⟩ := hB
  rw [ht] at hP1
  obtain ⟨rfl, hr, hq⟩ := hw
  exact kk u.1 u.2 hr hq H1 locs1 hP1 hS hok1 hro1
theorem ml_calllV (X : ml_X p s m c meth args D cA cc nL own rt) {C : String} {index : Nat} {y : MethodName} {bytes : ByteArray} {mxl : Nat} {ret : Option FieldType} {nA : Nat} {rm : Room} (As : List Value) {Qc : Int → ml_St → Prop} {ci N : Nat} {k : Int} {T : u_T} (hci : ci < 13) (hc : ml_cls[ci]? = some (C, T, N)) (hk : ml_at n k (ci + 10, N)) (hM : Met l y (Cond.code y bytes mxl ret :: ml_T) rm (va_Pc (.ref (base + k.toNat) :: As) (ml_U base D cA n σ)) (ml_Ql base D cA n Qc) 0 0 (ml_A base)) (cv : ml_CV own C index y bytes mxl ret nA) (h0 : rm.cells = 0 ∧ rm.slots = 0) (hR : rm.frames + 1 ≤ R.frames ∧ 8 + (mxl + 11) + rm.locals ≤ R.locals) {st : List Value} (hst : st = As.reverse ++ .ref (base + k.toNat) :: rest) (hn : As.length = nA) (hl : lv_has ls nL lst) (hrest : (rest.map fun v => v.category).sum ≤ 8) (hkc : kc ≤ R.cells ∧ ks ≤ R.slots) (d : decode cc pc = .ok (.invokevirtual index, 3))
    (kk : ∀ (r : Int) (σ' : ml_St), I64 r → Qc r σ' → ml_V p l e R s m args below meth c Q base D cA kc ks n n σ' (F0 m (pc + 3) ls (.long (Int64.ofInt r) :: rest))) : ml_V p l e R s m args below meth c Q base D cA kc ks n n σ (F0 m (pc) ls st) := by
  subst hst
  intro H locs h1 h2 h3 h4
  refine va_calll (va_runV (As := As) (rest := rest) ⟨X.1, X.2.1, X.2.2.1, X.2.2.2.1, X.2.2.2.2.1⟩ hM (ml_cwV X cv h0 hR) ⟨ml_U_blind, ml_recv X.2.2.2.2.2.1 h1 hci hc hk, ml_Upre X h1 h3 h4⟩ rfl hn hl.1 rfl (lv_room hrest) d hkc) h2 (fun _ _ h => h) (fun _ h => h) (fun r u t H1 locs1 ht hvm hw hB hz1 hk1 hS => ?_)
  obtain ⟨hP1, hK1, hok1, hro1⟩ := hB
  rw [ht] at hP1
  obtain ⟨rfl, hr, hq⟩ := hw
  exact kk u.1 u.2 hr hq H1 locs1 hP1 hS hok1 hro1
theorem ml_calllS (X : ml_X p s m c meth args D cA cc nL own rt) {C : String} {index : Nat} {y : MethodName} {bytes : ByteArray} {mxl : Nat} {ret : Option FieldType} {nA : Nat} {rm : Room} (As : List Value) {Qc : Int → ml_St → Prop} (hM : Met l y (Cond.code y bytes mxl ret :: ml_T) rm (va_Pc (As) (ml_U base D cA n σ)) (ml_Ql base D cA n Qc) 0 0 (ml_A base)) (cv : ml_CS own C index y bytes mxl ret nA) (h0 : rm.cells = 0 ∧ rm.slots = 0) (hR : rm.frames + 1 ≤ R.frames ∧ 8 + (mxl + 11) + rm.locals ≤ R.locals) {st : List Value} (hst : st = As.reverse ++ rest) (hn : As.length = nA) (hl : lv_has ls nL lst) (hrest : (rest.map fun v => v.category).sum ≤ 8) (hkc : kc ≤ R.cells ∧ ks ≤ R.slots) (d : decode cc pc = .ok (.invokestatic index, 3))
    (kk : ∀ (r : Int) (σ' : ml_St), I64 r → Qc r σ' → ml_V p l e R s m args below meth c Q base D cA kc ks n n σ' (F0 m (pc + 3) ls (.long (Int64.ofInt r) :: rest))) : ml_V p l e R s m args below meth c Q base D cA kc ks n n σ (F0 m (pc) ls st) := by
  subst hst
  intro H locs h1 h2 h3 h4
  refine va_calll (va_runS (As := As) (rest := rest) ⟨X.1, X.2.1, X.2.2.1, X.2.2.2.1, X.2.2.2.2.1⟩ hM (ml_cwS X cv h0 hR) ⟨ml_U_blind, ml_Upre X h1 h3 h4⟩ rfl hn hl.1 rfl (lv_room hrest) d hkc) h2 (fun _ _ h => h) (fun _ h => h) (fun r u t H1 locs1 ht hvm hw hB hz1 hk1 hS => ?_)
  obtain ⟨hP1, hK1, hok1, hro1⟩ := hB
  rw [ht] at hP1
  obtain ⟨rfl, hr, hq⟩ := hw
  exact kk u.1 u.2 hr hq H1 locs1 hP1 hS hok1 hro1
theorem ml_vret (X : ml_X p s m c meth args D cA cc nL own none) {Qc : ml_St → Prop} (hq : Qc σ) (d : decode cc pc = .ok (.return_, 1)) : ml_V p l e R s m args below meth c (MQ below (ml_Qv base D cA n Qc) args s kc ks (ml_A base)) base D cA kc ks n n σ (F0 m (pc) ls ([])) :=
  fun H locs h1 h2 h3 h4 => W.vret X.1 X.2.1 X.2.2.2.2.2.2.2 (fun t ht hW => ⟨⟨σ, rfl, hq, by rw [ht]; exact h1, va_K.moved hW.alike X.2.2.2.2.2.1, h3, h4⟩, h2.F ht⟩) h2.2.2 d (hlocks := X.2.2.2.2.2.2.1)
theorem ml_iret (X : ml_X p s m c meth args D cA cc nL own (some .int)) {Qc : Int → ml_St → Prop} {r : Int} (hr : I32 r) (hq : Qc r σ) (d : decode cc pc = .ok (.ireturn, 1)) : ml_V p l e R s m args below meth c (MQ below (ml_Qi I32 base D cA n Qc) args s kc ks (ml_A base)) base D cA kc ks n n σ (F0 m (pc) ls ([.int (Int32.ofInt r)])) :=
  fun H locs h1 h2 h3 h4 => W.iret X.1 X.2.1 X.2.2.2.2.2.2.2 (fun t ht hW => ⟨⟨_, (r, σ), rfl, ⟨rfl, hr, hq⟩, by rw [ht]; exact h1, va_K.moved hW.alike X.2.2.2.2.2.1, h3, h4⟩, h2.F ht⟩) h2.2.2 d (hlocks := X.2.2.2.2.2.2.1)
theorem ml_narz {r : Int} (hr : ml_B r) : narrow .boolean (.int (Int32.ofInt r)) = .int (Int32.ofInt r) := by
  have h1 := hr.1
  have h2 := hr.2
  rcases (show r = 0 ∨ r = 1 by omega) with rfl | rfl
  · rfl
  · rfl
theorem ml_zret (X : ml_X p s m c meth args D cA cc nL own (some .boolean)) {Qc : Int → ml_St → Prop} {r : Int} (hr : ml_B r) (hq : Qc r σ) (d : decode cc pc = .ok (.ireturn, 1)) : ml_V p l e R s m args below meth c (MQ below (ml_Qi ml_B base D cA n Qc) args s kc ks (ml_A base)) base D cA kc ks n n σ (F0 m (pc) ls ([.int (Int32.ofInt r)])) :=
  fun H locs h1 h2 h3 h4 => W.zret X.1 X.2.1 X.2.2.2.2.2.2.2 (ml_narz hr) (fun t ht hW => ⟨⟨_, (r, σ), rfl, ⟨rfl, hr, hq⟩, by rw [ht]; exact h1, va_K.moved hW.alike X.2.2.2.2.2.1, h3, h4⟩, h2.F ht⟩) h2.2.2 d (hlocks := X.2.2.2.2.2.2.1)
theorem ml_lret (X : ml_X p s m c meth args D cA cc nL own (some .long)) {Qc : Int → ml_St → Prop} {r : Int} (hr : I64 r) (hq : Qc r σ) (d : decode cc pc = .ok (.lreturn, 1)) : ml_V p l e R s m args below meth c (MQ below (ml_Ql base D cA n Qc) args s kc ks (ml_A base)) base D cA kc ks n n σ (F0 m (pc) ls ([.long (Int64.ofInt r)])) :=
  fun H locs h1 h2 h3 h4 => W.lret X.1 X.2.1 X.2.2.2.2.2.2.2 (fun t ht hW => ⟨⟨_, (r, σ), rfl, ⟨rfl, hr, hq⟩, by rw [ht]; exact h1, va_K.moved hW.alike X.2.2.2.2.2.1, h3, h4⟩, h2.F ht⟩) h2.2.2 d (hlocks := X.2.2.2.2.2.2.1)
end MLO
