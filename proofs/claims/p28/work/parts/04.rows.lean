/-! THE JUDGEMENT over the store, and its rows -/
def ml_X (p : Program) (s : State) (m : MethodId) (c : Code) (meth : Method) (args : Array Value) (D : va_G) (cA : Nat → ClassId) (cc : ByteArray) (nL : Nat) (own : String) (rt : Option FieldType) : Prop :=
  p.tables.exec = Jvm.exec ∧ c.code = cc ∧ c.maxLocals = nL ∧ s.vm.findClass own = some m.cls ∧ (∀ w ∈ ml_T, w.before args s = true) ∧ va_K D ml_cls (ml_tys cA) s ∧ meth.locks = false ∧ meth.sig.returnType = rt
def ml_V (p : Program) (l : Launch) (e : Env) (R : Room) (s : State) (m : MethodId) (args : Array Value) (below : List Frame) (meth : Method) (c : Code) (Q : State → Prop) (base : Nat) (D : va_G) (cA : Nat → ClassId) (kc ks rr n : Nat) (σ : ml_St) (g : JFrame) : Prop :=
  ∀ (H : Heap) (locs : List Loc), va_P D ml_cls (ml_cells base cA n σ) H → va_S (ml_A base) s.heap H locs → ml_ok n σ → ml_RO rr σ → W p l e R s m args below meth c H locs kc ks Q g
section MLV
variable {p : Program} {l : Launch} {e : Env} {R : Room} {s : State} {m : MethodId} {args : Array Value} {below : List Frame} {meth : Method} {c : Code} {Q : State → Prop} {base : Nat} {D : va_G} {cA : Nat → ClassId} {kc ks rr n : Nat} {σ : ml_St} {cc : ByteArray} {nL pc : Nat} {own : String} {rt : Option FieldType} {ls : Array Slot} {rest : List Value} {lst : List (Nat × Value)}
theorem ml_iconst (X : ml_X p s m c meth args D cA cc nL own rt) {v : Int} (d : decode cc pc = .ok (.iconst v, 1)) (k : ml_V p l e R s m args below meth c Q base D cA kc ks rr n σ (F0 m (pc + 1) ls (.int (Int32.ofInt v) :: rest))) : ml_V p l e R s m args below meth c Q base D cA kc ks rr n σ (F0 m (pc) ls (rest)) := fun H locs h1 h2 h3 h4 => lv_iconst X.1 X.2.1 d rfl (k H locs h1 h2 h3 h4)
theorem ml_bipush (X : ml_X p s m c meth args D cA cc nL own rt) {v : Int} (d : decode cc pc = .ok (.bipush v, 2)) (hv : (Int8.ofInt v).toInt32 = Int32.ofInt v) (k : ml_V p l e R s m args below meth c Q base D cA kc ks rr n σ (F0 m (pc + 2) ls (.int (Int32.ofInt v) :: rest))) : ml_V p l e R s m args below meth c Q base D cA kc ks rr n σ (F0 m (pc) ls (rest)) := fun H locs h1 h2 h3 h4 => lv_bipush X.1 X.2.1 d hv (k H locs h1 h2 h3 h4)
theorem ml_sipush (X : ml_X p s m c meth args D cA cc nL own rt) {v : Int} (d : decode cc pc = .ok (.sipush v, 3)) (hv : (Int16.ofInt v).toInt32 = Int32.ofInt v) (k : ml_V p l e R s m args below meth c Q base D cA kc ks rr n σ (F0 m (pc + 3) ls (.int (Int32.ofInt v) :: rest))) : ml_V p l e R s m args below meth c Q base D cA kc ks rr n σ (F0 m (pc) ls (rest)) := fun H locs h1 h2 h3 h4 => lv_sipush X.1 X.2.1 d hv (k H locs h1 h2 h3 h4)
theorem ml_ldcw (X : ml_X p s m c meth args D cA cc nL own rt) {ix : Nat} {v : Int} (d : decode cc pc = .ok (.ldc_w ix, 3)) (hc : Cond.constant own ix (Int32.ofInt v) ∈ ml_T) (k : ml_V p l e R s m args below meth c Q base D cA kc ks rr n σ (F0 m (pc + 3) ls (.int (Int32.ofInt v) :: rest))) : ml_V p l e R s m args below meth c Q base D cA kc ks rr n σ (F0 m (pc) ls (rest)) := fun H locs h1 h2 h3 h4 => lv_ldcw X.1 X.2.1 X.2.2.2.1 (X.2.2.2.2.1 _ hc) d (k H locs h1 h2 h3 h4)
theorem ml_lconst0 (X : ml_X p s m c meth args D cA cc nL own rt) (d : decode cc pc = .ok (.lconst 0, 1)) (k : ml_V p l e R s m args below meth c Q base D cA kc ks rr n σ (F0 m (pc + 1) ls (.long (Int64.ofInt 0) :: rest))) : ml_V p l e R s m args below meth c Q base D cA kc ks rr n σ (F0 m (pc) ls (rest)) := fun H locs h1 h2 h3 h4 => lv_lconst X.1 X.2.1 d rfl (k H locs h1 h2 h3 h4)
theorem ml_lconst1 (X : ml_X p s m c meth args D cA cc nL own rt) (d : decode cc pc = .ok (.lconst 1, 1)) (k : ml_V p l e R s m args below meth c Q base D cA kc ks rr n σ (F0 m (pc + 1) ls (.long (Int64.ofInt 1) :: rest))) : ml_V p l e R s m args below meth c Q base D cA kc ks rr n σ (F0 m (pc) ls (rest)) := fun H locs h1 h2 h3 h4 => lv_lconst X.1 X.2.1 d rfl (k H locs h1 h2 h3 h4)
theorem ml_ldc2 (X : ml_X p s m c meth args D cA cc nL own rt) {ix : Nat} {v : Int} (d : decode cc pc = .ok (.ldc2_w ix, 3)) (hc : Cond.constantLong own ix (Int64.ofInt v) ∈ ml_T) (k : ml_V p l e R s m args below meth c Q base D cA kc ks rr n σ (F0 m (pc + 3) ls (.long (Int64.ofInt v) :: rest))) : ml_V p l e R s m args below meth c Q base D cA kc ks rr n σ (F0 m (pc) ls (rest)) := fun H locs h1 h2 h3 h4 => lv_ldc2 X.1 X.2.1 X.2.2.2.1 (X.2.2.2.2.1 _ hc) d (k H locs h1 h2 h3 h4)
theorem ml_iload_n (X : ml_X p s m c meth args D cA cc nL own rt) {kk : Fin 4} {x : Int} (hl : lv_has ls nL lst) (q : Nat) {i : Nat} (hq : lst[q]? = some (i, .int (Int32.ofInt x))) (hi : (kk : Nat) = i) (d : decode cc pc = .ok (.iload_n kk, 1)) (k : ml_V p l e R s m args below meth c Q base D cA kc ks rr n σ (F0 m (pc + 1) ls (.int (Int32.ofInt x) :: rest))) : ml_V p l e R s m args below meth c Q base D cA kc ks rr n σ (F0 m (pc) ls (rest)) := fun H locs h1 h2 h3 h4 => lv_iload_n X.1 X.2.1 d hi (lv_at hl q hq) (k H locs h1 h2 h3 h4)
theorem ml_iload (X : ml_X p s m c meth args D cA cc nL own rt) {x : Int} (hl : lv_has ls nL lst) (q : Nat) {i : Nat} (hq : lst[q]? = some (i, .int (Int32.ofInt x))) (d : decode cc pc = .ok (.iload i, 2)) (k : ml_V p l e R s m args below meth c Q base D cA kc ks rr n σ (F0 m (pc + 2) ls (.int (Int32.ofInt x) :: rest))) : ml_V p l e R s m args below meth c Q base D cA kc ks rr n σ (F0 m (pc) ls (rest)) := fun H locs h1 h2 h3 h4 => lv_iload X.1 X.2.1 d (lv_at hl q hq) (k H locs h1 h2 h3 h4)
theorem ml_istore_n (X : ml_X p s m c meth args D cA cc nL own rt) {kk : Fin 4} {x : Int} {i : Nat} (hi : (kk : Nat) = i) (hl : lv_has ls nL lst) {lst' : List (Nat × Value)} (hn : i < nL) (hf : (i, Value.int (Int32.ofInt x)) :: lst.filter (fun q => !(q.1 == i) && !(q.1 + 1 == i && q.2.category == 2)) = lst') (d : decode cc pc = .ok (.istore_n kk, 1)) (k : ∀ ls' : Array Slot, lv_has ls' nL lst' → ml_V p l e R s m args below meth c Q base D cA kc ks rr n σ (F0 m (pc + 1) ls' (rest))) : ml_V p l e R s m args below meth c Q base D cA kc ks rr n σ (F0 m (pc) ls (.int (Int32.ofInt x) :: rest)) := fun H locs h1 h2 h3 h4 => lv_istore_n X.1 X.2.1 d hi hl hn hf (fun ls' h => k ls' h H locs h1 h2 h3 h4)
theorem ml_istore (X : ml_X p s m c meth args D cA cc nL own rt) {x : Int} {i : Nat} (hl : lv_has ls nL lst) {lst' : List (Nat × Value)} (hn : i < nL) (hf : (i, Value.int (Int32.ofInt x)) :: lst.filter (fun q => !(q.1 == i) && !(q.1 + 1 == i && q.2.category == 2)) = lst') (d : decode cc pc = .ok (.istore i, 2)) (k : ∀ ls' : Array Slot, lv_has ls' nL lst' → ml_V p l e R s m args below meth c Q base D cA kc ks rr n σ (F0 m (pc + 2) ls' (rest))) : ml_V p l e R s m args below meth c Q base D cA kc ks rr n σ (F0 m (pc) ls (.int (Int32.ofInt x) :: rest)) := fun H locs h1 h2 h3 h4 => lv_istore X.1 X.2.1 d hl hn hf (fun ls' h => k ls' h H locs h1 h2 h3 h4)
theorem ml_lload_n (X : ml_X p s m c meth args D cA cc nL own rt) {kk : Fin 4} {x : Int} (hl : lv_has ls nL lst) (q : Nat) {i : Nat} (hq : lst[q]? = some (i, .long (Int64.ofInt x))) (hi : (kk : Nat) = i) (d : decode cc pc = .ok (.lload_n kk, 1)) (k : ml_V p l e R s m args below meth c Q base D cA kc ks rr n σ (F0 m (pc + 1) ls (.long (Int64.ofInt x) :: rest))) : ml_V p l e R s m args below meth c Q base D cA kc ks rr n σ (F0 m (pc) ls (rest)) := fun H locs h1 h2 h3 h4 => lv_lload_n X.1 X.2.1 d hi (lv_at hl q hq) (k H locs h1 h2 h3 h4)
theorem ml_lload (X : ml_X p s m c meth args D cA cc nL own rt) {x : Int} (hl : lv_has ls nL lst) (q : Nat) {i : Nat} (hq : lst[q]? = some (i, .long (Int64.ofInt x))) (d : decode cc pc = .ok (.lload i, 2)) (k : ml_V p l e R s m args below meth c Q base D cA kc ks rr n σ (F0 m (pc + 2) ls (.long (Int64.ofInt x) :: rest))) : ml_V p l e R s m args below meth c Q base D cA kc ks rr n σ (F0 m (pc) ls (rest)) := fun H locs h1 h2 h3 h4 => lv_lload X.1 X.2.1 d (lv_at hl q hq) (k H locs h1 h2 h3 h4)
theorem ml_lstore_n (X : ml_X p s m c meth args D cA cc nL own rt) {kk : Fin 4} {x : Int} {i : Nat} (hi : (kk : Nat) = i) (hl : lv_has ls nL lst) {lst' : List (Nat × Value)} (hn : i + 1 < nL) (hf : (i, Value.long (Int64.ofInt x)) :: lst.filter (fun q => !(q.1 == i) && (!(q.1 == i + 1) && !(q.1 + 1 == i && q.2.category == 2))) = lst') (d : decode cc pc = .ok (.lstore_n kk, 1)) (k : ∀ ls' : Array Slot, lv_has ls' nL lst' → ml_V p l e R s m args below meth c Q base D cA kc ks rr n σ (F0 m (pc + 1) ls' (rest))) : ml_V p l e R s m args below meth c Q base D cA kc ks rr n σ (F0 m (pc) ls (.long (Int64.ofInt x) :: rest)) := fun H locs h1 h2 h3 h4 => lv_lstore_n X.1 X.2.1 d hi hl hn hf (fun ls' h => k ls' h H locs h1 h2 h3 h4)
theorem ml_lstore (X : ml_X p s m c meth args D cA cc nL own rt) {x : Int} {i : Nat} (hl : lv_has ls nL lst) {lst' : List (Nat × Value)} (hn : i + 1 < nL) (hf : (i, Value.long (Int64.ofInt x)) :: lst.filter (fun q => !(q.1 == i) && (!(q.1 == i + 1) && !(q.1 + 1 == i && q.2.category == 2))) = lst') (d : decode cc pc = .ok (.lstore i, 2)) (k : ∀ ls' : Array Slot, lv_has ls' nL lst' → ml_V p l e R s m args below meth c Q base D cA kc ks rr n σ (F0 m (pc + 2) ls' (rest))) : ml_V p l e R s m args below meth c Q base D cA kc ks rr n σ (F0 m (pc) ls (.long (Int64.ofInt x) :: rest)) := fun H locs h1 h2 h3 h4 => lv_lstore X.1 X.2.1 d hl hn hf (fun ls' h => k ls' h H locs h1 h2 h3 h4)
theorem ml_aload_n (X : ml_X p s m c meth args D cA cc nL own rt) {kk : Fin 4} {x : Nat} (hl : lv_has ls nL lst) (q : Nat) {i : Nat} (hq : lst[q]? = some (i, .ref x)) (hi : (kk : Nat) = i) (d : decode cc pc = .ok (.aload_n kk, 1)) (k : ml_V p l e R s m args below meth c Q base D cA kc ks rr n σ (F0 m (pc + 1) ls (.ref x :: rest))) : ml_V p l e R s m args below meth c Q base D cA kc ks rr n σ (F0 m (pc) ls (rest)) := fun H locs h1 h2 h3 h4 => lv_aload_n X.1 X.2.1 d hi (lv_at hl q hq) (k H locs h1 h2 h3 h4)
theorem ml_aload (X : ml_X p s m c meth args D cA cc nL own rt) {x : Nat} (hl : lv_has ls nL lst) (q : Nat) {i : Nat} (hq : lst[q]? = some (i, .ref x)) (d : decode cc pc = .ok (.aload i, 2)) (k : ml_V p l e R s m args below meth c Q base D cA kc ks rr n σ (F0 m (pc + 2) ls (.ref x :: rest))) : ml_V p l e R s m args below meth c Q base D cA kc ks rr n σ (F0 m (pc) ls (rest)) := fun H locs h1 h2 h3 h4 => lv_aload X.1 X.2.1 d (lv_at hl q hq) (k H locs h1 h2 h3 h4)
theorem ml_astore_n (X : ml_X p s m c meth args D cA cc nL own rt) {kk : Fin 4} {x : Nat} {i : Nat} (hi : (kk : Nat) = i) (hl : lv_has ls nL lst) {lst' : List (Nat × Value)} (hn : i < nL) (hf : (i, Value.ref x) :: lst.filter (fun q => !(q.1 == i) && !(q.1 + 1 == i && q.2.category == 2)) = lst') (d : decode cc pc = .ok (.astore_n kk, 1)) (k : ∀ ls' : Array Slot, lv_has ls' nL lst' → ml_V p l e R s m args below meth c Q base D cA kc ks rr n σ (F0 m (pc + 1) ls' (rest))) : ml_V p l e R s m args below meth c Q base D cA kc ks rr n σ (F0 m (pc) ls (.ref x :: rest)) := fun H locs h1 h2 h3 h4 => lv_astore_n X.1 X.2.1 d hi hl hn hf (fun ls' h => k ls' h H locs h1 h2 h3 h4)
theorem ml_astore (X : ml_X p s m c meth args D cA cc nL own rt) {x : Nat} {i : Nat} (hl : lv_has ls nL lst) {lst' : List (Nat × Value)} (hn : i < nL) (hf : (i, Value.ref x) :: lst.filter (fun q => !(q.1 == i) && !(q.1 + 1 == i && q.2.category == 2)) = lst') (d : decode cc pc = .ok (.astore i, 2)) (k : ∀ ls' : Array Slot, lv_has ls' nL lst' → ml_V p l e R s m args below meth c Q base D cA kc ks rr n σ (F0 m (pc + 2) ls' (rest))) : ml_V p l e R s m args below meth c Q base D cA kc ks rr n σ (F0 m (pc) ls (.ref x :: rest)) := fun H locs h1 h2 h3 h4 => lv_astore X.1 X.2.1 d hl hn hf (fun ls' h => k ls' h H locs h1 h2 h3 h4)
theorem ml_iinc (X : ml_X p s m c meth args D cA cc nL own rt) {i : Nat} {x v y : Int} (ey : y = x + v) (hl : lv_has ls nL lst) (q : Nat) (hq : lst[q]? = some (i, .int (Int32.ofInt x))) {lst' : List (Nat × Value)} (hn : i < nL) (hf : (i, Value.int (Int32.ofInt y)) :: lst.filter (fun q => !(q.1 == i) && !(q.1 + 1 == i && q.2.category == 2)) = lst') (d : decode cc pc = .ok (.iinc i v, 3)) (k : ∀ ls' : Array Slot, lv_has ls' nL lst' → ml_V p l e R s m args below meth c Q base D cA kc ks rr n σ (F0 m (pc + 3) ls' (rest))) : ml_V p l e R s m args below meth c Q base D cA kc ks rr n σ (F0 m (pc) ls (rest)) := fun H locs h1 h2 h3 h4 => lv_iinc X.1 X.2.1 d hl hq (by rw [ey]; exact (Int32.ofInt_add _ _).symm) hn hf (fun ls' h => k ls' h H locs h1 h2 h3 h4)
theorem ml_goto (X : ml_X p s m c meth args D cA cc nL own rt) {off : Int} {tgt : Nat} (d : decode cc pc = .ok (.goto off, 3)) (ht : (pc : Int) + off = (tgt : Int)) (k : ml_V p l e R s m args below meth c Q base D cA kc ks rr n σ (F0 m (tgt) ls (rest))) : ml_V p l e R s m args below meth c Q base D cA kc ks rr n σ (F0 m (pc) ls (rest)) := fun H locs h1 h2 h3 h4 => lv_goto X.1 X.2.1 d ht (k H locs h1 h2 h3 h4)
theorem ml_dup (X : ml_X p s m c meth args D cA cc nL own rt) {va : Value} (d : decode cc pc = .ok (.dup, 1)) (hv : va.category = 1) (k : ml_V p l e R s m args below meth c Q base D cA kc ks rr n σ (F0 m (pc + 1) ls (va :: va :: rest))) : ml_V p l e R s m args below meth c Q base D cA kc ks rr n σ (F0 m (pc) ls (va :: rest)) := fun H locs h1 h2 h3 h4 => lv_dup X.1 X.2.1 d hv (k H locs h1 h2 h3 h4)
theorem ml_pop (X : ml_X p s m c meth args D cA cc nL own rt) {va : Value} (d : decode cc pc = .ok (.pop, 1)) (hv : va.category = 1) (k : ml_V p l e R s m args below meth c Q base D cA kc ks rr n σ (F0 m (pc + 1) ls (rest))) : ml_V p l e R s m args below meth c Q base D cA kc ks rr n σ (F0 m (pc) ls (va :: rest)) := fun H locs h1 h2 h3 h4 => lv_pop X.1 X.2.1 d hv (k H locs h1 h2 h3 h4)
theorem ml_pop2 (X : ml_X p s m c meth args D cA cc nL own rt) {va : Value} (d : decode cc pc = .ok (.pop2, 1)) (hv : va.category = 2) (k : ml_V p l e R s m args below meth c Q base D cA kc ks rr n σ (F0 m (pc + 1) ls (rest))) : ml_V p l e R s m args below meth c Q base D cA kc ks rr n σ (F0 m (pc) ls (va :: rest)) := fun H locs h1 h2 h3 h4 => lv_pop2_2 X.1 X.2.1 d hv (k H locs h1 h2 h3 h4)
theorem ml_dup2 (X : ml_X p s m c meth args D cA cc nL own rt) {va vb : Value} (d : decode cc pc = .ok (.dup2, 1)) (hv : va.category = 1) (hw : vb.category = 1) (k : ml_V p l e R s m args below meth c Q base D cA kc ks rr n σ (F0 m (pc + 1) ls (va :: vb :: va :: vb :: rest))) : ml_V p l e R s m args below meth c Q base D cA kc ks rr n σ (F0 m (pc) ls (va :: vb :: rest)) := fun H locs h1 h2 h3 h4 => lv_dup2_11 X.1 X.2.1 d hv hw (k H locs h1 h2 h3 h4)
theorem ml_topI {x : Int} (k : ∀ y : Int, y = x → ml_V p l e R s m args below meth c Q base D cA kc ks rr n σ (F0 m (pc) ls (.int (Int32.ofInt y) :: rest))) : ml_V p l e R s m args below meth c Q base D cA kc ks rr n σ (F0 m (pc) ls (.int (Int32.ofInt x) :: rest)) := k x rfl
theorem ml_topL {x : Int} (k : ∀ y : Int, y = x → ml_V p l e R s m args below meth c Q base D cA kc ks rr n σ (F0 m (pc) ls (.long (Int64.ofInt y) :: rest))) : ml_V p l e R s m args below meth c Q base D cA kc ks rr n σ (F0 m (pc) ls (.long (Int64.ofInt x) :: rest)) := k x rfl
theorem ml_iadd (X : ml_X p s m c meth args D cA cc nL own rt) {x y : Int} (d : decode cc pc = .ok (.iadd, 1)) (k : ml_V p l e R s m args below meth c Q base D cA kc ks rr n σ (F0 m (pc + 1) ls (.int (Int32.ofInt (x + y)) :: rest))) : ml_V p l e R s m args below meth c Q base D cA kc ks rr n σ (F0 m (pc) ls (.int (Int32.ofInt y) :: .int (Int32.ofInt x) :: rest)) := fun H locs h1 h2 h3 h4 => lv_iadd X.1 X.2.1 d (by rw [← Int32.ofInt_add]; exact k H locs h1 h2 h3 h4)
theorem ml_ladd (X : ml_X p s m c meth args D cA cc nL own rt) {x y : Int} (d : decode cc pc = .ok (.ladd, 1)) (k : ml_V p l e R s m args below meth c Q base D cA kc ks rr n σ (F0 m (pc + 1) ls (.long (Int64.ofInt (x + y)) :: rest))) : ml_V p l e R s m args below meth c Q base D cA kc ks rr n σ (F0 m (pc) ls (.long (Int64.ofInt y) :: .long (Int64.ofInt x) :: rest)) := fun H locs h1 h2 h3 h4 => lv_ladd X.1 X.2.1 d (by rw [← Int64.ofInt_add]; exact k H locs h1 h2 h3 h4)
theorem ml_isub (X : ml_X p s m c meth args D cA cc nL own rt) {x y : Int} (d : decode cc pc = .ok (.isub, 1)) (k : ml_V p l e R s m args below meth c Q base D cA kc ks rr n σ (F0 m (pc + 1) ls (.int (Int32.ofInt (x - y)) :: rest))) : ml_V p l e R s m args below meth c Q base D cA kc ks rr n σ (F0 m (pc) ls (.int (Int32.ofInt y) :: .int (Int32.ofInt x) :: rest)) := fun H locs h1 h2 h3 h4 => lv_isub X.1 X.2.1 d (by rw [← Int32.ofInt_sub]; exact k H locs h1 h2 h3 h4)
theorem ml_lsub (X : ml_X p s m c meth args D cA cc nL own rt) {x y : Int} (d : decode cc pc = .ok (.lsub, 1)) (k : ml_V p l e R s m args below meth c Q base D cA kc ks rr n σ (F0 m (pc + 1) ls (.long (Int64.ofInt (x - y)) :: rest))) : ml_V p l e R s m args below meth c Q base D cA kc ks rr n σ (F0 m (pc) ls (.long (Int64.ofInt y) :: .long (Int64.ofInt x) :: rest)) := fun H locs h1 h2 h3 h4 => lv_lsub X.1 X.2.1 d (by rw [← Int64.ofInt_sub]; exact k H locs h1 h2 h3 h4)
theorem ml_imul (X : ml_X p s m c meth args D cA cc nL own rt) {x y : Int} (d : decode cc pc = .ok (.imul, 1)) (k : ml_V p l e R s m args below meth c Q base D cA kc ks rr n σ (F0 m (pc + 1) ls (.int (Int32.ofInt (x * y)) :: rest))) : ml_V p l e R s m args below meth c Q base D cA kc ks rr n σ (F0 m (pc) ls (.int (Int32.ofInt y) :: .int (Int32.ofInt x) :: rest)) := fun H locs h1 h2 h3 h4 => lv_imul X.1 X.2.1 d (by rw [← Int32.ofInt_mul]; exact k H locs h1 h2 h3 h4)
theorem ml_lmul (X : ml_X p s m c meth args D cA cc nL own rt) {x y : Int} (d : decode cc pc = .ok (.lmul, 1)) (k : ml_V p l e R s m args below meth c Q base D cA kc ks rr n σ (F0 m (pc + 1) ls (.long (Int64.ofInt (x * y)) :: rest))) : ml_V p l e R s m args below meth c Q base D cA kc ks rr n σ (F0 m (pc) ls (.long (Int64.ofInt y) :: .long (Int64.ofInt x) :: rest)) := fun H locs h1 h2 h3 h4 => lv_lmul X.1 X.2.1 d (by rw [← Int64.ofInt_mul]; exact k H locs h1 h2 h3 h4)
theorem ml_ineg (X : ml_X p s m c meth args D cA cc nL own rt) {x : Int} (d : decode cc pc = .ok (.ineg, 1)) (k : ml_V p l e R s m args below meth c Q base D cA kc ks rr n σ (F0 m (pc + 1) ls (.int (Int32.ofInt (-x)) :: rest))) : ml_V p l e R s m args below meth c Q base D cA kc ks rr n σ (F0 m (pc) ls (.int (Int32.ofInt x) :: rest)) := fun H locs h1 h2 h3 h4 => lv_ineg X.1 X.2.1 d (by rw [← Int32.ofInt_neg]; exact k H locs h1 h2 h3 h4)
theorem ml_divE {x y : Int} (hx : I32 x) (hy : I32 y) : Int32.ofInt x / Int32.ofInt y = Int32.ofInt (x.tdiv y) := by
  apply Int32.toInt_inj.mp
  rw [Int32.toInt_div, ml_32 hx, ml_32 hy, Int32.toInt_ofInt]
theorem ml_ldivE {x y : Int} (hx : I64 x) (hy : I64 y) : Int64.ofInt x / Int64.ofInt y = Int64.ofInt (x.tdiv y) := by
  apply Int64.toInt_inj.mp
  rw [Int64.toInt_div, ml_64 hx, ml_64 hy, Int64.toInt_ofInt]
theorem ml_remE {x y : Int} (hx : I32 x) (hy : I32 y) : Int32.ofInt x - Int32.ofInt x / Int32.ofInt y * Int32.ofInt y = Int32.ofInt (x.tmod y) := by
  rw [ml_divE hx hy, ← Int32.ofInt_mul, ← Int32.ofInt_sub, Int.tmod_def, Int.mul_comm y]
theorem ml_lremE {x y : Int} (hx : I64 x) (hy : I64 y) : Int64.ofInt x - Int64.ofInt x / Int64.ofInt y * Int64.ofInt y = Int64.ofInt (x.tmod y) := by
  rw [ml_ldivE hx hy, ← Int64.ofInt_mul, ← Int64.ofInt_sub, Int.tmod_def, Int.mul_comm y]
theorem ml_ne0 {y : Int} (hy : I32 y) (h : y ≠ 0) : ¬ Int32.ofInt y = 0 := fun q => h ((ml_eq hy ml_i0).mp q)
theorem ml_lne0 {y : Int} (hy : I64 y) (h : y ≠ 0) : ¬ Int64.ofInt y = 0 := fun q => h ((ml_leq hy ⟨by decide, by decide⟩).mp q)
theorem ml_idiv (X : ml_X p s m c meth args D cA cc nL own rt) {x y : Int} (hx : I32 x) (hy : I32 y) (h0 : y ≠ 0) (d : decode cc pc = .ok (.idiv, 1)) (k : ml_V p l e R s m args below meth c Q base D cA kc ks rr n σ (F0 m (pc + 1) ls (.int (Int32.ofInt (x.tdiv y)) :: rest))) : ml_V p l e R s m args below meth c Q base D cA kc ks rr n σ (F0 m (pc) ls (.int (Int32.ofInt y) :: .int (Int32.ofInt x) :: rest)) := fun H locs h1 h2 h3 h4 => lv_idiv X.1 X.2.1 d (ml_ne0 hy h0) (by rw [ml_divE hx hy]; exact k H locs h1 h2 h3 h4)
theorem ml_irem (X : ml_X p s m c meth args D cA cc nL own rt) {x y : Int} (hx : I32 x) (hy : I32 y) (h0 : y ≠ 0) (d : decode cc pc = .ok (.irem, 1)) (k : ml_V p l e R s m args below meth c Q base D cA kc ks rr n σ (F0 m (pc + 1) ls (.int (Int32.ofInt (x.tmod y)) :: rest))) : ml_V p l e R s m args below meth c Q base D cA kc ks rr n σ (F0 m (pc) ls (.int (Int32.ofInt y) :: .int (Int32.ofInt x) :: rest)) := fun H locs h1 h2 h3 h4 => lv_irem X.1 X.2.1 d (ml_ne0 hy h0) (by rw [ml_remE hx hy]; exact k H locs h1 h2 h3 h4)
theorem ml_ldiv (X : ml_X p s m c meth args D cA cc nL own rt) {x y : Int} (hx : I64 x) (hy : I64 y) (h0 : y ≠ 0) (d : decode cc pc = .ok (.ldiv, 1)) (k : ml_V p l e R s m args below meth c Q base D cA kc ks rr n σ (F0 m (pc + 1) ls (.long (Int64.ofInt (x.tdiv y)) :: rest))) : ml_V p l e R s m args below meth c Q base D cA kc ks rr n σ (F0 m (pc) ls (.long (Int64.ofInt y) :: .long (Int64.ofInt x) :: rest)) := fun H locs h1 h2 h3 h4 => lv_ldiv X.1 X.2.1 d (ml_lne0 hy h0) (by rw [ml_ldivE hx hy]; exact k H locs h1 h2 h3 h4)
theorem ml_lrem (X : ml_X p s m c meth args D cA cc nL own rt) {x y : Int} (hx : I64 x) (hy : I64 y) (h0 : y ≠ 0) (d : decode cc pc = .ok (.lrem, 1)) (k : ml_V p l e R s m args below meth c Q base D cA kc ks rr n σ (F0 m (pc + 1) ls (.long (Int64.ofInt (x.tmod y)) :: rest))) : ml_V p l e R s m args below meth c Q base D cA kc ks rr n σ (F0 m (pc) ls (.long (Int64.ofInt y) :: .long (Int64.ofInt x) :: rest)) := fun H locs h1 h2 h3 h4 => lv_lrem X.1 X.2.1 d (ml_lne0 hy h0) (by rw [ml_lremE hx hy]; exact k H locs h1 h2 h3 h4)
def w64 (x : Int) : Int := (Int64.ofInt x).toInt
theorem w64_r (x : Int) : I64 (w64 x) := ml_r64 _
theorem w64_e (x : Int) : Int64.ofInt (w64 x) = Int64.ofInt x := Int64.ofInt_toInt _
theorem w64_id {x : Int} (h : I64 x) : w64 x = x := ml_64 h
theorem ml_laddW (X : ml_X p s m c meth args D cA cc nL own rt) {x y : Int} (d : decode cc pc = .ok (.ladd, 1)) (k : ml_V p l e R s m args below meth c Q base D cA kc ks rr n σ (F0 m (pc + 1) ls (.long (Int64.ofInt (w64 (x + y))) :: rest))) : ml_V p l e R s m args below meth c Q base D cA kc ks rr n σ (F0 m (pc) ls (.long (Int64.ofInt y) :: .long (Int64.ofInt x) :: rest)) := ml_ladd X d (by rw [← w64_e]; exact k)
theorem ml_lsubW (X : ml_X p s m c meth args D cA cc nL own rt) {x y : Int} (d : decode cc pc = .ok (.lsub, 1)) (k : ml_V p l e R s m args below meth c Q base D cA kc ks rr n σ (F0 m (pc + 1) ls (.long (Int64.ofInt (w64 (x - y))) :: rest))) : ml_V p l e R s m args below meth c Q base D cA kc ks rr n σ (F0 m (pc) ls (.long (Int64.ofInt y) :: .long (Int64.ofInt x) :: rest)) := ml_lsub X d (by rw [← w64_e]; exact k)
theorem ml_lmulW (X : ml_X p s m c meth args D cA cc nL own rt) {x y : Int} (d : decode cc pc = .ok (.lmul, 1)) (k : ml_V p l e R s m args below meth c Q base D cA kc ks rr n σ (F0 m (pc + 1) ls (.long (Int64.ofInt (w64 (x * y))) :: rest))) : ml_V p l e R s m args below meth c Q base D cA kc ks rr n σ (F0 m (pc) ls (.long (Int64.ofInt y) :: .long (Int64.ofInt x) :: rest)) := ml_lmul X d (by rw [← w64_e]; exact k)
theorem ml_ldivW (X : ml_X p s m c meth args D cA cc nL own rt) {x y : Int} (hx : I64 x) (hy : I64 y) (h0 : y ≠ 0) (d : decode cc pc = .ok (.ldiv, 1)) (k : ml_V p l e R s m args below meth c Q base D cA kc ks rr n σ (F0 m (pc + 1) ls (.long (Int64.ofInt (w64 (x.tdiv y))) :: rest))) : ml_V p l e R s m args below meth c Q base D cA kc ks rr n σ (F0 m (pc) ls (.long (Int64.ofInt y) :: .long (Int64.ofInt x) :: rest)) := ml_ldiv X hx hy h0 d (by rw [← w64_e]; exact k)
theorem ml_tmod_r {x y : Int} (hx : I64 x) : I64 (x.tmod y) := by
  have h1 : (x.tmod y).natAbs ≤ x.natAbs := by rw [Int.natAbs_tmod]; exact Nat.mod_le _ _
  have := hx.1
  have := hx.2
  have h2 : 0 ≤ x → 0 ≤ x.tmod y := fun h => Int.tmod_nonneg y h
  have h3 : x < 0 → x.tmod y ≤ 0 := fun h => by
    have := Int.tmod_nonneg y (show 0 ≤ -x by omega)
    rw [Int.neg_tmod] at this
    omega
  constructor <;> omega
def b_and (x y : Int) : Int := (Int32.ofInt x &&& Int32.ofInt y).toInt
theorem b_and_r (x y : Int) : I32 (b_and x y) := ml_r32 _
theorem ml_iand (X : ml_X p s m c meth args D cA cc nL own rt) {x y : Int} (d : decode cc pc = .ok (.iand, 1)) (k : ml_V p l e R s m args below meth c Q base D cA kc ks rr n σ (F0 m (pc + 1) ls (.int (Int32.ofInt (b_and x y)) :: rest))) : ml_V p l e R s m args below meth c Q base D cA kc ks rr n σ (F0 m (pc) ls (.int (Int32.ofInt y) :: .int (Int32.ofInt x) :: rest)) := fun H locs h1 h2 h3 h4 => lv_iand X.1 X.2.1 d (by have := k H locs h1 h2 h3 h4; rwa [b_and, Int32.ofInt_toInt] at this)
def b_or (x y : Int) : Int := (Int32.ofInt x ||| Int32.ofInt y).toInt
theorem b_or_r (x y : Int) : I32 (b_or x y) := ml_r32 _
theorem ml_ior (X : ml_X p s m c meth args D cA cc nL own rt) {x y : Int} (d : decode cc pc = .ok (.ior, 1)) (k : ml_V p l e R s m args below meth c Q base D cA kc ks rr n σ (F0 m (pc + 1) ls (.int (Int32.ofInt (b_or x y)) :: rest))) : ml_V p l e R s m args below meth c Q base D cA kc ks rr n σ (F0 m (pc) ls (.int (Int32.ofInt y) :: .int (Int32.ofInt x) :: rest)) := fun H locs h1 h2 h3 h4 => lv_ior X.1 X.2.1 d (by have := k H locs h1 h2 h3 h4; rwa [b_or, Int32.ofInt_toInt] at this)
def b_xor (x y : Int) : Int := (Int32.ofInt x ^^^ Int32.ofInt y).toInt
theorem b_xor_r (x y : Int) : I32 (b_xor x y) := ml_r32 _
theorem ml_ixor (X : ml_X p s m c meth args D cA cc nL own rt) {x y : Int} (d : decode cc pc = .ok (.ixor, 1)) (k : ml_V p l e R s m args below meth c Q base D cA kc ks rr n σ (F0 m (pc + 1) ls (.int (Int32.ofInt (b_xor x y)) :: rest))) : ml_V p l e R s m args below meth c Q base D cA kc ks rr n σ (F0 m (pc) ls (.int (Int32.ofInt y) :: .int (Int32.ofInt x) :: rest)) := fun H locs h1 h2 h3 h4 => lv_ixor X.1 X.2.1 d (by have := k H locs h1 h2 h3 h4; rwa [b_xor, Int32.ofInt_toInt] at this)
def b_shl (x y : Int) : Int := (Int32.ofInt x <<< (Int32.ofInt y &&& 31)).toInt
theorem b_shl_r (x y : Int) : I32 (b_shl x y) := ml_r32 _
theorem ml_ishl (X : ml_X p s m c meth args D cA cc nL own rt) {x y : Int} (d : decode cc pc = .ok (.ishl, 1)) (k : ml_V p l e R s m args below meth c Q base D cA kc ks rr n σ (F0 m (pc + 1) ls (.int (Int32.ofInt (b_shl x y)) :: rest))) : ml_V p l e R s m args below meth c Q base D cA kc ks rr n σ (F0 m (pc) ls (.int (Int32.ofInt y) :: .int (Int32.ofInt x) :: rest)) := fun H locs h1 h2 h3 h4 => lv_ishl X.1 X.2.1 d (by have := k H locs h1 h2 h3 h4; rwa [b_shl, Int32.ofInt_toInt] at this)
def b_shr (x y : Int) : Int := (Int32.ofInt x >>> (Int32.ofInt y &&& 31)).toInt
theorem b_shr_r (x y : Int) : I32 (b_shr x y) := ml_r32 _
theorem ml_ishr (X : ml_X p s m c meth args D cA cc nL own rt) {x y : Int} (d : decode cc pc = .ok (.ishr, 1)) (k : ml_V p l e R s m args below meth c Q base D cA kc ks rr n σ (F0 m (pc + 1) ls (.int (Int32.ofInt (b_shr x y)) :: rest))) : ml_V p l e R s m args below meth c Q base D cA kc ks rr n σ (F0 m (pc) ls (.int (Int32.ofInt y) :: .int (Int32.ofInt x) :: rest)) := fun H locs h1 h2 h3 h4 => lv_ishr X.1 X.2.1 d (by have := k H locs h1 h2 h3 h4; rwa [b_shr, Int32.ofInt_toInt] at this)
def b_ushr (x y : Int) : Int := ((Int32.ofInt x).toUInt32 >>> ((Int32.ofInt y).toUInt32 &&& Int32.toUInt32 31)).toInt32.toInt
theorem b_ushr_r (x y : Int) : I32 (b_ushr x y) := ml_r32 _
theorem ml_iushr (X : ml_X p s m c meth args D cA cc nL own rt) {x y : Int} (d : decode cc pc = .ok (.iushr, 1)) (k : ml_V p l e R s m args below meth c Q base D cA kc ks rr n σ (F0 m (pc + 1) ls (.int (Int32.ofInt (b_ushr x y)) :: rest))) : ml_V p l e R s m args below meth c Q base D cA kc ks rr n σ (F0 m (pc) ls (.int (Int32.ofInt y) :: .int (Int32.ofInt x) :: rest)) := fun H locs h1 h2 h3 h4 => lv_iushr X.1 X.2.1 d rfl (by have := k H locs h1 h2 h3 h4; rwa [b_ushr, Int32.ofInt_toInt] at this)
def b_land (x y : Int) : Int := (Int64.ofInt x &&& Int64.ofInt y).toInt
theorem b_land_r (x y : Int) : I64 (b_land x y) := ml_r64 _
theorem ml_land (X : ml_X p s m c meth args D cA cc nL own rt) {x y : Int} (d : decode cc pc = .ok (.land, 1)) (k : ml_V p l e R s m args below meth c Q base D cA kc ks rr n σ (F0 m (pc + 1) ls (.long (Int64.ofInt (b_land x y)) :: rest))) : ml_V p l e R s m args below meth c Q base D cA kc ks rr n σ (F0 m (pc) ls (.long (Int64.ofInt y) :: .long (Int64.ofInt x) :: rest)) := fun H locs h1 h2 h3 h4 => lv_land X.1 X.2.1 d (by have := k H locs h1 h2 h3 h4; rwa [b_land, Int64.ofInt_toInt] at this)
def b_lor (x y : Int) : Int := (Int64.ofInt x ||| Int64.ofInt y).toInt
theorem b_lor_r (x y : Int) : I64 (b_lor x y) := ml_r64 _
theorem ml_lor (X : ml_X p s m c meth args D cA cc nL own rt) {x y : Int} (d : decode cc pc = .ok (.lor, 1)) (k : ml_V p l e R s m args below meth c Q base D cA kc ks rr n σ (F0 m (pc + 1) ls (.long (Int64.ofInt (b_lor x y)) :: rest))) : ml_V p l e R s m args below meth c Q base D cA kc ks rr n σ (F0 m (pc) ls (.long (Int64.ofInt y) :: .long (Int64.ofInt x) :: rest)) := fun H locs h1 h2 h3 h4 => lv_lor X.1 X.2.1 d (by have := k H locs h1 h2 h3 h4; rwa [b_lor, Int64.ofInt_toInt] at this)
def b_lshl (x y : Int) : Int := (Int64.ofInt x <<< ((Int32.ofInt y).toInt64 &&& 63)).toInt
theorem b_lshl_r (x y : Int) : I64 (b_lshl x y) := ml_r64 _
theorem ml_lshl (X : ml_X p s m c meth args D cA cc nL own rt) {x y : Int} (d : decode cc pc = .ok (.lshl, 1)) (k : ml_V p l e R s m args below meth c Q base D cA kc ks rr n σ (F0 m (pc + 1) ls (.long (Int64.ofInt (b_lshl x y)) :: rest))) : ml_V p l e R s m args below meth c Q base D cA kc ks rr n σ (F0 m (pc) ls (.int (Int32.ofInt y) :: .long (Int64.ofInt x) :: rest)) := fun H locs h1 h2 h3 h4 => lv_lshl X.1 X.2.1 d rfl (by have := k H locs h1 h2 h3 h4; rwa [b_lshl, Int64.ofInt_toInt] at this)
def b_l2i (x : Int) : Int := (Int64.ofInt x).toInt32.toInt
theorem b_l2i_r (x : Int) : I32 (b_l2i x) := ml_r32 _
theorem ml_l2i (X : ml_X p s m c meth args D cA cc nL own rt) {x : Int} (d : decode cc pc = .ok (.l2i, 1)) (k : ml_V p l e R s m args below meth c Q base D cA kc ks rr n σ (F0 m (pc + 1) ls (.int (Int32.ofInt (b_l2i x)) :: rest))) : ml_V p l e R s m args below meth c Q base D cA kc ks rr n σ (F0 m (pc) ls (.long (Int64.ofInt x) :: rest)) := fun H locs h1 h2 h3 h4 => lv_l2i X.1 X.2.1 d rfl (by have := k H locs h1 h2 h3 h4; rwa [b_l2i, Int32.ofInt_toInt] at this)
def b_i2b (x : Int) : Int := (Int32.ofInt x).toInt8.toInt
theorem b_i2b_r (x : Int) : ml_I8 (b_i2b x) := ⟨Int8.le_toInt _, by have := Int8.toInt_lt (Int32.ofInt x).toInt8; unfold b_i2b; omega⟩
theorem b_i2b_e (x : Int) : (Int32.ofInt x).toInt8.toInt32 = Int32.ofInt (b_i2b x) := by
  apply Int32.toInt_inj.mp
  rw [ml_32 (b_i2b_r x).i, Int8.toInt_toInt32]
  rfl
theorem ml_nb {v : Int} (h : ml_I8 v) : vp_nar .byte (Int32.ofInt v) = Int32.ofInt v := by
  rw [vp_nar_byte, b_i2b_e]
  congr 1
  unfold b_i2b
  rw [Int32.toInt_toInt8, ml_32 h.i]
  have h1 := h.1
  have h2 := h.2
  rw [Int.bmod_def]
  omega
theorem ml_nz {v : Int} (h : ml_B v) : vp_nar .boolean (Int32.ofInt v) = Int32.ofInt v := by
  have h1 := h.1
  have h2 := h.2
  rcases (show v = 0 ∨ v = 1 by omega) with rfl | rfl
  · decide +kernel
  · decide +kernel
theorem ml_i2b (X : ml_X p s m c meth args D cA cc nL own rt) {x : Int} (d : decode cc pc = .ok (.i2b, 1)) (k : ml_V p l e R s m args below meth c Q base D cA kc ks rr n σ (F0 m (pc + 1) ls (.int (Int32.ofInt (b_i2b x)) :: rest))) : ml_V p l e R s m args below meth c Q base D cA kc ks rr n σ (F0 m (pc) ls (.int (Int32.ofInt x) :: rest)) := fun H locs h1 h2 h3 h4 => lv_i2b X.1 X.2.1 d (b_i2b_e x) (k H locs h1 h2 h3 h4)
theorem ml_i2l (X : ml_X p s m c meth args D cA cc nL own rt) {x : Int} (hx : I32 x) (d : decode cc pc = .ok (.i2l, 1)) (k : ml_V p l e R s m args below meth c Q base D cA kc ks rr n σ (F0 m (pc + 1) ls (.long (Int64.ofInt x) :: rest))) : ml_V p l e R s m args below meth c Q base D cA kc ks rr n σ (F0 m (pc) ls (.int (Int32.ofInt x) :: rest)) := fun H locs h1 h2 h3 h4 => lv_i2l X.1 X.2.1 d (Int64.toInt_inj.mp (by rw [Int32.toInt_toInt64, ml_32 hx, ml_64 hx.l])) (k H locs h1 h2 h3 h4)
theorem ml_ne {x y : Int} (hx : I32 x) (hy : I32 y) : (¬ Int32.ofInt x = Int32.ofInt y) ↔ x ≠ y := not_congr (ml_eq hx hy)
theorem ml_icmp_eq (X : ml_X p s m c meth args D cA cc nL own rt) {x y : Int} (hx : I32 x) (hy : I32 y) {off : Int} {tgt : Nat} (d : decode cc pc = .ok (.if_icmp .eq off, 3)) (ht : (pc : Int) + off = (tgt : Int)) (kt : x = y → ml_V p l e R s m args below meth c Q base D cA kc ks rr n σ (F0 m (tgt) ls (rest))) (kf : ¬ (x = y) → ml_V p l e R s m args below meth c Q base D cA kc ks rr n σ (F0 m (pc + 3) ls (rest))) : ml_V p l e R s m args below meth c Q base D cA kc ks rr n σ (F0 m (pc) ls (.int (Int32.ofInt y) :: .int (Int32.ofInt x) :: rest)) := fun H locs h1 h2 h3 h4 => lv_icmp_eq X.1 X.2.1 d ht (fun q => kt ((ml_eq hx hy).mp q) H locs h1 h2 h3 h4) (fun q => kf (fun z => q ((ml_eq hx hy).mpr z)) H locs h1 h2 h3 h4)
theorem ml_if_eq (X : ml_X p s m c meth args D cA cc nL own rt) {x : Int} (hx : I32 x) {off : Int} {tgt : Nat} (d : decode cc pc = .ok (.ifCond .eq off, 3)) (ht : (pc : Int) + off = (tgt : Int)) (kt : x = 0 → ml_V p l e R s m args below meth c Q base D cA kc ks rr n σ (F0 m (tgt) ls (rest))) (kf : ¬ (x = 0) → ml_V p l e R s m args below meth c Q base D cA kc ks rr n σ (F0 m (pc + 3) ls (rest))) : ml_V p l e R s m args below meth c Q base D cA kc ks rr n σ (F0 m (pc) ls (.int (Int32.ofInt x) :: rest)) := fun H locs h1 h2 h3 h4 => lv_if_eq X.1 X.2.1 d ht (fun q => kt ((ml_eq hx ml_i0).mp q) H locs h1 h2 h3 h4) (fun q => kf (fun z => q ((ml_eq hx ml_i0).mpr z)) H locs h1 h2 h3 h4)
theorem ml_icmp_ne (X : ml_X p s m c meth args D cA cc nL own rt) {x y : Int} (hx : I32 x) (hy : I32 y) {off : Int} {tgt : Nat} (d : decode cc pc = .ok (.if_icmp .ne off, 3)) (ht : (pc : Int) + off = (tgt : Int)) (kt : x ≠ y → ml_V p l e R s m args below meth c Q base D cA kc ks rr n σ (F0 m (tgt) ls (rest))) (kf : x = y → ml_V p l e R s m args below meth c Q base D cA kc ks rr n σ (F0 m (pc + 3) ls (rest))) : ml_V p l e R s m args below meth c Q base D cA kc ks rr n σ (F0 m (pc) ls (.int (Int32.ofInt y) :: .int (Int32.ofInt x) :: rest)) := fun H locs h1 h2 h3 h4 => lv_icmp_ne X.1 X.2.1 d ht (fun q => kt ((ml_ne hx hy).mp q) H locs h1 h2 h3 h4) (fun q => kf ((ml_eq hx hy).mp q) H locs h1 h2 h3 h4)
theorem ml_if_ne (X : ml_X p s m c meth args D cA cc nL own rt) {x : Int} (hx : I32 x) {off : Int} {tgt : Nat} (d : decode cc pc = .ok (.ifCond .ne off, 3)) (ht : (pc : Int) + off = (tgt : Int)) (kt : x ≠ 0 → ml_V p l e R s m args below meth c Q base D cA kc ks rr n σ (F0 m (tgt) ls (rest))) (kf : x = 0 → ml_V p l e R s m args below meth c Q base D cA kc ks rr n σ (F0 m (pc + 3) ls (rest))) : ml_V p l e R s m args below meth c Q base D cA kc ks rr n σ (F0 m (pc) ls (.int (Int32.ofInt x) :: rest)) := fun H locs h1 h2 h3 h4 => lv_if_ne X.1 X.2.1 d ht (fun q => kt ((ml_ne hx ml_i0).mp q) H locs h1 h2 h3 h4) (fun q => kf ((ml_eq hx ml_i0).mp q) H locs h1 h2 h3 h4)
theorem ml_icmp_lt (X : ml_X p s m c meth args D cA cc nL own rt) {x y : Int} (hx : I32 x) (hy : I32 y) {off : Int} {tgt : Nat} (d : decode cc pc = .ok (.if_icmp .lt off, 3)) (ht : (pc : Int) + off = (tgt : Int)) (kt : x < y → ml_V p l e R s m args below meth c Q base D cA kc ks rr n σ (F0 m (tgt) ls (rest))) (kf : ¬ (x < y) → ml_V p l e R s m args below meth c Q base D cA kc ks rr n σ (F0 m (pc + 3) ls (rest))) : ml_V p l e R s m args below meth c Q base D cA kc ks rr n σ (F0 m (pc) ls (.int (Int32.ofInt y) :: .int (Int32.ofInt x) :: rest)) := fun H locs h1 h2 h3 h4 => lv_icmp_lt X.1 X.2.1 d ht (fun q => kt ((ml_lt hx hy).mp q) H locs h1 h2 h3 h4) (fun q => kf (fun z => q ((ml_lt hx hy).mpr z)) H locs h1 h2 h3 h4)
theorem ml_if_lt (X : ml_X p s m c meth args D cA cc nL own rt) {x : Int} (hx : I32 x) {off : Int} {tgt : Nat} (d : decode cc pc = .ok (.ifCond .lt off, 3)) (ht : (pc : Int) + off = (tgt : Int)) (kt : x < 0 → ml_V p l e R s m args below meth c Q base D cA kc ks rr n σ (F0 m (tgt) ls (rest))) (kf : ¬ (x < 0) → ml_V p l e R s m args below meth c Q base D cA kc ks rr n σ (F0 m (pc + 3) ls (rest))) : ml_V p l e R s m args below meth c Q base D cA kc ks rr n σ (F0 m (pc) ls (.int (Int32.ofInt x) :: rest)) := fun H locs h1 h2 h3 h4 => lv_if_lt X.1 X.2.1 d ht (fun q => kt ((ml_lt hx ml_i0).mp q) H locs h1 h2 h3 h4) (fun q => kf (fun z => q ((ml_lt hx ml_i0).mpr z)) H locs h1 h2 h3 h4)
theorem ml_icmp_ge (X : ml_X p s m c meth args D cA cc nL own rt) {x y : Int} (hx : I32 x) (hy : I32 y) {off : Int} {tgt : Nat} (d : decode cc pc = .ok (.if_icmp .ge off, 3)) (ht : (pc : Int) + off = (tgt : Int)) (kt : y ≤ x → ml_V p l e R s m args below meth c Q base D cA kc ks rr n σ (F0 m (tgt) ls (rest))) (kf : ¬ (y ≤ x) → ml_V p l e R s m args below meth c Q base D cA kc ks rr n σ (F0 m (pc + 3) ls (rest))) : ml_V p l e R s m args below meth c Q base D cA kc ks rr n σ (F0 m (pc) ls (.int (Int32.ofInt y) :: .int (Int32.ofInt x) :: rest)) := fun H locs h1 h2 h3 h4 => lv_icmp_ge X.1 X.2.1 d ht (fun q => kt ((ml_le hy hx).mp q) H locs h1 h2 h3 h4) (fun q => kf (fun z => q ((ml_le hy hx).mpr z)) H locs h1 h2 h3 h4)
theorem ml_if_ge (X : ml_X p s m c meth args D cA cc nL own rt) {x : Int} (hx : I32 x) {off : Int} {tgt : Nat} (d : decode cc pc = .ok (.ifCond .ge off, 3)) (ht : (pc : Int) + off = (tgt : Int)) (kt : 0 ≤ x → ml_V p l e R s m args below meth c Q base D cA kc ks rr n σ (F0 m (tgt) ls (rest))) (kf : ¬ (0 ≤ x) → ml_V p l e R s m args below meth c Q base D cA kc ks rr n σ (F0 m (pc + 3) ls (rest))) : ml_V p l e R s m args below meth c Q base D cA kc ks rr n σ (F0 m (pc) ls (.int (Int32.ofInt x) :: rest)) := fun H locs h1 h2 h3 h4 => lv_if_ge X.1 X.2.1 d ht (fun q => kt ((ml_le ml_i0 hx).mp q) H locs h1 h2 h3 h4) (fun q => kf (fun z => q ((ml_le ml_i0 hx).mpr z)) H locs h1 h2 h3 h4)
theorem ml_icmp_gt (X : ml_X p s m c meth args D cA cc nL own rt) {x y : Int} (hx : I32 x) (hy : I32 y) {off : Int} {tgt : Nat} (d : decode cc pc = .ok (.if_icmp .gt off, 3)) (ht : (pc : Int) + off = (tgt : Int)) (kt : y < x → ml_V p l e R s m args below meth c Q base D cA kc ks rr n σ (F0 m (tgt) ls (rest))) (kf : ¬ (y < x) → ml_V p l e R s m args below meth c Q base D cA kc ks rr n σ (F0 m (pc + 3) ls (rest))) : ml_V p l e R s m args below meth c Q base D cA kc ks rr n σ (F0 m (pc) ls (.int (Int32.ofInt y) :: .int (Int32.ofInt x) :: rest)) := fun H locs h1 h2 h3 h4 => lv_icmp_gt X.1 X.2.1 d ht (fun q => kt ((ml_lt hy hx).mp q) H locs h1 h2 h3 h4) (fun q => kf (fun z => q ((ml_lt hy hx).mpr z)) H locs h1 h2 h3 h4)
theorem ml_if_gt (X : ml_X p s m c meth args D cA cc nL own rt) {x : Int} (hx : I32 x) {off : Int} {tgt : Nat} (d : decode cc pc = .ok (.ifCond .gt off, 3)) (ht : (pc : Int) + off = (tgt : Int)) (kt : 0 < x → ml_V p l e R s m args below meth c Q base D cA kc ks rr n σ (F0 m (tgt) ls (rest))) (kf : ¬ (0 < x) → ml_V p l e R s m args below meth c Q base D cA kc ks rr n σ (F0 m (pc + 3) ls (rest))) : ml_V p l e R s m args below meth c Q base D cA kc ks rr n σ (F0 m (pc) ls (.int (Int32.ofInt x) :: rest)) := fun H locs h1 h2 h3 h4 => lv_if_gt X.1 X.2.1 d ht (fun q => kt ((ml_lt ml_i0 hx).mp q) H locs h1 h2 h3 h4) (fun q => kf (fun z => q ((ml_lt ml_i0 hx).mpr z)) H locs h1 h2 h3 h4)
theorem ml_icmp_le (X : ml_X p s m c meth args D cA cc nL own rt) {x y : Int} (hx : I32 x) (hy : I32 y) {off : Int} {tgt : Nat} (d : decode cc pc = .ok (.if_icmp .le off, 3)) (ht : (pc : Int) + off = (tgt : Int)) (kt : x ≤ y → ml_V p l e R s m args below meth c Q base D cA kc ks rr n σ (F0 m (tgt) ls (rest))) (kf : ¬ (x ≤ y) → ml_V p l e R s m args below meth c Q base D cA kc ks rr n σ (F0 m (pc + 3) ls (rest))) : ml_V p l e R s m args below meth c Q base D cA kc ks rr n σ (F0 m (pc) ls (.int (Int32.ofInt y) :: .int (Int32.ofInt x) :: rest)) := fun H locs h1 h2 h3 h4 => lv_icmp_le X.1 X.2.1 d ht (fun q => kt ((ml_le hx hy).mp q) H locs h1 h2 h3 h4) (fun q => kf (fun z => q ((ml_le hx hy).mpr z)) H locs h1 h2 h3 h4)
theorem ml_if_le (X : ml_X p s m c meth args D cA cc nL own rt) {x : Int} (hx : I32 x) {off : Int} {tgt : Nat} (d : decode cc pc = .ok (.ifCond .le off, 3)) (ht : (pc : Int) + off = (tgt : Int)) (kt : x ≤ 0 → ml_V p l e R s m args below meth c Q base D cA kc ks rr n σ (F0 m (tgt) ls (rest))) (kf : ¬ (x ≤ 0) → ml_V p l e R s m args below meth c Q base D cA kc ks rr n σ (F0 m (pc + 3) ls (rest))) : ml_V p l e R s m args below meth c Q base D cA kc ks rr n σ (F0 m (pc) ls (.int (Int32.ofInt x) :: rest)) := fun H locs h1 h2 h3 h4 => lv_if_le X.1 X.2.1 d ht (fun q => kt ((ml_le hx ml_i0).mp q) H locs h1 h2 h3 h4) (fun q => kf (fun z => q ((ml_le hx ml_i0).mpr z)) H locs h1 h2 h3 h4)
def l_cmp (x y : Int) : Int := if x < y then -1 else if x = y then 0 else 1
theorem l_cmp_r (x y : Int) : I32 (l_cmp x y) := by unfold l_cmp; split; · exact ⟨by decide, by decide⟩
                                                    · split <;> exact ⟨by decide, by decide⟩
theorem l_cmp_eq {x y : Int} : l_cmp x y = 0 ↔ x = y := by unfold l_cmp; split <;> (try split) <;> omega
theorem l_cmp_ne {x y : Int} : l_cmp x y ≠ 0 ↔ x ≠ y := not_congr l_cmp_eq
theorem l_cmp_lt {x y : Int} : l_cmp x y < 0 ↔ x < y := by unfold l_cmp; split <;> (try split) <;> omega
theorem l_cmp_ge {x y : Int} : 0 ≤ l_cmp x y ↔ y ≤ x := by unfold l_cmp; split <;> (try split) <;> omega
theorem l_cmp_gt {x y : Int} : 0 < l_cmp x y ↔ y < x := by unfold l_cmp; split <;> (try split) <;> omega
theorem l_cmp_le {x y : Int} : l_cmp x y ≤ 0 ↔ x ≤ y := by unfold l_cmp; split <;> (try split) <;> omega
theorem l_cmp_e {x y : Int} (hx : I64 x) (hy : I64 y) : lg_cmp (Int64.ofInt x) (Int64.ofInt y) = Int32.ofInt (l_cmp x y) := by
  unfold lg_cmp l_cmp
  have e1 := ml_llt hx hy
  have e2 := ml_leq hx hy
  have e3 := ml_llt hy hx
  rcases Int.lt_trichotomy x y with h | h | h
  · have h3 : ¬ Int64.ofInt y < Int64.ofInt x := fun q => by have := e3.mp q; omega
    have h4 : ¬ Int64.ofInt x = Int64.ofInt y := fun q => by have := e2.mp q; omega
    rw [if_neg h3, if_neg h4, if_pos h]; rfl
  · subst h
    have h3 : ¬ Int64.ofInt x < Int64.ofInt x := fun q => by have := e3.mp q; omega
    rw [if_neg h3, if_pos rfl, if_neg (by omega), if_pos rfl]; rfl
  · rw [if_pos (e3.mpr h), if_neg (by omega), if_neg (by omega)]; rfl
theorem ml_lcmp_eq (X : ml_X p s m c meth args D cA cc nL own rt) {x y : Int} (hx : I64 x) (hy : I64 y) {off : Int} {tgt : Nat} (d : decode cc pc = .ok (.lcmp, 1)) (d2 : decode cc (pc + 1) = .ok (.ifCond .eq off, 3)) (ht : ((pc + 1 : Nat) : Int) + off = (tgt : Int)) (kt : x = y → ml_V p l e R s m args below meth c Q base D cA kc ks rr n σ (F0 m (tgt) ls (rest))) (kf : ¬ (x = y) → ml_V p l e R s m args below meth c Q base D cA kc ks rr n σ (F0 m (pc + 1 + 3) ls (rest))) : ml_V p l e R s m args below meth c Q base D cA kc ks rr n σ (F0 m (pc) ls (.long (Int64.ofInt y) :: .long (Int64.ofInt x) :: rest)) := fun H locs h1 h2 h3 h4 => W.lcmp X.1 X.2.1 d (by rw [l_cmp_e hx hy]; exact ml_if_eq X (l_cmp_r x y) d2 ht (fun q => kt (l_cmp_eq.mp q)) (fun q => kf (fun z => q (l_cmp_eq.mpr z))) H locs h1 h2 h3 h4)
theorem ml_lcmp_ne (X : ml_X p s m c meth args D cA cc nL own rt) {x y : Int} (hx : I64 x) (hy : I64 y) {off : Int} {tgt : Nat} (d : decode cc pc = .ok (.lcmp, 1)) (d2 : decode cc (pc + 1) = .ok (.ifCond .ne off, 3)) (ht : ((pc + 1 : Nat) : Int) + off = (tgt : Int)) (kt : x ≠ y → ml_V p l e R s m args below meth c Q base D cA kc ks rr n σ (F0 m (tgt) ls (rest))) (kf : x = y → ml_V p l e R s m args below meth c Q base D cA kc ks rr n σ (F0 m (pc + 1 + 3) ls (rest))) : ml_V p l e R s m args below meth c Q base D cA kc ks rr n σ (F0 m (pc) ls (.long (Int64.ofInt y) :: .long (Int64.ofInt x) :: rest)) := fun H locs h1 h2 h3 h4 => W.lcmp X.1 X.2.1 d (by rw [l_cmp_e hx hy]; exact ml_if_ne X (l_cmp_r x y) d2 ht (fun q => kt (l_cmp_ne.mp q)) (fun q => kf (l_cmp_eq.mp q)) H locs h1 h2 h3 h4)
theorem ml_lcmp_lt (X : ml_X p s m c meth args D cA cc nL own rt) {x y : Int} (hx : I64 x) (hy : I64 y) {off : Int} {tgt : Nat} (d : decode cc pc = .ok (.lcmp, 1)) (d2 : decode cc (pc + 1) = .ok (.ifCond .lt off, 3)) (ht : ((pc + 1 : Nat) : Int) + off = (tgt : Int)) (kt : x < y → ml_V p l e R s m args below meth c Q base D cA kc ks rr n σ (F0 m (tgt) ls (rest))) (kf : ¬ (x < y) → ml_V p l e R s m args below meth c Q base D cA kc ks rr n σ (F0 m (pc + 1 + 3) ls (rest))) : ml_V p l e R s m args below meth c Q base D cA kc ks rr n σ (F0 m (pc) ls (.long (Int64.ofInt y) :: .long (Int64.ofInt x) :: rest)) := fun H locs h1 h2 h3 h4 => W.lcmp X.1 X.2.1 d (by rw [l_cmp_e hx hy]; exact ml_if_lt X (l_cmp_r x y) d2 ht (fun q => kt (l_cmp_lt.mp q)) (fun q => kf (fun z => q (l_cmp_lt.mpr z))) H locs h1 h2 h3 h4)
theorem ml_lcmp_ge (X : ml_X p s m c meth args D cA cc nL own rt) {x y : Int} (hx : I64 x) (hy : I64 y) {off : Int} {tgt : Nat} (d : decode cc pc = .ok (.lcmp, 1)) (d2 : decode cc (pc + 1) = .ok (.ifCond .ge off, 3)) (ht : ((pc + 1 : Nat) : Int) + off = (tgt : Int)) (kt : y ≤ x → ml_V p l e R s m args below meth c Q base D cA kc ks rr n σ (F0 m (tgt) ls (rest))) (kf : ¬ (y ≤ x) → ml_V p l e R s m args below meth c Q base D cA kc ks rr n σ (F0 m (pc + 1 + 3) ls (rest))) : ml_V p l e R s m args below meth c Q base D cA kc ks rr n σ (F0 m (pc) ls (.long (Int64.ofInt y) :: .long (Int64.ofInt x) :: rest)) := fun H locs h1 h2 h3 h4 => W.lcmp X.1 X.2.1 d (by rw [l_cmp_e hx hy]; exact ml_if_ge X (l_cmp_r x y) d2 ht (fun q => kt (l_cmp_ge.mp q)) (fun q => kf (fun z => q (l_cmp_ge.mpr z))) H locs h1 h2 h3 h4)
theorem ml_lcmp_gt (X : ml_X p s m c meth args D cA cc nL own rt) {x y : Int} (hx : I64 x) (hy : I64 y) {off : Int} {tgt : Nat} (d : decode cc pc = .ok (.lcmp, 1)) (d2 : decode cc (pc + 1) = .ok (.ifCond .gt off, 3)) (ht : ((pc + 1 : Nat) : Int) + off = (tgt : Int)) (kt : y < x → ml_V p l e R s m args below meth c Q base D cA kc ks rr n σ (F0 m (tgt) ls (rest))) (kf : ¬ (y < x) → ml_V p l e R s m args below meth c Q base D cA kc ks rr n σ (F0 m (pc + 1 + 3) ls (rest))) : ml_V p l e R s m args below meth c Q base D cA kc ks rr n σ (F0 m (pc) ls (.long (Int64.ofInt y) :: .long (Int64.ofInt x) :: rest)) := fun H locs h1 h2 h3 h4 => W.lcmp X.1 X.2.1 d (by rw [l_cmp_e hx hy]; exact ml_if_gt X (l_cmp_r x y) d2 ht (fun q => kt (l_cmp_gt.mp q)) (fun q => kf (fun z => q (l_cmp_gt.mpr z))) H locs h1 h2 h3 h4)
theorem ml_lcmp_le (X : ml_X p s m c meth args D cA cc nL own rt) {x y : Int} (hx : I64 x) (hy : I64 y) {off : Int} {tgt : Nat} (d : decode cc pc = .ok (.lcmp, 1)) (d2 : decode cc (pc + 1) = .ok (.ifCond .le off, 3)) (ht : ((pc + 1 : Nat) : Int) + off = (tgt : Int)) (kt : x ≤ y → ml_V p l e R s m args below meth c Q base D cA kc ks rr n σ (F0 m (tgt) ls (rest))) (kf : ¬ (x ≤ y) → ml_V p l e R s m args below meth c Q base D cA kc ks rr n σ (F0 m (pc + 1 + 3) ls (rest))) : ml_V p l e R s m args below meth c Q base D cA kc ks rr n σ (F0 m (pc) ls (.long (Int64.ofInt y) :: .long (Int64.ofInt x) :: rest)) := fun H locs h1 h2 h3 h4 => W.lcmp X.1 X.2.1 d (by rw [l_cmp_e hx hy]; exact ml_if_le X (l_cmp_r x y) d2 ht (fun q => kt (l_cmp_le.mp q)) (fun q => kf (fun z => q (l_cmp_le.mpr z))) H locs h1 h2 h3 h4)
theorem ml_tIn (X : ml_X p s m c meth args D cA cc nL own rt) {x v : Int} (hx : x = v) {dflt lo hi off : Int} {offs : Array Int} {len tgt : Nat} (d : decode cc pc = .ok (.tableswitch dflt lo hi offs, len)) (hl : ¬ (Int32.ofInt v).toInt < lo) (hh : ¬ hi < (Int32.ofInt v).toInt) (ho : offs[((Int32.ofInt v).toInt - lo).toNat]? = some off) (ht : (pc : Int) + off = (tgt : Int)) (k : ml_V p l e R s m args below meth c Q base D cA kc ks rr n σ (F0 m (tgt) ls (rest))) : ml_V p l e R s m args below meth c Q base D cA kc ks rr n σ (F0 m (pc) ls (.int (Int32.ofInt x) :: rest)) := by
  subst hx
  exact fun H locs h1 h2 h3 h4 => lv_tableIn X.1 X.2.1 d hl hh ho ht (k H locs h1 h2 h3 h4)
theorem ml_tOut (X : ml_X p s m c meth args D cA cc nL own rt) {x : Int} (hx : I32 x) {dflt lo hi : Int} {offs : Array Int} {len tgt : Nat} (d : decode cc pc = .ok (.tableswitch dflt lo hi offs, len)) (ho : x < lo ∨ hi < x) (ht : (pc : Int) + dflt = (tgt : Int)) (k : ml_V p l e R s m args below meth c Q base D cA kc ks rr n σ (F0 m (tgt) ls (rest))) : ml_V p l e R s m args below meth c Q base D cA kc ks rr n σ (F0 m (pc) ls (.int (Int32.ofInt x) :: rest)) :=
  fun H locs h1 h2 h3 h4 => lv_tableOut X.1 X.2.1 d (by rw [ml_32 hx]; exact ho) ht (k H locs h1 h2 h3 h4)
theorem ml_iald (X : ml_X p s m c meth args D cA cc nL own rt) {k i : Int} {N : Nat} (hk : ml_at n k (1, N)) (hi : 0 ≤ i) (hN : i < N) (d : decode cc pc = .ok (.iaload, 1)) (kk : I32 (σ k i) → ml_V p l e R s m args below meth c Q base D cA kc ks rr n σ (F0 m (pc + 1) ls (.int (Int32.ofInt (σ k i)) :: rest))) : ml_V p l e R s m args below meth c Q base D cA kc ks rr n σ (F0 m (pc) ls (.int (Int32.ofInt i) :: .ref (base + k.toNat) :: rest)) := by
  intro H locs h1 h2 h3 h4
  have hr : I32 (σ k i) := by
    have := h3 k i hk.1 hk.2.1 hi
    unfold ml_et at this
    rw [hk.2.2] at this
    exact this
  have hg := ml_cells_get (base := base) (cA := cA) (σ := σ) hk
  have hl := ml_len hk
  refine va_iald X.1 X.2.1 X.2.2.2.2.2.1 h1 (k.toNat - 1) 1 hg rfl (ml_vin hi hN hl) d ?_
  rw [ml_cl hi (by have : N ≤ 100000 := hl; omega), Int.toNat_of_nonneg hi]
  exact kk hr H locs h1 h2 h3 h4
theorem ml_bald (X : ml_X p s m c meth args D cA cc nL own rt) {k i : Int} {N : Nat} (hk : ml_at n k (2, N)) (hi : 0 ≤ i) (hN : i < N) (d : decode cc pc = .ok (.baload, 1)) (kk : ml_I8 (σ k i) → ml_V p l e R s m args below meth c Q base D cA kc ks rr n σ (F0 m (pc + 1) ls (.int (Int32.ofInt (σ k i)) :: rest))) : ml_V p l e R s m args below meth c Q base D cA kc ks rr n σ (F0 m (pc) ls (.int (Int32.ofInt i) :: .ref (base + k.toNat) :: rest)) := by
  intro H locs h1 h2 h3 h4
  have hr : ml_I8 (σ k i) := by
    have := h3 k i hk.1 hk.2.1 hi
    unfold ml_et at this
    rw [hk.2.2] at this
    exact this
  have hg := ml_cells_get (base := base) (cA := cA) (σ := σ) hk
  have hl := ml_len hk
  refine va_bald X.1 X.2.1 X.2.2.2.2.2.1 h1 (k.toNat - 1) 2 hg rfl (ml_vin hi hN hl) d ?_
  rw [ml_cl hi (by have : N ≤ 100000 := hl; omega), Int.toNat_of_nonneg hi]
  exact kk hr H locs h1 h2 h3 h4
theorem ml_zald (X : ml_X p s m c meth args D cA cc nL own rt) {k i : Int} {N : Nat} (hk : ml_at n k (3, N)) (hi : 0 ≤ i) (hN : i < N) (d : decode cc pc = .ok (.baload, 1)) (kk : ml_B (σ k i) → ml_V p l e R s m args below meth c Q base D cA kc ks rr n σ (F0 m (pc + 1) ls (.int (Int32.ofInt (σ k i)) :: rest))) : ml_V p l e R s m args below meth c Q base D cA kc ks rr n σ (F0 m (pc) ls (.int (Int32.ofInt i) :: .ref (base + k.toNat) :: rest)) := by
  intro H locs h1 h2 h3 h4
  have hr : ml_B (σ k i) := by
    have := h3 k i hk.1 hk.2.1 hi
    unfold ml_et at this
    rw [hk.2.2] at this
    exact this
  have hg := ml_cells_get (base := base) (cA := cA) (σ := σ) hk
  have hl := ml_len hk
  refine va_zald X.1 X.2.1 X.2.2.2.2.2.1 h1 (k.toNat - 1) 3 hg rfl (ml_vin hi hN hl) d ?_
  rw [ml_cl hi (by have : N ≤ 100000 := hl; omega), Int.toNat_of_nonneg hi]
  exact kk hr H locs h1 h2 h3 h4
theorem ml_lald (X : ml_X p s m c meth args D cA cc nL own rt) {k i : Int} {N : Nat} (hk : ml_at n k (4, N)) (hi : 0 ≤ i) (hN : i < N) (d : decode cc pc = .ok (.laload, 1)) (kk : I64 (σ k i) → ml_V p l e R s m args below meth c Q base D cA kc ks rr n σ (F0 m (pc + 1) ls (.long (Int64.ofInt (σ k i)) :: rest))) : ml_V p l e R s m args below meth c Q base D cA kc ks rr n σ (F0 m (pc) ls (.int (Int32.ofInt i) :: .ref (base + k.toNat) :: rest)) := by
  intro H locs h1 h2 h3 h4
  have hr : I64 (σ k i) := by
    have := h3 k i hk.1 hk.2.1 hi
    unfold ml_et at this
    rw [hk.2.2] at this
    exact this
  have hg := ml_cells_get (base := base) (cA := cA) (σ := σ) hk
  have hl := ml_len hk
  refine va_lald X.1 X.2.1 X.2.2.2.2.2.1 h1 (k.toNat - 1) 4 hg rfl (ml_vin hi hN hl) d ?_
  rw [ml_cl hi (by have : N ≤ 100000 := hl; omega), Int.toNat_of_nonneg hi]
  exact kk hr H locs h1 h2 h3 h4
theorem ml_arr_setX {N : Nat} {k i v : Int} (hk : ml_at n k (1, N)) (hi : 0 ≤ i) : (fun j : Nat => Int32.ofInt (ml_up σ k i v k j)) = upd (fun j : Nat => Int32.ofInt (σ k j)) i.toNat (Int32.ofInt v) := by
  funext j
  unfold upd ml_up
  by_cases h : j = i.toNat
  · subst h; simp [Int.toNat_of_nonneg hi]
  · have : ¬ (j : Int) = i := by omega
    simp [h, this]
theorem ml_arr_set' {k i v : Int} (hi : 0 ≤ i) : (fun j : Nat => Int32.ofInt (ml_up σ k i v k j)) = upd (fun j : Nat => Int32.ofInt (σ k j)) i.toNat (Int32.ofInt v) := by
  funext j
  unfold upd ml_up
  by_cases h : j = i.toNat
  · subst h; simp [Int.toNat_of_nonneg hi]
  · have : ¬ (j : Int) = i := by omega
    simp [h, this]
theorem ml_arr_setL {k i v : Int} (hi : 0 ≤ i) : (fun j : Nat => Int64.ofInt (ml_up σ k i v k j)) = vp_updL (fun j : Nat => Int64.ofInt (σ k j)) i.toNat (Int64.ofInt v) := by
  funext j
  unfold vp_updL ml_up
  by_cases h : j = i.toNat
  · subst h; simp [Int.toNat_of_nonneg hi]
  · have : ¬ (j : Int) = i := by omega
    simp [h, this]
theorem ml_rof_arr {k i : Int} {t N : Nat} (hk : ml_at n k (t, N)) (ht : t < 5) : ml_rof k i = 0 := by
  unfold ml_rof
  rw [show ml_layT k = (t, N) from hk.2.2]
  match t, ht with
  | 0, _ => rfl
  | 1, _ => rfl
  | 2, _ => rfl
  | 3, _ => rfl
  | 4, _ => rfl
theorem ml_iast (X : ml_X p s m c meth args D cA cc nL own rt) {k i v : Int} {N : Nat} (hk : ml_at n k (1, N)) (hi : 0 ≤ i) (hN : i < N) (hv : I32 v) (d : decode cc pc = .ok (.iastore, 1)) (kk : ∀ σ' : ml_St, σ' = ml_up σ k i v → ml_V p l e R s m args below meth c Q base D cA kc ks rr n σ' (F0 m (pc + 1) ls (rest))) : ml_V p l e R s m args below meth c Q base D cA kc ks rr n σ (F0 m (pc) ls (.int (Int32.ofInt v) :: .int (Int32.ofInt i) :: .ref (base + k.toNat) :: rest)) := by
  intro H locs h1 h2 h3 h4
  have hg := ml_cells_get (base := base) (cA := cA) (σ := σ) hk
  have hl := ml_len hk
  refine va_iast X.1 X.2.1 X.2.2.2.2.2.1 h1 (ml_cells_D base cA n σ) h2 (k.toNat - 1) 1 hg rfl (ml_vin hi hN hl) d (fun H1 locs1 g1 _ g3 => ?_)
  rw [ml_cl hi (by have : N ≤ 100000 := hl; omega)] at g1
  skip
  refine kk _ rfl H1 locs1 ?_ g3 (ml_ok_up h3 (by unfold ml_et; rw [hk.2.2]; exact hv)) (ml_RO_up h4 (ml_rof_arr hk (by decide)))
  rw [ml_cells_set (kd := (1, N)) (σ' := ml_up σ k i v) hk (by show _ = Sum.inl _; simp only [ml_arr_set' hi]) (fun a ha => ml_up_k ha)] at g1
  exact g1
theorem ml_bast (X : ml_X p s m c meth args D cA cc nL own rt) {k i v : Int} {N : Nat} (hk : ml_at n k (2, N)) (hi : 0 ≤ i) (hN : i < N) (hv : ml_I8 v) (d : decode cc pc = .ok (.bastore, 1)) (kk : ∀ σ' : ml_St, σ' = ml_up σ k i v → ml_V p l e R s m args below meth c Q base D cA kc ks rr n σ' (F0 m (pc + 1) ls (rest))) : ml_V p l e R s m args below meth c Q base D cA kc ks rr n σ (F0 m (pc) ls (.int (Int32.ofInt v) :: .int (Int32.ofInt i) :: .ref (base + k.toNat) :: rest)) := by
  intro H locs h1 h2 h3 h4
  have hg := ml_cells_get (base := base) (cA := cA) (σ := σ) hk
  have hl := ml_len hk
  refine va_bast X.1 X.2.1 X.2.2.2.2.2.1 h1 (ml_cells_D base cA n σ) h2 (k.toNat - 1) 2 hg rfl (ml_vin hi hN hl) d (fun H1 locs1 g1 _ g3 => ?_)
  rw [ml_cl hi (by have : N ≤ 100000 := hl; omega)] at g1
  rw [ml_nb hv] at g1
  refine kk _ rfl H1 locs1 ?_ g3 (ml_ok_up h3 (by unfold ml_et; rw [hk.2.2]; exact hv)) (ml_RO_up h4 (ml_rof_arr hk (by decide)))
  rw [ml_cells_set (kd := (2, N)) (σ' := ml_up σ k i v) hk (by show _ = Sum.inl _; simp only [ml_arr_set' hi]) (fun a ha => ml_up_k ha)] at g1
  exact g1
theorem ml_zast (X : ml_X p s m c meth args D cA cc nL own rt) {k i v : Int} {N : Nat} (hk : ml_at n k (3, N)) (hi : 0 ≤ i) (hN : i < N) (hv : ml_B v) (d : decode cc pc = .ok (.bastore, 1)) (kk : ∀ σ' : ml_St, σ' = ml_up σ k i v → ml_V p l e R s m args below meth c Q base D cA kc ks rr n σ' (F0 m (pc + 1) ls (rest))) : ml_V p l e R s m args below meth c Q base D cA kc ks rr n σ (F0 m (pc) ls (.int (Int32.ofInt v) :: .int (Int32.ofInt i) :: .ref (base + k.toNat) :: rest)) := by
  intro H locs h1 h2 h3 h4
  have hg := ml_cells_get (base := base) (cA := cA) (σ := σ) hk
  have hl := ml_len hk
  refine va_zast X.1 X.2.1 X.2.2.2.2.2.1 h1 (ml_cells_D base cA n σ) h2 (k.toNat - 1) 3 hg rfl (ml_vin hi hN hl) d (fun H1 locs1 g1 _ g3 => ?_)
  rw [ml_cl hi (by have : N ≤ 100000 := hl; omega)] at g1
  rw [ml_nz hv] at g1
  refine kk _ rfl H1 locs1 ?_ g3 (ml_ok_up h3 (by unfold ml_et; rw [hk.2.2]; exact hv)) (ml_RO_up h4 (ml_rof_arr hk (by decide)))
  rw [ml_cells_set (kd := (3, N)) (σ' := ml_up σ k i v) hk (by show _ = Sum.inl _; simp only [ml_arr_set' hi]) (fun a ha => ml_up_k ha)] at g1
  exact g1
theorem ml_last (X : ml_X p s m c meth args D cA cc nL own rt) {k i v : Int} {N : Nat} (hk : ml_at n k (4, N)) (hi : 0 ≤ i) (hN : i < N) (hv : I64 v) (d : decode cc pc = .ok (.lastore, 1)) (kk : ∀ σ' : ml_St, σ' = ml_up σ k i v → ml_V p l e R s m args below meth c Q base D cA kc ks rr n σ' (F0 m (pc + 1) ls (rest))) : ml_V p l e R s m args below meth c Q base D cA kc ks rr n σ (F0 m (pc) ls (.long (Int64.ofInt v) :: .int (Int32.ofInt i) :: .ref (base + k.toNat) :: rest)) := by
  intro H locs h1 h2 h3 h4
  have hg := ml_cells_get (base := base) (cA := cA) (σ := σ) hk
  have hl := ml_len hk
  refine va_last X.1 X.2.1 X.2.2.2.2.2.1 h1 (ml_cells_D base cA n σ) h2 (k.toNat - 1) 4 hg rfl (ml_vin hi hN hl) d (fun H1 locs1 g1 _ g3 => ?_)
  rw [ml_cl hi (by have : N ≤ 100000 := hl; omega)] at g1
  skip
  refine kk _ rfl H1 locs1 ?_ g3 (ml_ok_up h3 (by unfold ml_et; rw [hk.2.2]; exact hv)) (ml_RO_up h4 (ml_rof_arr hk (by decide)))
  rw [ml_cells_set (kd := (4, N)) (σ' := ml_up σ k i v) hk (by show _ = Sum.inl _; simp only [ml_arr_setL hi]) (fun a ha => ml_up_k ha)] at g1
  exact g1
end MLV
