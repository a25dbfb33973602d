def ml_NW : List Cond := [(Jvm.Cond.methodLinkNest "MirrorLane" (9 : Nat) ({ cls := "MirrorLane$Tape", name := "<init>", desc := "()V" } : Jvm.MethodName) "MirrorLane"), (Jvm.Cond.methodLinkNest "MirrorLane" (18 : Nat) ({ cls := "MirrorLane$Closing", name := "<init>", desc := "()V" } : Jvm.MethodName) "MirrorLane"), (Jvm.Cond.methodLinkNest "MirrorLane" (25 : Nat) ({ cls := "MirrorLane$Gramma\x72", name := "<init>", desc := "()V" } : Jvm.MethodName) "MirrorLane"), (Jvm.Cond.methodLinkNest "MirrorLane$Loom" (11 : Nat) ({ cls := "MirrorLane$Items", name := "<init>", desc := "()V" } : Jvm.MethodName) "MirrorLane"), (Jvm.Cond.methodLinkNest "MirrorLane$Loom" (28 : Nat) ({ cls := "MirrorLane$Weave", name := "<init>", desc := "()V" } : Jvm.MethodName) "MirrorLane"), (Jvm.Cond.methodLinkNest "MirrorLane" (39 : Nat) ({ cls := "MirrorLane$Powers", name := "<init>", desc := "()V" } : Jvm.MethodName) "MirrorLane"), (Jvm.Cond.methodLinkNest "MirrorLane$Powers" (21 : Nat) ({ cls := "MirrorLane$Weave", name := "<init>", desc := "()V" } : Jvm.MethodName) "MirrorLane"), (Jvm.Cond.methodLinkNest "MirrorLane" (46 : Nat) ({ cls := "MirrorLane$Sentences", name := "<init>", desc := "()V" } : Jvm.MethodName) "MirrorLane"), (Jvm.Cond.methodLinkNest "MirrorLane$Sentences" (52 : Nat) ({ cls := "MirrorLane$Weave", name := "<init>", desc := "()V" } : Jvm.MethodName) "MirrorLane"), (Jvm.Cond.methodLinkNest "MirrorLane" (53 : Nat) ({ cls := "MirrorLane$Finde\x72", name := "<init>", desc := "()V" } : Jvm.MethodName) "MirrorLane"), (Jvm.Cond.methodLinkNest "MirrorLane$Mende\x72" (17 : Nat) ({ cls := "MirrorLane$Weave", name := "<init>", desc := "()V" } : Jvm.MethodName) "MirrorLane"), (Jvm.Cond.methodLinkNest "MirrorLane" (77 : Nat) ({ cls := "MirrorLane$Weave", name := "<init>", desc := "()V" } : Jvm.MethodName) "MirrorLane"), (Jvm.Cond.methodLinkNest "MirrorLane" (89 : Nat) ({ cls := "MirrorLane$Word", name := "<init>", desc := "()V" } : Jvm.MethodName) "MirrorLane"), (Jvm.Cond.methodLinkNest "MirrorLane$Word" (28 : Nat) ({ cls := "MirrorLane$Weave", name := "<init>", desc := "()V" } : Jvm.MethodName) "MirrorLane")]
/-! constructors: cells are made in the order of their ids -/
def ml_PC (base : Nat) (D : va_G) (cA : Nat → ClassId) (n : Nat) (σ : ml_St) (U : State) : Prop := va_P D ml_cls (ml_cells base cA n σ) U.heap ∧ va_K D ml_cls (ml_tys cA) U ∧ ml_ok n σ
def ml_N (U : State) : Prop := (∀ w ∈ ml_NW, va_Nw w U) ∧ va_AO "MirrorLane$Weave" U ∧ va_AO "MirrorLane$Word" U
def ml_UC (base : Nat) (D : va_G) (cA : Nat → ClassId) (n : Nat) (σ : ml_St) (U : State) : Prop := ml_PC base D cA n σ U ∧ U.heap.size = base + 1 + n ∧ ml_N U
def ml_QC (base : Nat) (D : va_G) (cA : Nat → ClassId) (n : Nat) (Q : ml_St → Prop) : Array Value → State → Outcome → State → Prop := va_Qv (fun u : ml_St => Q u) (fun u U => ml_PC base D cA n u U) (ml_A base)
def ml_XC (s : State) (meth : Method) (base n0 : Nat) : Prop := s.heap.size = base + 1 + n0 ∧ meth.name = "<init>" ∧ ml_N s
theorem ml_NWm : ∀ w ∈ ml_NW, ∃ (a : String) (i : Nat) (x : MethodName) (h : String), w = .methodLinkNest a i x h := by
  intro w hw
  unfold ml_NW at hw
  simp only [List.mem_cons, List.not_mem_nil, or_false] at hw
  rcases hw with rfl | rfl | rfl | rfl | rfl | rfl | rfl | rfl | rfl | rfl | rfl | rfl | rfl | rfl <;> exact ⟨_, _, _, _, rfl⟩
theorem ml_N.moved {s U : State} (hW : s.WarmedH U.vm) (h : ml_N s) : ml_N U := ⟨fun w hw => by
  obtain ⟨a, i, x, q, rfl⟩ := ml_NWm w hw
  exact va_Nw.warmM hW (h.1 _ hw), va_AO.moved hW.alike h.2.1, va_AO.moved hW.alike h.2.2⟩
theorem ml_N.same {u U : State} (e : u.vm = U.vm) (h : ml_N u) : ml_N U := ⟨fun w hw => by
  obtain ⟨a, i, x, q, rfl⟩ := ml_NWm w hw
  exact va_Nw.same rfl e (h.1 _ hw), va_AO.moved (e ▸ Vm.Alike.refl u.vm) h.2.1, va_AO.moved (e ▸ Vm.Alike.refl u.vm) h.2.2⟩
theorem ml_UC_blind {base : Nat} {D : va_G} {cA : Nat → ClassId} {n : Nat} {σ : ml_St} {As : List Value} : FrameBlind (va_Pc As (ml_UC base D cA n σ)) := fun a U g mk q => by
  obtain ⟨q0, ⟨qP, qK, q3⟩, q4, q5⟩ := q
  exact ⟨q0, ⟨qP, va_K.moved (u := U) (U := U.calling g mk a) (Vm.Alike.refl U.vm) qK, q3⟩, q4, ml_N.same (u := U) (U := U.calling g mk a) rfl q5⟩
theorem ml_fvA {base : Nat} {t : FieldType} {x : Int} (h : x ≠ 0) : Value.ref (base + x.toNat) = ml_fv base (.array t) x := (if_neg h).symm
theorem ml_fvO {base : Nat} {t : String} {x : Int} (h : x ≠ 0) : Value.ref (base + x.toNat) = ml_fv base (.object t) x := (if_neg h).symm
section MLC
variable {p : Program} {l : Launch} {e : Env} {R : Room} {s : State} {m : MethodId} {args : Array Value} {below : List Frame} {meth : Method} {c : Code} {Q : State → Prop} {base : Nat} {D : va_G} {cA : Nat → ClassId} {kc ks rr n0 n : Nat} {σ : ml_St} {cc : ByteArray} {nL pc : Nat} {own : String} {rt : Option FieldType} {ls : Array Slot} {rest : List Value} {lst : List (Nat × Value)}
theorem ml_up_bound {H : Heap} {locs : List Loc} {g : JFrame} (kk : H.size ≤ s.heap.size + kc → W p l e R s m args below meth c H locs kc ks Q g) : W p l e R s m args below meth c H locs kc ks Q g := fun T hT X => kk (by
  have h := X.same.2.2.1
  have h : T.heap.size ≤ s.heap.size + kc := h
  rw [hT] at h
  exact h) T hT X
theorem ml_low {H : Heap} (h1 : va_P D ml_cls (ml_cells base cA n σ) H) (hn : 1 ≤ n) : base + n < H.size := by
  have h := h1 (n - 1) (base + (n - 1 + 1), ml_cell base cA (ml_lay (((n - 1 : Nat) : Int) + 1)) (σ (((n - 1 : Nat) : Int) + 1))) (by
    have hn1 : n - 1 < n := by omega
    simp [ml_cells, hn1])
  have h := h.lt
  have h : base + (n - 1 + 1) < H.size := h
  omega
/-- what a new cell leaves of the old ones -/
theorem ml_newcore {H H1 : Heap} {locs : List Loc} {q : Nat} {x : va_E} (hsz : H.size = base + 1 + n) (hs0 : s.heap.size ≤ H.size) (h2 : va_S (ml_A base) s.heap H locs) (hb1 : H1.size ≤ H.size + 1) (g1 : va_P D ml_cls (ml_cells base cA n σ ++ [(q, x)]) H1) (g2 : va_D (va_A (ml_cells base cA n σ) H.size) (ml_cells base cA n σ ++ [(q, x)])) (g3 : va_S (va_A (ml_cells base cA n σ) H.size) H H1 locs) : q = base + (n + 1) ∧ va_S (ml_A base) s.heap H1 locs := by
  have hlen : (ml_cells base cA n σ).length = n := by simp [ml_cells]
  have hq : (ml_cells base cA n σ ++ [(q, x)])[n]? = some (q, x) := by rw [List.getElem?_append_right (by omega), hlen]; simp
  have hlt : q < H1.size := (g1 n _ hq).lt
  have hge : H.size ≤ q := by
    rcases g2.2 n _ hq with ⟨k, e, hk⟩ | hk
    · have hkn : k < n := by
        have := (List.getElem?_eq_some_iff.mp hk).1
        omega
      have h3 : (ml_cells base cA n σ ++ [(q, x)])[k]? = some (q, e) := by rw [List.getElem?_append_left (by omega)]; exact hk
      have := g2.1 k n _ _ h3 hq rfl
      omega
    · exact hk
  refine ⟨by omega, by have := g3.1; omega, fun a ha hna => ?_, h2.2.2⟩
  rw [g3.2.1 a (by omega) (fun hA => ?_)]
  · exact h2.2.1 a ha hna
  · rcases hA with ⟨k, e, hk⟩ | hk
    · have := (ml_cells_at hk).2
      have : a = base + (k + 1) := congrArg Prod.fst this
      exact hna (by show base < a; omega)
    · omega
theorem ml_inA {a S : Nat} (ha : ml_A base a) (hsz : S = base + 1 + n) : va_A (ml_cells base cA n σ) S a := by
  have ha : base < a := ha
  by_cases hb : a < S
  · refine Or.inl ⟨a - base - 1, ml_cell base cA (ml_lay (((a - base - 1 : Nat) : Int) + 1)) (σ (((a - base - 1 : Nat) : Int) + 1)), ?_⟩
    have e1 : a - base - 1 < n := by omega
    have e2 : base + (a - base - 1 + 1) = a := by omega
    simp [ml_cells, e1, e2]
  · exact Or.inr (by omega)
theorem ml_ok_push (h3 : ml_ok n σ) (hz : ∀ j : Int, σ ((n : Int) + 1) j = 0) : ml_ok (n + 1) σ := by
  intro k j h1 h2 h4
  by_cases hk : k = (n : Int) + 1
  · subst hk
    rw [hz]
    unfold ml_rg
    split
    · exact ⟨by decide, by decide⟩
    · exact ⟨by decide, by decide⟩
    · exact ⟨by decide, by decide⟩
    · exact ⟨by decide, by decide⟩
    · decide
  · exact h3 k j h1 (by omega) h4
theorem ml_RO0 {σ : ml_St} : ml_RO 0 σ := fun k j h1 h2 => by omega
theorem ml_newO (X : ml_X p s m c meth args D cA cc nL own rt) (hs : s.heap.size = base + 1 + n0) {C : String} {T : u_T} {N ci idx : Nat} (hw : Cond.classLink own idx C ∈ ml_T ∧ Cond.instantiable C N ∈ ml_T ∧ Cond.initialized C ∈ ml_T) (hin : ∀ w ∈ u_ws C T N, w ∈ ml_T) (hc : ml_cls[ci]? = some (C, T, N)) (hci : ci < 13) (hty : ∀ k, k < N → parseFieldDescriptor (T k).2.2.1 = some (ml_ty ci k)) (hdef : ∀ j, j < N → defaultValue (ml_ty ci j) = ml_fv base (ml_ty ci j) 0) (hn1 : n0 + kc = 0 ∨ 1 ≤ n0 + kc) {k : Int} (hk : k = ((n0 + kc : Nat) : Int) + 1) (hlay : ml_lay k = (ci + 10, N)) (hz : ∀ j : Int, σ k j = 0) (hkc : kc + 1 ≤ R.cells ∧ ks + N ≤ R.slots) (d : decode cc pc = .ok (.new idx, 3))
    (kk : ml_V p l e R s m args below meth c Q base D cA (kc + 1) (ks + N) 0 (n0 + (kc + 1)) σ (F0 m (pc + 3) ls (.ref (base + k.toNat) :: rest))) : ml_V p l e R s m args below meth c Q base D cA kc ks 0 (n0 + kc) σ (F0 m pc ls rest) := by
  intro H locs h1 h2 h3 h4
  refine ml_up_bound fun hub => ?_
  have hsz : H.size = base + 1 + (n0 + kc) := by
    have := h2.1
    rcases hn1 with q | q
    · omega
    · have := ml_low h1 q
      omega
  refine va_new (ci := ci) (fs := (List.range N).map fun j => ml_fv base (ml_ty ci j) 0) (A := va_A (ml_cells base cA (n0 + kc) σ) H.size) (H0 := H) X.1 X.2.1 X.2.2.2.2.1 hin (ml_ty ci) hty X.2.2.2.1 (X.2.2.2.2.1 _ hw.1) (X.2.2.2.2.1 _ hw.2.1) (X.2.2.2.2.1 _ hw.2.2) X.2.2.2.2.2.1 h1 (ml_cells_D base cA (n0 + kc) σ).self ⟨Nat.le_refl _, fun _ _ _ => rfl, fun q hq => ?_⟩ (fun q hq => Or.inr hq) hc (fun j hj => ?_) hkc.1 hkc.2 d (fun q H1 g1 g2 g3 => ?_)
  · exact ml_inA (h2.2.2 q hq) hsz
  · unfold vp_V
    rw [List.getD_eq_getElem?_getD]
    simp [hj, hdef j hj]
  · refine ml_up_bound fun hub1 => ?_
    obtain ⟨e1, hS⟩ := ml_newcore (s := s) hsz h2.1 h2 (by omega) g1 g2 g3
    subst e1
    have ek : base + (n0 + kc + 1) = base + k.toNat := by omega
    rw [ek] at g1 ⊢
    refine kk H1 locs ?_ hS (ml_ok_push h3 (hk ▸ hz)) ml_RO0
    rw [show n0 + (kc + 1) = (n0 + kc) + 1 from rfl, ml_cells_push, ek, ← hk, hlay, ml_cell_obj hci]
    have ez : (List.range N).map (fun j => ml_fv base (ml_ty ci j) (σ k (j : Int))) = (List.range N).map (fun j => ml_fv base (ml_ty ci j) 0) := by
      congr 1
      funext j
      rw [hz]
    rw [ez]
    exact g1
theorem ml_newA (X : ml_X p s m c meth args D cA cc nL own rt) (hs : s.heap.size = base + 1 + n0) (atype : ArrayType) (ty : FieldType) (t N : Nat) (harr : Cond.arrayClass (newarray.typeOf atype) ∈ ml_T) (hty : newarray.typeOf atype = ty) (hta : (ml_tys cA)[t]? = some (cA t, ty)) (hnm : ∀ (U : State) (x : ClassId), va_RA U x ty → U.vm.findClass ("[" ++ ty.toString) = some x) (a0 : vp_A) (ha0 : ∀ x : ClassId, vp_cell x a0 = arrV x N (fun _ => defaultValue ty)) (hn1 : 1 ≤ n0 + kc) {k : Int} (hk : k = ((n0 + kc : Nat) : Int) + 1) (hlay : ml_lay k = (t, N)) (hcell : ∀ f : Int → Int, (∀ j, f j = 0) → ml_cell base cA (t, N) f = .inl (cA t, a0)) (hz : ∀ j : Int, σ k j = 0) (hN : N ≤ 100000) (hbytes : N * componentBytes ty ≤ 536870912) (hkc : kc + 1 ≤ R.cells ∧ ks + N ≤ R.slots) (d : decode cc pc = .ok (.newarray atype, 2))
    (kk : ml_V p l e R s m args below meth c Q base D cA (kc + 1) (ks + N) 0 (n0 + (kc + 1)) σ (F0 m (pc + 2) ls (.ref (base + k.toNat) :: rest))) : ml_V p l e R s m args below meth c Q base D cA kc ks 0 (n0 + kc) σ (F0 m pc ls (.int (Int32.ofInt N) :: rest)) := by
  intro H locs h1 h2 h3 h4
  refine ml_up_bound fun hub => ?_
  have hsz : H.size = base + 1 + (n0 + kc) := by
    have := h2.1
    have := ml_low h1 hn1
    omega
  have hNi : I32 (N : Int) := ⟨by omega, by omega⟩
  refine va_newa (N' := N) (a0 := a0) (A := va_A (ml_cells base cA (n0 + kc) σ) H.size) (H0 := H) X.1 X.2.1 (X.2.2.2.2.1 _ harr) hty X.2.2.2.2.2.1 h1 (ml_cells_D base cA (n0 + kc) σ).self ⟨Nat.le_refl _, fun _ _ _ => rfl, fun q hq => ?_⟩ (fun q hq => Or.inr hq) ha0 (fun q => by have := (ml_lt hNi ml_i0).mp q; omega) (by rw [ml_cl (by omega) (by omega)]; omega) hbytes hkc.1 hkc.2 d (fun q x H1 gK g1 g2 g3 => ?_)
  · exact ml_inA (h2.2.2 q hq) hsz
  · refine ml_up_bound fun hub1 => ?_
    obtain ⟨e1, hS⟩ := ml_newcore (s := s) hsz h2.1 h2 (by omega) g1 g2 g3
    subst e1
    have ek : base + (n0 + kc + 1) = base + k.toNat := by omega
    rw [ek] at g1 ⊢
    have ex : x = cA t := by
      have r1 := hnm _ _ (gK.2 (ml_tys cA).length (x, ty) (by rw [List.getElem?_append_right (Nat.le_refl _)]; simp)).2
      have r2 := hnm _ _ (X.2.2.2.2.2.1.2 t _ hta).2
      exact Option.some.inj (r1.symm.trans r2)
    subst ex
    refine kk H1 locs ?_ hS (ml_ok_push h3 (hk ▸ hz)) ml_RO0
    rw [show n0 + (kc + 1) = (n0 + kc) + 1 from rfl, ml_cells_push, ek, ← hk, hlay, hcell _ hz]
    exact g1
theorem ml_newR (X : ml_X p s m c meth args D cA cc nL own rt) (hs : s.heap.size = base + 1 + n0) {C : String} {idx : Nat} (t N : Nat) (hw : Cond.classLink own idx C ∈ ml_T) (hover : va_AO C s) (hta : (ml_tys cA)[t]? = some (cA t, .object C)) (hn1 : 1 ≤ n0 + kc) {k : Int} (hk : k = ((n0 + kc : Nat) : Int) + 1) (hlay : ml_lay k = (t, N)) (hcell : ∀ f : Int → Int, (∀ j, f j = 0) → ml_cell base cA (t, N) f = .inl (cA t, N, .inr (.inr (.inr (.inr (fun _ => none)))))) (hz : ∀ j : Int, σ k j = 0) (hN : N ≤ 100000) (hkc : kc + 1 ≤ R.cells ∧ ks + N ≤ R.slots) (d : decode cc pc = .ok (.anewarray idx, 3))
    (kk : ml_V p l e R s m args below meth c Q base D cA (kc + 1) (ks + N) 0 (n0 + (kc + 1)) σ (F0 m (pc + 3) ls (.ref (base + k.toNat) :: rest))) : ml_V p l e R s m args below meth c Q base D cA kc ks 0 (n0 + kc) σ (F0 m pc ls (.int (Int32.ofInt N) :: rest)) := by
  intro H locs h1 h2 h3 h4
  refine ml_up_bound fun hub => ?_
  have hsz : H.size = base + 1 + (n0 + kc) := by
    have := h2.1
    have := ml_low h1 hn1
    omega
  have hNi : I32 (N : Int) := ⟨by omega, by omega⟩
  refine va_newq (N' := N) (A := va_A (ml_cells base cA (n0 + kc) σ) H.size) (H0 := H) X.1 X.2.1 X.2.2.2.1 (X.2.2.2.2.1 _ hw) hover X.2.2.2.2.2.1 h1 (ml_cells_D base cA (n0 + kc) σ).self ⟨Nat.le_refl _, fun _ _ _ => rfl, fun q hq => ?_⟩ (fun q hq => Or.inr hq) (fun q => by have := (ml_lt hNi ml_i0).mp q; omega) (by rw [ml_cl (by omega) (by omega)]; omega) (by omega) hkc.1 hkc.2 d (fun q x H1 gK g1 g2 g3 => ?_)
  · exact ml_inA (h2.2.2 q hq) hsz
  · refine ml_up_bound fun hub1 => ?_
    obtain ⟨e1, hS⟩ := ml_newcore (s := s) hsz h2.1 h2 (by omega) g1 g2 g3
    subst e1
    have ek : base + (n0 + kc + 1) = base + k.toNat := by omega
    rw [ek] at g1 ⊢
    have ex : x = cA t := by
      obtain ⟨_, _, _, _, _, r1⟩ := (gK.2 (ml_tys cA).length (x, .object C) (by rw [List.getElem?_append_right (Nat.le_refl _)]; simp)).2
      obtain ⟨_, _, _, _, _, r2⟩ := (X.2.2.2.2.2.1.2 t _ hta).2
      exact Option.some.inj (r1.symm.trans r2)
    subst ex
    refine kk H1 locs ?_ hS (ml_ok_push h3 (hk ▸ hz)) ml_RO0
    rw [show n0 + (kc + 1) = (n0 + kc) + 1 from rfl, ml_cells_push, ek, ← hk, hlay, hcell _ hz]
    exact g1
theorem ml_objInit (X : ml_X p s m c meth args D cA cc nL own rt) {idx : Nat} (hw : Cond.methodLink own idx Lib.objectInit ∈ ml_T ∧ Cond.instanceMethod Lib.objectInit ∈ ml_T ∧ Cond.code Lib.objectInit ⟨#[0xb1]⟩ 1 none ∈ ml_T) (hl : lv_has ls nL lst) {a : Nat} (hR : 1 ≤ R.frames ∧ 30 ≤ R.locals) (hrest : (rest.map fun v => v.category).sum ≤ 8) (d : decode cc pc = .ok (.invokespecial idx, 3)) (kk : ml_V p l e R s m args below meth c Q base D cA kc ks rr n σ (F0 m (pc + 3) ls rest)) : ml_V p l e R s m args below meth c Q base D cA kc ks rr n σ (F0 m pc ls (.ref a :: rest)) :=
  fun H locs h1 h2 h3 h4 => W.objInit X.1 X.2.1 X.2.2.2.1 (X.2.2.2.2.1 _ hw.1) (X.2.2.2.2.1 _ hw.2.1) (X.2.2.2.2.1 _ hw.2.2) rfl (by rw [X.2.2.1]; exact hl.1) rfl d hR.1 (by show 2 * 0 + _ + 12 ≤ _; have := hR.2; omega) (kk H locs h1 h2 h3 h4)
theorem ml_toRO (h : ml_RO n σ) {g : JFrame} (kk : ml_V p l e R s m args below meth c Q base D cA kc ks n n σ g) : ml_V p l e R s m args below meth c Q base D cA kc ks 0 n σ g := fun H locs h1 h2 h3 _ => kk H locs h1 h2 h3 h
theorem ml_vretC (X : ml_X p s m c meth args D cA cc nL own none) {Qc : ml_St → Prop} (hq : Qc σ) (d : decode cc pc = .ok (.return_, 1)) : ml_V p l e R s m args below meth c (MQ below (ml_QC base D cA n Qc) args s kc ks (ml_A base)) base D cA kc ks rr n σ (F0 m (pc) ls ([])) :=
  fun H locs h1 h2 h3 h4 => W.vret X.1 X.2.1 X.2.2.2.2.2.2.2 (fun t ht hW => ⟨⟨σ, rfl, hq, by rw [ht]; exact h1, va_K.moved hW.alike X.2.2.2.2.2.1, h3⟩, h2.F ht⟩) h2.2.2 d (hlocks := X.2.2.2.2.2.2.1)
theorem ml_callC (X : ml_X p s m c meth args D cA cc nL own rt) (hs : s.heap.size = base + 1 + n0) (hN : ml_N s) {index mxl mc ms : Nat} {host : String} {y : MethodName} {bytes : ByteArray} {rm : Room} {k : Int} {Qc : ml_St → Prop} (hM : Met l y (Cond.code y bytes mxl none :: ml_T) rm (va_Pc [.ref (base + k.toNat)] (ml_UC base D cA (n0 + kc) σ)) (ml_QC base D cA (n0 + kc + mc) Qc) mc ms (ml_A base)) (cv : (Cond.methodLinkNest own index y host ∈ ml_NW ∧ Cond.instanceMethod y ∈ ml_T ∧ Cond.initialized y.cls ∈ ml_T ∧ Cond.code y bytes mxl none ∈ ml_T) ∧ y.name = "<init>" ∧ (y.cls ≠ "java/lang/invoke/MethodHandle" ∧ y.cls ≠ "java/lang/invoke/VarHandle" ∧ (parseMethodDescriptor y.desc).map (fun d => d.parameters.length) = some 0)) (h0 : rm.cells = mc ∧ rm.slots = ms) (hR : rm.frames + 1 ≤ R.frames ∧ 8 + (mxl + 11) + rm.locals ≤ R.locals) (hn1 : 1 ≤ n0 + kc) (hl : lv_has ls nL lst) (hrest : (rest.map fun v => v.category).sum ≤ 8) (hkc : kc + mc ≤ R.cells ∧ ks + ms ≤ R.slots) (d : decode cc pc = .ok (.invokespecial index, 3))
    (kk : ∀ σ' : ml_St, Qc σ' → ml_V p l e R s m args below meth c Q base D cA (kc + mc) (ks + ms) 0 (n0 + (kc + mc)) σ' (F0 m (pc + 3) ls rest)) : ml_V p l e R s m args below meth c Q base D cA kc ks 0 (n0 + kc) σ (F0 m pc ls (.ref (base + k.toNat) :: rest)) := by
  intro H locs h1 h2 h3 h4
  refine ml_up_bound fun hub => ?_
  have hsz : H.size = base + 1 + (n0 + kc) := by
    have := h2.1
    have := ml_low h1 hn1
    omega
  have hcn := va_cnB 0 X.2.2.2.2.1 (ml_gd cv.1.2.2.2) rfl h0.1 h0.2 (hN.1 _ cv.1.1) (X.2.2.2.2.1 _ cv.1.2.2.1) cv.2.2 hR
  refine va_callv (va_runIN (As := []) (rest := rest) ⟨X.1, X.2.1, X.2.2.1, X.2.2.2.1, X.2.2.2.2.1⟩ hM ⟨hcn, cv.2.1, X.2.2.2.2.1 _ cv.1.2.1⟩ ⟨ml_UC_blind, fun U hU hW => ⟨rfl, ⟨by rw [hU]; exact h1, va_K.moved hW.alike X.2.2.2.2.2.1, h3⟩, by rw [hU]; exact hsz, hN.moved hW⟩⟩ rfl rfl hl.1 rfl (lv_room hrest) d hkc) h2 (fun _ _ h => h) (fun _ h => h) (fun u t H1 locs ht hvm hw hB hz1 hk1 hS => ?_)
  obtain ⟨hP1, hK1, hok1⟩ := hB
  rw [ht] at hP1
  exact kk u hw H1 locs (by rw [show n0 + (kc + mc) = n0 + kc + mc by omega]; exact hP1) hS (by rw [show n0 + (kc + mc) = n0 + kc + mc by omega]; exact hok1) ml_RO0
theorem ml_callCI (X : ml_X p s m c meth args D cA cc nL own rt) (hs : s.heap.size = base + 1 + n0) (hN : ml_N s) {index mxl mc ms : Nat} {y : MethodName} {bytes : ByteArray} {rm : Room} {k : Int} {Qc : ml_St → Prop} (hM : Met l y (Cond.code y bytes mxl none :: ml_T) rm (va_Pc [.ref (base + k.toNat)] (ml_UC base D cA (n0 + kc) σ)) (ml_QC base D cA (n0 + kc + mc) Qc) mc ms (ml_A base)) (cv : (Cond.methodLink own index y ∈ ml_T ∧ Cond.instanceMethod y ∈ ml_T ∧ Cond.initialized y.cls ∈ ml_T ∧ Cond.code y bytes mxl none ∈ ml_T) ∧ y.name = "<init>" ∧ (y.cls ≠ "java/lang/invoke/MethodHandle" ∧ y.cls ≠ "java/lang/invoke/VarHandle" ∧ (parseMethodDescriptor y.desc).map (fun d => d.parameters.length) = some 0)) (h0 : rm.cells = mc ∧ rm.slots = ms) (hR : rm.frames + 1 ≤ R.frames ∧ 8 + (mxl + 11) + rm.locals ≤ R.locals) (hn1 : 1 ≤ n0 + kc) (hl : lv_has ls nL lst) (hrest : (rest.map fun v => v.category).sum ≤ 8) (hkc : kc + mc ≤ R.cells ∧ ks + ms ≤ R.slots) (d : decode cc pc = .ok (.invokespecial index, 3))
    (kk : ∀ σ' : ml_St, Qc σ' → ml_V p l e R s m args below meth c Q base D cA (kc + mc) (ks + ms) 0 (n0 + (kc + mc)) σ' (F0 m (pc + 3) ls rest)) : ml_V p l e R s m args below meth c Q base D cA kc ks 0 (n0 + kc) σ (F0 m pc ls (.ref (base + k.toNat) :: rest)) := by
  intro H locs h1 h2 h3 h4
  refine ml_up_bound fun hub => ?_
  have hsz : H.size = base + 1 + (n0 + kc) := by
    have := h2.1
    have := ml_low h1 hn1
    omega
  have hcn := cwI 0 X.2.2.2.2.1 (ml_gd cv.1.2.2.2) rfl h0.1 h0.2 (X.2.2.2.2.1 _ cv.1.2.2.1) (X.2.2.2.2.1 _ cv.1.1) (X.2.2.2.2.1 _ cv.1.2.1) cv.2.1 cv.2.2 hR
  refine va_callv (va_runI (As := []) (rest := rest) ⟨X.1, X.2.1, X.2.2.1, X.2.2.2.1, X.2.2.2.2.1⟩ hM hcn ⟨ml_UC_blind, fun U hU hW => ⟨rfl, ⟨by rw [hU]; exact h1, va_K.moved hW.alike X.2.2.2.2.2.1, h3⟩, by rw [hU]; exact hsz, hN.moved hW⟩⟩ rfl rfl hl.1 rfl (lv_room hrest) d hkc) h2 (fun _ _ h => h) (fun _ h => h) (fun u t H1 locs ht hvm hw hB hz1 hk1 hS => ?_)
  obtain ⟨hP1, hK1, hok1⟩ := hB
  rw [ht] at hP1
  exact kk u hw H1 locs (by rw [show n0 + (kc + mc) = n0 + kc + mc by omega]; exact hP1) hS (by rw [show n0 + (kc + mc) = n0 + kc + mc by omega]; exact hok1) ml_RO0
theorem ml_aast (X : ml_X p s m c meth args D cA cc nL own rt) {k i v : Int} {t N ci NO : Nat} {r : vw_C} (hk : ml_at n k (t, N)) (hcell : ∀ f : Int → Int, ml_cell base cA (t, N) f = .inl (cA t, N, .inr (.inr (.inr (.inr (fun j => ml_ro base (f j))))))) (hta : (ml_tys cA)[t]? = some (cA t, .object r.1)) (hv : ml_at n v (ci + 10, NO)) (hci : ci < 13) (hc : ml_cls[ci]? = some r) (het : ml_et k i = 5 ∨ ml_et k i = 6) (hi : 0 ≤ i) (hN : i < N) (d : decode cc pc = .ok (.aastore, 1))
    (kk : ∀ σ' : ml_St, σ' = ml_up σ k i v → ml_V p l e R s m args below meth c Q base D cA kc ks 0 n σ' (F0 m (pc + 1) ls rest)) : ml_V p l e R s m args below meth c Q base D cA kc ks 0 n σ (F0 m pc ls (.ref (base + v.toNat) :: .int (Int32.ofInt i) :: .ref (base + k.toNat) :: rest)) := by
  intro H locs h1 h2 h3 h4
  have hg := ml_cells_get (base := base) (cA := cA) (σ := σ) hk
  rw [hcell] at hg
  have hgv := ml_cells_get (base := base) (cA := cA) (σ := σ) hv
  rw [ml_cell_obj hci] at hgv
  have hl := ml_len hk
  have hl : N ≤ 100000 := hl
  refine va_astq X.1 X.2.1 X.2.2.2.2.2.1 h1 (ml_cells_D base cA n σ) h2 (k.toNat - 1) t (v.toNat - 1) ci hg hta hgv hc (ml_vin hi hN hl) d (fun H1 locs1 g1 _ g3 => ?_)
  rw [ml_cl hi (by omega)] at g1
  refine kk _ rfl H1 locs1 ?_ g3 (ml_ok_up h3 (by rcases het with q | q <;> rw [q] <;> exact (show (0 : Int) ≤ v by have := hv.1; omega))) ml_RO0
  rw [ml_cells_set (kd := (t, N)) (σ' := ml_up σ k i v) hk (by
    rw [hcell]
    congr 7
    funext j
    unfold ml_up va_up
    by_cases h : j = i.toNat
    · subst h
      have hv0 : ¬ v = 0 := by have := hv.1; omega
      simp [Int.toNat_of_nonneg hi, ml_ro, hv0]
    · have : ¬ (j : Int) = i := by omega
      simp [h, this]) (fun a ha => ml_up_k ha)] at g1
  exact g1
end MLC
