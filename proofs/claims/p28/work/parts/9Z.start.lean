/-! THE START: the machine as the law finds it -/
theorem ml_arrK {s : State} {args : Array Value} {ty : FieldType} (h : (Cond.arrayClass ty).before args s = true) : ∃ x : ClassId, ArrOfT s x ty ∧ s.vm.findClass ("[" ++ ty.toString) = some x := by
  obtain ⟨x, k, comp, h1, h2, h3⟩ := Cond.arrayClass_spec h
  exact ⟨x, fun n z => ⟨fun k h => (by cases h), k, h2, comp, h3⟩, h1⟩
theorem ml_arrO {s : State} {args : Array Value} {C : String} (h : (Cond.arrayOver (.object C)).before args s = true) : ∃ x : ClassId, ArrOfT s x (.object C) ∧ va_RA s x (.object C) := by
  obtain ⟨comp, x, k, h0, _, h2, h3, h4⟩ := Cond.arrayOver_spec h
  exact ⟨x, fun n z => ⟨fun k h => (by cases h), k, h2, comp, h3⟩, k, comp, h2, h3, h0, h4⟩

theorem ml_NWin : ∀ w ∈ ml_NW, w ∈ lw_tbl := by
  unfold ml_NW
  exact List.forall_mem_cons.mpr ⟨(ml_t1 (List.mem_of_getElem? (i := 28) rfl)), List.forall_mem_cons.mpr ⟨(ml_t1 (List.mem_of_getElem? (i := 45) rfl)), List.forall_mem_cons.mpr ⟨(ml_t1 (List.mem_of_getElem? (i := 59) rfl)), List.forall_mem_cons.mpr ⟨(ml_t1 (List.mem_of_getElem? (i := 94) rfl)), List.forall_mem_cons.mpr ⟨(ml_t1 (List.mem_of_getElem? (i := 123) rfl)), List.forall_mem_cons.mpr ⟨(ml_t1 (List.mem_of_getElem? (i := 190) rfl)), List.forall_mem_cons.mpr ⟨(ml_t1 (List.mem_of_getElem? (i := 195) rfl)), List.forall_mem_cons.mpr ⟨(ml_t1 (List.mem_of_getElem? (i := 234) rfl)), List.forall_mem_cons.mpr ⟨(ml_t1 (List.mem_of_getElem? (i := 239) rfl)), List.forall_mem_cons.mpr ⟨(ml_t2 (List.mem_of_getElem? (i := 53) rfl)), List.forall_mem_cons.mpr ⟨(ml_t2 (List.mem_of_getElem? (i := 87) rfl)), List.forall_mem_cons.mpr ⟨(ml_t2 (List.mem_of_getElem? (i := 98) rfl)), List.forall_mem_cons.mpr ⟨(ml_t2 (List.mem_of_getElem? (i := 100) rfl)), List.forall_mem_cons.mpr ⟨(ml_t2 (List.mem_of_getElem? (i := 105) rfl)), fun _ h => absurd h List.not_mem_nil⟩⟩⟩⟩⟩⟩⟩⟩⟩⟩⟩⟩⟩⟩
set_option maxRecDepth 100000 in
set_option maxHeartbeats 4000000 in
theorem whole_start {p : Program} {e : Env} {s : State} {m : MethodId} {below : List Frame} {meth : Method} {c : Code} (l : Launch) (hflags : l.flags = flags0) {b L : Nat} {xs : Nat → Int32} (hL : L ≤ 4096) (C0 : lw_At p s m meth c b L xs) : W p l e room_1 s m #[Value.ref b] below meth c s.heap [] 0 0 (lw_Z below #[Value.ref b] s) (entryFrame m ([Value.ref b] : List Value).toArray 4) := by
  obtain ⟨hx, hb, hr, hml, hown, hts, hX, hbl, hlocks, hgv⟩ := id C0
  have hts' : ∀ w ∈ ml_T, w.before #[Value.ref b] s = true := fun w hw => hts w (List.mem_filter.mp hw).1
  obtain ⟨c0, i0, k0⟩ := u_known (C := RX0) (T := TX0) (N := 2) (n := 2) hts' in_X0 (hts (.instantiable RX0 2) (ml_t1 (List.mem_of_getElem? (i := 44) rfl)))
  obtain ⟨c1, i1, k1⟩ := u_known (C := RX1) (T := TX1) (N := 7) (n := 7) hts' in_X1 (hts (.instantiable RX1 7) (ml_t2 (List.mem_of_getElem? (i := 52) rfl)))
  obtain ⟨c2, i2, k2⟩ := u_known (C := RX2) (T := TX2) (N := 7) (n := 7) hts' in_X2 (hts (.instantiable RX2 7) (ml_t1 (List.mem_of_getElem? (i := 58) rfl)))
  obtain ⟨c3, i3, k3⟩ := u_known (C := RX3) (T := TX3) (N := 6) (n := 6) hts' in_X3 (hts (.instantiable RX3 6) (ml_t1 (List.mem_of_getElem? (i := 93) rfl)))
  obtain ⟨c4, i4, k4⟩ := u_known (C := RX4) (T := TX4) (N := 7) (n := 7) hts' in_X4 (hts (.instantiable RX4 7) (ml_t1 (List.mem_of_getElem? (i := 87) rfl)))
  obtain ⟨c5, i5, k5⟩ := u_known (C := RX5) (T := TX5) (N := 2) (n := 2) hts' in_X5 (hts (.instantiable RX5 2) (ml_t2 (List.mem_of_getElem? (i := 81) rfl)))
  obtain ⟨c6, i6, k6⟩ := u_known (C := RX6) (T := TX6) (N := 10) (n := 10) hts' in_X6 (hts (.instantiable RX6 10) (ml_t1 (List.mem_of_getElem? (i := 189) rfl)))
  obtain ⟨c7, i7, k7⟩ := u_known (C := RX7) (T := TX7) (N := 14) (n := 14) hts' in_X7 (hts (.instantiable RX7 14) (ml_t1 (List.mem_of_getElem? (i := 233) rfl)))
  obtain ⟨c8, i8, k8⟩ := u_known (C := RX8) (T := TX8) (N := 2) (n := 2) hts' in_X8 (hts (.instantiable RX8 2) (ml_t1 (List.mem_of_getElem? (i := 27) rfl)))
  obtain ⟨c9, i9, k9⟩ := u_known (C := RX9) (T := TX9) (N := 8) (n := 8) hts' in_X9 (hts (.instantiable RX9 8) (ml_t1 (List.mem_of_getElem? (i := 122) rfl)))
  obtain ⟨c10, i10, k10⟩ := u_known (C := RX10) (T := TX10) (N := 8) (n := 8) hts' in_X10 (hts (.instantiable RX10 8) (ml_t2 (List.mem_of_getElem? (i := 99) rfl)))
  obtain ⟨c11, i11, k11⟩ := u_known (C := RX11) (T := TX11) (N := 13) (n := 13) hts' in_X11 (hts (.instantiable RX11 13) (ml_t1 (List.mem_of_getElem? (i := 19) rfl)))
  obtain ⟨c12, i12, k12⟩ := u_known (C := RX12) (T := TX12) (N := 62) (n := 62) hts' in_X12 (hts (.instantiable RX12 62) (ml_t4 (List.mem_of_getElem? (i := 186) rfl)))
  obtain ⟨dC, dI, hKc⟩ : ∃ (dC : Nat → ClassId) (dI : Nat → Nat → Nat), ∀ (k : Nat) (q : vw_C), ml_cls[k]? = some q → u_Kn s q.1 q.2.1 q.2.2 (dC k) (dI k) := by
    refine ⟨fun k => [c0, c1, c2, c3, c4, c5, c6, c7, c8, c9, c10, c11, c12].getD k c0, fun k => [i0, i1, i2, i3, i4, i5, i6, i7, i8, i9, i10, i11, i12].getD k i0, ?_⟩
    intro k q hq
    match k, hq with
    | 0, hq => cases hq; exact k0
    | 1, hq => cases hq; exact k1
    | 2, hq => cases hq; exact k2
    | 3, hq => cases hq; exact k3
    | 4, hq => cases hq; exact k4
    | 5, hq => cases hq; exact k5
    | 6, hq => cases hq; exact k6
    | 7, hq => cases hq; exact k7
    | 8, hq => cases hq; exact k8
    | 9, hq => cases hq; exact k9
    | 10, hq => cases hq; exact k10
    | 11, hq => cases hq; exact k11
    | 12, hq => cases hq; exact k12
    | k + 13, hq => simp [ml_cls] at hq
  obtain ⟨a1, g1, h1⟩ := ml_arrK (hts (.arrayClass .int) (ml_t1 (List.mem_of_getElem? (i := 42) rfl)))
  obtain ⟨a2, g2, h2⟩ := ml_arrK (hts (.arrayClass .byte) (ml_t1 (List.mem_of_getElem? (i := 85) rfl)))
  obtain ⟨a3, g3, h3⟩ := ml_arrK (hts (.arrayClass .boolean) (ml_t5 (List.mem_of_getElem? (i := 138) rfl)))
  obtain ⟨a4, g4, h4⟩ := ml_arrK (hts (.arrayClass .long) (ml_t1 (List.mem_of_getElem? (i := 165) rfl)))
  obtain ⟨a5, g5, h5⟩ := ml_arrO (hts (.arrayOver (.object "MirrorLane$Weave")) (ml_t1 (List.mem_of_getElem? (i := 121) rfl)))
  obtain ⟨a6, g6, h6⟩ := ml_arrO (hts (.arrayOver (.object "MirrorLane$Word")) (ml_t2 (List.mem_of_getElem? (i := 96) rfl)))
  obtain ⟨cA, hcA⟩ : ∃ cA : Nat → ClassId, cA = fun k => [a1, a1, a2, a3, a4, a5, a6].getD k a1 := ⟨_, rfl⟩
  have hK : va_K (dC, dI) ml_cls (ml_tys cA) s := by
    refine ⟨hKc, fun k q h => ?_⟩
    subst hcA
    match k, h with
    | 0, h => cases h; exact ⟨g1, h1⟩
    | 1, h => cases h; exact ⟨g1, h1⟩
    | 2, h => cases h; exact ⟨g2, h2⟩
    | 3, h => cases h; exact ⟨g3, h3⟩
    | 4, h => cases h; exact ⟨g4, h4⟩
    | 5, h => cases h; exact ⟨g5, h5⟩
    | 6, h => cases h; exact ⟨g6, h6⟩
    | k + 7, h => simp [ml_tys] at h
  have hNN : ml_N s := ⟨fun w hw => by
    obtain ⟨a, i, x, q, rfl⟩ := ml_NWm w hw
    exact va_Nw.of rfl (hts _ (ml_NWin _ hw)), va_AO.of (hts (.arrayOver (.object "MirrorLane$Weave")) (ml_t1 (List.mem_of_getElem? (i := 121) rfl))), va_AO.of (hts (.arrayOver (.object "MirrorLane$Word")) (ml_t2 (List.mem_of_getElem? (i := 96) rfl)))⟩
  obtain ⟨base, hbase⟩ : ∃ base : Nat, s.heap.size = base + 1 := ⟨s.heap.size - 1, by omega⟩
  have X : ml_X p s m c meth #[Value.ref b] (dC, dI) cA cL_law 4 RL ret := ⟨hx, hb, hml, hown, hts', hK, hlocks, hr⟩
  have hn : lw_S s base b (L : Int) xs (fun i => (xs i.toNat).toInt) := ⟨by rw [Int.toNat_natCast]; exact hX, hbl, by omega, ⟨by omega, by omega, hbase⟩, ⟨by omega, by omega⟩, fun i => ml_r32 _, fun i _ => Int32.ofInt_toInt _⟩
  have hl := lv_entry [.ref b] (n := 4) (Nat.le_of_ble_eq_true rfl)
  rw [lg_entry_eq]
  generalize (lg_sl [.ref b] ++ List.replicate (4 - (lg_sl [.ref b]).length) Slot.unset).toArray = ls at hl ⊢
  have hl : lv_has ls 4 [(0, .ref b)] := hl
  exact u_L_law_0 X hn (by rw [hbase]) hNN ml_S0 ls hl (lw_law ⟨by omega, by omega⟩ (fun i => ml_r32 _)) s.heap [] (fun k q h => by simp [ml_cells] at h) va_S.rf (fun k j h1 h2 => by omega) ml_RO0
set_option maxHeartbeats 4000000 in
theorem lw_walk (l : Launch) (hflags : l.flags = flags0) (b : Addr) (xs : List Int32) : MetFree l x (headSpec (Jvm.Cond.code x code maxLocals ret :: tables_1) room_1) (lw_P b xs) (fun _ _ _ _ _ => True) lw_Q := by
  refine MetFree.of_bodyS (code := code) (maxLocals := maxLocals) (ret := ret) (by decide) ?_ ?_
  · intro args s m h hn
    obtain ⟨meth, c, h1, h2, h3, h4, h5, h6, -, -⟩ := Cond.code_spec hn (atoms_spec (ws := Jvm.Cond.code x code maxLocals ret :: tables_1) h _ List.mem_cons_self)
    exact ⟨meth, c, h1, h2, h3, h4, h5, h6⟩
  · intro p e s m args below meth c s₁ B hml0 hP _
    obtain ⟨rfl, hx, hbd, hgv⟩ := hP
    obtain ⟨scr, harrAt, hlist, hof, hsmall⟩ := hx
    obtain ⟨hcb, hkn, -, -⟩ := State.arrayAt?_spec harrAt
    have hown : s.vm.findClass R_law = some m.cls := findClass_of_methodNamed B.named
    have hts0 : ∀ c ∈ (Jvm.Cond.code x code maxLocals ret :: tables_1), c.before #[Value.ref b] s = true := atoms_spec (ws := Jvm.Cond.code x code maxLocals ret :: tables_1) B.pre
    have hts : ∀ w ∈ lw_tbl, w.before #[Value.ref b] s = true := k2_hts_sels lw_privs (fun w hw => hts0 w (List.mem_cons_of_mem _ hw)) lw_privs_ok
    have hml : c.maxLocals = 4 := B.maxLocals_eq (hts0 _ List.mem_cons_self)
    have X₀ : Stand p l e room_1 s m #[Value.ref b] below meth c s₁ [] 0 0 := Stand.of_body B
    have hh0 : s₁.heap = s.heap := by rw [B.state]; rfl
    have hsz : scr.slots.size = xs.length := by rw [← Array.length_toList, hlist, List.length_map]
    have hval : ∀ j : Nat, j < xs.length → scr.slots[j]? = some (.int (xs.getD j 0)) := fun j hj => by
      rw [← Array.getElem?_toList, hlist]
      simp [hj]
    have hbl : b < s.heap.size := (Array.getElem?_eq_some_iff.mp hcb).1
    have hX : va_X b xs.length (fun j => xs.getD j 0) s s.heap := ⟨scr, hcb, hof, hkn, hsz, hval⟩
    have K : W p l e room_1 s m #[Value.ref b] below meth c s₁.heap [] 0 0 (lw_Z below #[Value.ref b] s) (entryFrame m ([Value.ref b] : List Value).toArray 4) := by
      rw [hh0]
      exact whole_start l hflags hbd ⟨B.exec, B.bytes, B.returns, hml, hown, hts, hX, hbl, B.notSynchronized, hgv⟩
    obtain ⟨t, a1, o, b1, b2, b3⟩ := K s₁ rfl X₀
    exact ⟨t, o, a1, b1, b2, b3⟩
theorem lw_pre_spec {args : Array Value} {s : State} (h : (Jvm.Cond.and given_1 narrow_1).before args s = true) (hr : rest_1_c.before args s = true) : ∃ (b : Addr) (xs : List Int32), lw_P b xs args s := by
  have hs := flat_of_before _ h
  have hq := flat_of_before _ hr
  have hc : (Cond.count 1).before args s = true := hs _ (by decide +kernel)
  have harr : (Cond.arrayOf (.arg 0) .int).before args s = true := hs _ (by decide +kernel)
  have hle : (Cond.le (.length (.arg 0)) (.int 4096)).before args s = true := hs _ (by decide +kernel)
  have hlen : (Cond.isInt (.length (.arg 0))).before args s = true := hq _ (by decide +kernel)
  have hall : (Cond.all (.arg 0) (.isInt (.elem (.arg 0) (.index 0)))).before args s = true := hq _ (by decide +kernel)
  obtain ⟨b, xs, hb, hx⟩ := State.ints_of_pre rfl harr hlen hall
  have hsm : xs.length < 2 ^ 31 := hx.choose_spec.2.2.2
  have hev : (Term.length (.arg 0)).eval args s none [] s = some (.int xs.length.toInt32) := hx.length_eval hb
  have hv := Cond.le_ints hev (show (Term.int 4096).eval args s none [] s = some (.int 4096) from rfl)
  have hd : xs.length.toInt32 ≤ 4096 := by
    simpa [Cond.before, Cond.holds, hv] using hle
  have hN : xs.length ≤ 4096 := (Int32.ofNat_le_ofNat hsm (by decide)).mp (show Int32.ofNat xs.length ≤ Int32.ofNat 4096 from hd)
  exact ⟨b, xs, Cond.one_arg hc (show args[0]? = some (.ref b) from hb), hx, hN, h⟩
theorem lw_comes (l : Launch) (hflags : l.flags = flags0) : Comes l x (Jvm.Cond.code x code maxLocals ret :: tables_1) room_1 (fun tb e args s => Calls_1 tb e args s ∧ rest_1 tb e args s ∧ Pre_1 tb e args s)
    (fun _ _ args s o t => lw_Q args s o t) := by
  intro p e ha hc hk s m args below hf hfit hheap happ hpre
  obtain ⟨b, xs, hP⟩ := lw_pre_spec hpre.2.2 hpre.2.1
  obtain ⟨k, o, h1, h2, h3, hQ⟩ := lw_walk l hflags b xs p e ha hc hk s m args below hf ((Spec.applies_iff_loose hf).mp happ).1 hP trivial
  exact ⟨k, o, h1, h2, h3, hQ⟩
theorem lw_frame {s t : State} {o : Outcome} {args : Array Value} (h : Framed s o t [] 600000 7302249) :
    Framed s o t (fieldLocs frame_1_writes args s ++ arrayLocs frame_1_arrays args s ++ staticLocs frame_1_statics s) 600000 7302249 := h
theorem lw_limb (L : Cond) (hL : ∀ (args : Array Value) (s t : State), L.after args s (.returned (some (.int 1))) t = true) :
    ArmFor flags0 classFile x code maxLocals ret World_1 tables_1 room_1 Calls_1 rest_1 Pre_1
      (fun tb e a s o t => postC L tb e a s o t ∧ Framed s o t (fieldLocs frame_1_writes a s ++ arrayLocs frame_1_arrays a s ++ staticLocs frame_1_statics s) 600000 7302249) := by
  intro l hflags _ _ p e ha hc hk s m args below hf hfit hheap happ hpre
  obtain ⟨k, o, h1, h2, h3, rfl, hF⟩ := lw_comes l hflags p e ha hc hk s m args below hf hfit hheap happ hpre
  exact ⟨k, _, h1, h2, h3, hL args s _, lw_frame hF⟩
theorem i_vc : Claimed_1_1 ∧ Claimed_1_2 := ⟨lw_limb limb_1_1 (fun args s t => by simp [limb_1_1, Cond.after, Cond.holds, Cond.value]), lw_limb limb_1_2 (fun args s t => Cond.after_iff.mpr (by
  first | (rw [show limb_1_2 = Cond.eq .result (.int 1) from rfl, Cond.eq_ints (x := 1) (y := 1) rfl rfl]; simp; done) | (simp [limb_1_2, Cond.value, Term.eval]; done)))⟩
