theorem dX11_isStretch_0 : decode cX11_isStretch 0 = .ok (.lload_n 0, 1) := by decide +kernel
theorem dX11_isStretch_1 : decode cX11_isStretch 1 = .ok (.invokestatic 170, 3) := by decide +kernel
theorem dX11_isStretch_4 : decode cX11_isStretch 4 = .ok (.ifCond .eq 20, 3) := by decide +kernel
theorem dX11_isStretch_7 : decode cX11_isStretch 7 = .ok (.lload_n 2, 1) := by decide +kernel
theorem dX11_isStretch_8 : decode cX11_isStretch 8 = .ok (.invokestatic 170, 3) := by decide +kernel
theorem dX11_isStretch_11 : decode cX11_isStretch 11 = .ok (.ifCond .eq 13, 3) := by decide +kernel
theorem dX11_isStretch_14 : decode cX11_isStretch 14 = .ok (.lload_n 0, 1) := by decide +kernel
theorem dX11_isStretch_15 : decode cX11_isStretch 15 = .ok (.lload_n 2, 1) := by decide +kernel
theorem dX11_isStretch_16 : decode cX11_isStretch 16 = .ok (.lcmp, 1) := by decide +kernel
theorem dX11_isStretch_17 : decode cX11_isStretch 17 = .ok (.ifCond .gt 7, 3) := by decide +kernel
theorem dX11_isStretch_20 : decode cX11_isStretch 20 = .ok (.iconst 1, 1) := by decide +kernel
theorem dX11_isStretch_21 : decode cX11_isStretch 21 = .ok (.goto 4, 3) := by decide +kernel
theorem dX11_isStretch_24 : decode cX11_isStretch 24 = .ok (.iconst 0, 1) := by decide +kernel
theorem dX11_isStretch_25 : decode cX11_isStretch 25 = .ok (.ireturn, 1) := by decide +kernel
def f_X11_isStretch_u25 (Q : Int → ml_St → Prop) (σ : ml_St) (s0 : Int) : Prop :=
Q s0 σ
def f_X11_isStretch_u24 (Q : Int → ml_St → Prop) (σ : ml_St) : Prop :=
f_X11_isStretch_u25 Q σ 0
def f_X11_isStretch_u0 (Q : Int → ml_St → Prop) (σ : ml_St) (x0 : Int) (x2 : Int) : Prop :=
f_X11_isPower σ x0 (fun r1 σ1 => ∀ _ : ml_B r1,
(r1 = 0 →
f_X11_isStretch_u24 Q σ1) ∧
(r1 ≠ 0 →
f_X11_isPower σ1 x2 (fun r3 σ3 => ∀ _ : ml_B r3,
(r3 = 0 →
f_X11_isStretch_u24 Q σ3) ∧
(r3 ≠ 0 →
(x2 < x0 →
f_X11_isStretch_u24 Q σ3) ∧
(¬ (x2 < x0) →
f_X11_isStretch_u25 Q σ3 1)))))
def f_X11_isStretch (σ : ml_St) (x0 : Int) (x2 : Int) (Q : Int → ml_St → Prop) : Prop := f_X11_isStretch_u0 Q σ x0 x2
def rm_X11_isStretch : Room := { frames := 1, cells := 0, slots := 0, locals := 21 }
set_option maxRecDepth 100000 in
set_option maxHeartbeats 4000000 in
theorem u_X11_isStretch_25 {p : Program} {e : Env} {s : State} {m : MethodId} {args : Array Value} {below : List Frame} {meth : Method} {c : Code} {base : Nat} {D : va_G} {cA : Nat → ClassId} {n : Nat} {l : Launch} {Q : Int → ml_St → Prop} (X : ml_X p s m c meth args D cA cX11_isStretch 4 RX11 (some .boolean)) (hn : 214 ≤ n) (σ : ml_St) (s0 : Int) (h_s0 : ml_B s0) (ls : Array Slot) (hl : lv_has ls 4 []) (hw : f_X11_isStretch_u25 Q σ s0) : ml_V p l e rm_X11_isStretch s m args below meth c (MQ below (ml_Qi ml_B base D cA n Q) args s 0 0 (ml_A base)) base D cA 0 0 n n σ (F0 m 25 ls [.int (Int32.ofInt s0)]) := by
  unfold f_X11_isStretch_u25 at hw
  exact ml_zret (pc := 25) X h_s0 hw dX11_isStretch_25
set_option maxRecDepth 100000 in
set_option maxHeartbeats 4000000 in
theorem u_X11_isStretch_24 {p : Program} {e : Env} {s : State} {m : MethodId} {args : Array Value} {below : List Frame} {meth : Method} {c : Code} {base : Nat} {D : va_G} {cA : Nat → ClassId} {n : Nat} {l : Launch} {Q : Int → ml_St → Prop} (X : ml_X p s m c meth args D cA cX11_isStretch 4 RX11 (some .boolean)) (hn : 214 ≤ n) (σ : ml_St) (ls : Array Slot) (hl : lv_has ls 4 []) (hw : f_X11_isStretch_u24 Q σ) : ml_V p l e rm_X11_isStretch s m args below meth c (MQ below (ml_Qi ml_B base D cA n Q) args s 0 0 (ml_A base)) base D cA 0 0 n n σ (F0 m 24 ls []) := by
  unfold f_X11_isStretch_u24 at hw
  refine ml_iconst (pc := 24) X dX11_isStretch_24 ?_
  exact u_X11_isStretch_25 X hn σ 0 ⟨by decide, by decide⟩ _ (lv_sub hl [] rfl) hw
set_option maxRecDepth 100000 in
set_option maxHeartbeats 4000000 in
theorem u_X11_isStretch_0 {p : Program} {e : Env} {s : State} {m : MethodId} {args : Array Value} {below : List Frame} {meth : Method} {c : Code} {base : Nat} {D : va_G} {cA : Nat → ClassId} {n : Nat} {l : Launch} {Q : Int → ml_St → Prop} (X : ml_X p s m c meth args D cA cX11_isStretch 4 RX11 (some .boolean)) (hn : 214 ≤ n) (σ : ml_St) (x0 : Int) (x2 : Int) (h_x0 : I64 x0) (h_x2 : I64 x2) (ls : Array Slot) (hl : lv_has ls 4 [(0, .long (Int64.ofInt x0)), (2, .long (Int64.ofInt x2))]) (hw : f_X11_isStretch_u0 Q σ x0 x2) : ml_V p l e rm_X11_isStretch s m args below meth c (MQ below (ml_Qi ml_B base D cA n Q) args s 0 0 (ml_A base)) base D cA 0 0 n n σ (F0 m 0 ls []) := by
  unfold f_X11_isStretch_u0 at hw
  refine ml_lload_n (pc := 0) X hl 0 rfl rfl dX11_isStretch_0 ?_
  refine ml_callzS (pc := 1) (rest := []) X [.long (Int64.ofInt x0)] (c_X11_isPower l base D cA n hn σ x0 h_x0 _ hw) cv_X11_170 ⟨rfl, rfl⟩ ⟨by decide, by decide⟩ rfl rfl hl (Nat.le_of_ble_eq_true rfl) ⟨Nat.zero_le _, Nat.zero_le _⟩ dX11_isStretch_1 (fun r1 σ1 t1 hw => ?_)
  have hw := hw t1
  refine ml_if_eq (pc := 4) (tgt := 24) X t1.i dX11_isStretch_4 (by decide) (fun c2 => ?_) (fun c2 => ?_)
  · have hw := hw.1 c2
    exact u_X11_isStretch_24 X hn σ1   _ (lv_sub hl [] rfl) hw
  · have hw := hw.2 c2
    refine ml_lload_n (pc := 7) X hl 1 rfl rfl dX11_isStretch_7 ?_
    refine ml_callzS (pc := 8) (rest := []) X [.long (Int64.ofInt x2)] (c_X11_isPower l base D cA n hn σ1 x2 h_x2 _ hw) cv_X11_170 ⟨rfl, rfl⟩ ⟨by decide, by decide⟩ rfl rfl hl (Nat.le_of_ble_eq_true rfl) ⟨Nat.zero_le _, Nat.zero_le _⟩ dX11_isStretch_8 (fun r3 σ3 t3 hw => ?_)
    have hw := hw t3
    refine ml_if_eq (pc := 11) (tgt := 24) X t3.i dX11_isStretch_11 (by decide) (fun c4 => ?_) (fun c4 => ?_)
    · have hw := hw.1 c4
      exact u_X11_isStretch_24 X hn σ3   _ (lv_sub hl [] rfl) hw
    · have hw := hw.2 c4
      refine ml_lload_n (pc := 14) X hl 0 rfl rfl dX11_isStretch_14 ?_
      refine ml_lload_n (pc := 15) X hl 1 rfl rfl dX11_isStretch_15 ?_
      refine ml_lcmp_gt (pc := 16) (tgt := 24) X h_x0 h_x2 dX11_isStretch_16 dX11_isStretch_17 (by decide) (fun c5 => ?_) (fun c5 => ?_)
      · have hw := hw.1 c5
        exact u_X11_isStretch_24 X hn σ3   _ (lv_sub hl [] rfl) hw
      · have hw := hw.2 c5
        refine ml_iconst (pc := 20) X dX11_isStretch_20 ?_
        refine ml_goto (pc := 21) (tgt := 25) X dX11_isStretch_21 (by decide) ?_
        exact u_X11_isStretch_25 X hn σ3 1 ⟨by decide, by decide⟩ _ (lv_sub hl [] rfl) hw
set_option maxRecDepth 100000 in
theorem c_X11_isStretch (l : Launch) (base : Nat) (D : va_G) (cA : Nat → ClassId) (n : Nat) (hn : 214 ≤ n) (σ : ml_St) (x0 : Int) (x2 : Int) (h_x0 : I64 x0) (h_x2 : I64 x2) (Q : Int → ml_St → Prop) (hw : f_X11_isStretch σ x0 x2 Q) : Met l yX11_isStretch (Cond.code yX11_isStretch cX11_isStretch 4 (some .boolean) :: ml_T) rm_X11_isStretch (va_Pc [.long (Int64.ofInt x0), .long (Int64.ofInt x2)] (ml_U base D cA n σ)) (ml_Qi ml_B base D cA n Q) 0 0 (ml_A base) := by
  refine Met.ofW (cc := cX11_isStretch) (maxL := 4) (ret := (some .boolean)) (by decide) rfl ?_
  intro p e s m args below meth c s₁ B hml hv
  obtain ⟨rfl, hP, hK, hok, hro⟩ := hv
  have X : ml_X p s m c meth _ D cA cX11_isStretch 4 RX11 (some .boolean) := ⟨B.exec, B.bytes, hml, findClass_of_methodNamed B.named, fun w hw => atoms_spec (ws := Cond.code yX11_isStretch cX11_isStretch 4 (some .boolean) :: ml_T) B.pre w (List.mem_cons_of_mem _ hw), hK, B.notSynchronized, B.returns⟩
  have hl := lv_entry [.long (Int64.ofInt x0), .long (Int64.ofInt x2)] (n := 4) (Nat.le_of_ble_eq_true rfl)
  rw [lg_entry_eq]
  generalize (lg_sl [.long (Int64.ofInt x0), .long (Int64.ofInt x2)] ++ List.replicate (4 - (lg_sl [.long (Int64.ofInt x0), .long (Int64.ofInt x2)]).length) Slot.unset).toArray = ls at hl ⊢
  have hl : lv_has ls 4 [(0, .long (Int64.ofInt x0)), (2, .long (Int64.ofInt x2))] := hl
  unfold f_X11_isStretch at hw
  exact u_X11_isStretch_0 X hn σ x0 x2 h_x0 h_x2 _ (lv_sub hl [0, 1] rfl) hw s.heap [] hP va_S.rf hok hro
theorem dX6_firstFrom_0 : decode cX6_firstFrom 0 = .ok (.lload_n 2, 1) := by decide +kernel
theorem dX6_firstFrom_1 : decode cX6_firstFrom 1 = .ok (.aload_n 0, 1) := by decide +kernel
theorem dX6_firstFrom_2 : decode cX6_firstFrom 2 = .ok (.iload_n 1, 1) := by decide +kernel
theorem dX6_firstFrom_3 : decode cX6_firstFrom 3 = .ok (.i2l, 1) := by decide +kernel
theorem dX6_firstFrom_4 : decode cX6_firstFrom 4 = .ok (.invokevirtual 80, 3) := by decide +kernel
theorem dX6_firstFrom_7 : decode cX6_firstFrom 7 = .ok (.lsub, 1) := by decide +kernel
theorem dX6_firstFrom_8 : decode cX6_firstFrom 8 = .ok (.lstore 4, 2) := by decide +kernel
theorem dX6_firstFrom_10 : decode cX6_firstFrom 10 = .ok (.lload 4, 2) := by decide +kernel
theorem dX6_firstFrom_12 : decode cX6_firstFrom 12 = .ok (.lconst 0, 1) := by decide +kernel
theorem dX6_firstFrom_13 : decode cX6_firstFrom 13 = .ok (.lcmp, 1) := by decide +kernel
theorem dX6_firstFrom_14 : decode cX6_firstFrom 14 = .ok (.ifCond .ne 6, 3) := by decide +kernel
theorem dX6_firstFrom_17 : decode cX6_firstFrom 17 = .ok (.iload_n 1, 1) := by decide +kernel
theorem dX6_firstFrom_18 : decode cX6_firstFrom 18 = .ok (.i2l, 1) := by decide +kernel
theorem dX6_firstFrom_19 : decode cX6_firstFrom 19 = .ok (.lreturn, 1) := by decide +kernel
theorem dX6_firstFrom_20 : decode cX6_firstFrom 20 = .ok (.lload 4, 2) := by decide +kernel
theorem dX6_firstFrom_22 : decode cX6_firstFrom 22 = .ok (.lconst 0, 1) := by decide +kernel
theorem dX6_firstFrom_23 : decode cX6_firstFrom 23 = .ok (.lcmp, 1) := by decide +kernel
theorem dX6_firstFrom_24 : decode cX6_firstFrom 24 = .ok (.ifCond .lt 24, 3) := by decide +kernel
theorem dX6_firstFrom_27 : decode cX6_firstFrom 27 = .ok (.aload_n 0, 1) := by decide +kernel
theorem dX6_firstFrom_28 : decode cX6_firstFrom 28 = .ok (.getfield 43, 3) := by decide +kernel
theorem dX6_firstFrom_31 : decode cX6_firstFrom 31 = .ok (.lconst 0, 1) := by decide +kernel
theorem dX6_firstFrom_32 : decode cX6_firstFrom 32 = .ok (.lcmp, 1) := by decide +kernel
theorem dX6_firstFrom_33 : decode cX6_firstFrom 33 = .ok (.ifCond .le 15, 3) := by decide +kernel
theorem dX6_firstFrom_36 : decode cX6_firstFrom 36 = .ok (.lload 4, 2) := by decide +kernel
theorem dX6_firstFrom_38 : decode cX6_firstFrom 38 = .ok (.aload_n 0, 1) := by decide +kernel
theorem dX6_firstFrom_39 : decode cX6_firstFrom 39 = .ok (.getfield 43, 3) := by decide +kernel
theorem dX6_firstFrom_42 : decode cX6_firstFrom 42 = .ok (.lrem, 1) := by decide +kernel
theorem dX6_firstFrom_43 : decode cX6_firstFrom 43 = .ok (.lconst 0, 1) := by decide +kernel
theorem dX6_firstFrom_44 : decode cX6_firstFrom 44 = .ok (.lcmp, 1) := by decide +kernel
theorem dX6_firstFrom_45 : decode cX6_firstFrom 45 = .ok (.ifCond .eq 7, 3) := by decide +kernel
theorem dX6_firstFrom_48 : decode cX6_firstFrom 48 = .ok (.ldc2_w 92, 3) := by decide +kernel
theorem dX6_firstFrom_51 : decode cX6_firstFrom 51 = .ok (.lreturn, 1) := by decide +kernel
theorem dX6_firstFrom_52 : decode cX6_firstFrom 52 = .ok (.iload_n 1, 1) := by decide +kernel
theorem dX6_firstFrom_53 : decode cX6_firstFrom 53 = .ok (.i2l, 1) := by decide +kernel
theorem dX6_firstFrom_54 : decode cX6_firstFrom 54 = .ok (.lload 4, 2) := by decide +kernel
theorem dX6_firstFrom_56 : decode cX6_firstFrom 56 = .ok (.aload_n 0, 1) := by decide +kernel
theorem dX6_firstFrom_57 : decode cX6_firstFrom 57 = .ok (.getfield 43, 3) := by decide +kernel
theorem dX6_firstFrom_60 : decode cX6_firstFrom 60 = .ok (.ldiv, 1) := by decide +kernel
theorem dX6_firstFrom_61 : decode cX6_firstFrom 61 = .ok (.aload_n 0, 1) := by decide +kernel
theorem dX6_firstFrom_62 : decode cX6_firstFrom 62 = .ok (.getfield 40, 3) := by decide +kernel
theorem dX6_firstFrom_65 : decode cX6_firstFrom 65 = .ok (.i2l, 1) := by decide +kernel
theorem dX6_firstFrom_66 : decode cX6_firstFrom 66 = .ok (.lmul, 1) := by decide +kernel
theorem dX6_firstFrom_67 : decode cX6_firstFrom 67 = .ok (.ladd, 1) := by decide +kernel
theorem dX6_firstFrom_68 : decode cX6_firstFrom 68 = .ok (.lreturn, 1) := by decide +kernel
def f_X6_firstFrom_u48 (Q : Int → ml_St → Prop) (σ : ml_St) : Prop :=
Q (-1) σ
def f_X6_firstFrom_u0 (Q : Int → ml_St → Prop) (σ : ml_St) (x1 : Int) (x2 : Int) : Prop :=
f_X6_loopsOf σ x1 (fun r1 σ1 => ∀ _ : I64 r1,
∀ y3 : Int, y3 = w64 (x2 - r1) →
(y3 ≠ 0 →
(y3 < 0 →
f_X6_firstFrom_u48 Q σ1) ∧
(¬ (y3 < 0) →
∀ _ : I64 (σ1 46 8),
(((σ1 46 8) : Int) ≤ 0 →
f_X6_firstFrom_u48 Q σ1) ∧
(¬ (((σ1 46 8) : Int) ≤ 0) →
∀ _ : I64 (σ1 46 8),
((σ1 46 8) : Int) ≠ 0 ∧
(((Int.tmod y3 (σ1 46 8)) : Int) = 0 →
∀ _ : I64 (σ1 46 8),
((σ1 46 8) : Int) ≠ 0 ∧
∀ _ : I32 (σ1 46 7),
Q (w64 (x1 + (w64 ((w64 (Int.tdiv y3 (σ1 46 8))) * (σ1 46 7))))) σ1) ∧
((Int.tmod y3 (σ1 46 8)) ≠ 0 →
f_X6_firstFrom_u48 Q σ1)))) ∧
(y3 = 0 →
Q x1 σ1))
def f_X6_firstFrom (σ : ml_St) (x1 : Int) (x2 : Int) (Q : Int → ml_St → Prop) : Prop := f_X6_firstFrom_u0 Q σ x1 x2
def rm_X6_firstFrom : Room := { frames := 1, cells := 0, slots := 0, locals := 26 }
set_option maxRecDepth 100000 in
set_option maxHeartbeats 4000000 in
theorem u_X6_firstFrom_48 {p : Program} {e : Env} {s : State} {m : MethodId} {args : Array Value} {below : List Frame} {meth : Method} {c : Code} {base : Nat} {D : va_G} {cA : Nat → ClassId} {n : Nat} {l : Launch} {Q : Int → ml_St → Prop} (X : ml_X p s m c meth args D cA cX6_firstFrom 6 RX6 (some .long)) (hn : 214 ≤ n) (σ : ml_St) (ls : Array Slot) (hl : lv_has ls 6 []) (hw : f_X6_firstFrom_u48 Q σ) : ml_V p l e rm_X6_firstFrom s m args below meth c (MQ below (ml_Ql base D cA n Q) args s 0 0 (ml_A base)) base D cA 0 0 n n σ (F0 m 48 ls []) := by
  unfold f_X6_firstFrom_u48 at hw
  refine ml_ldc2 (pc := 48) (v := (-1)) X dX6_firstFrom_48 tc_3_224 ?_
  exact ml_lret (pc := 51) X ⟨by decide, by decide⟩ hw dX6_firstFrom_51
set_option maxRecDepth 100000 in
set_option maxHeartbeats 4000000 in
theorem u_X6_firstFrom_0 {p : Program} {e : Env} {s : State} {m : MethodId} {args : Array Value} {below : List Frame} {meth : Method} {c : Code} {base : Nat} {D : va_G} {cA : Nat → ClassId} {n : Nat} {l : Launch} {Q : Int → ml_St → Prop} (X : ml_X p s m c meth args D cA cX6_firstFrom 6 RX6 (some .long)) (hn : 214 ≤ n) (σ : ml_St) (x1 : Int) (x2 : Int) (h_x1 : I32 x1) (h_x2 : I64 x2) (ls : Array Slot) (hl : lv_has ls 6 [(0, .ref (base + (46 : Int).toNat)), (1, .int (Int32.ofInt x1)), (2, .long (Int64.ofInt x2))]) (hw : f_X6_firstFrom_u0 Q σ x1 x2) : ml_V p l e rm_X6_firstFrom s m args below meth c (MQ below (ml_Ql base D cA n Q) args s 0 0 (ml_A base)) base D cA 0 0 n n σ (F0 m 0 ls []) := by
  unfold f_X6_firstFrom_u0 at hw
  refine ml_lload_n (pc := 0) X hl 2 rfl rfl dX6_firstFrom_0 ?_
  refine ml_aload_n (pc := 1) X hl 0 rfl rfl dX6_firstFrom_1 ?_
  refine ml_iload_n (pc := 2) X hl 1 rfl rfl dX6_firstFrom_2 ?_
  refine ml_i2l (pc := 3) X h_x1 dX6_firstFrom_3 ?_
  refine ml_calllV (pc := 4) (rest := [.long (Int64.ofInt x2)]) X [.long (Int64.ofInt x1)] (by decide) rfl (ml_c46 hn) (c_X6_loopsOf l base D cA n hn σ x1 (h_x1).l _ hw) cv_X6_80 ⟨rfl, rfl⟩ ⟨by decide, by decide⟩ rfl rfl hl (Nat.le_of_ble_eq_true rfl) ⟨Nat.zero_le _, Nat.zero_le _⟩ dX6_firstFrom_4 (fun r1 σ1 t1 hw => ?_)
  have hw := hw t1
  refine ml_lsubW (pc := 7) X dX6_firstFrom_7 ?_
  refine ml_topL (pc := 8) (fun y3 e3 => ?_)
  have hw := hw y3 e3
  have q3 : I64 y3 := by rw [e3]; exact (w64_r _)
  refine ml_lstore (pc := 8) X hl (by decide) (lst' := [(4, .long (Int64.ofInt y3)), (0, .ref (base + (46 : Int).toNat)), (1, .int (Int32.ofInt x1)), (2, .long (Int64.ofInt x2))]) rfl dX6_firstFrom_8 (fun ls hl => ?_)
  refine ml_lload (pc := 10) X hl 0 rfl dX6_firstFrom_10 ?_
  refine ml_lconst0 (pc := 12) X dX6_firstFrom_12 ?_
  refine ml_lcmp_ne (pc := 13) (tgt := 20) X q3 ⟨by decide, by decide⟩ dX6_firstFrom_13 dX6_firstFrom_14 (by decide) (fun c4 => ?_) (fun c4 => ?_)
  · have hw := hw.1 c4
    refine ml_lload (pc := 20) X hl 0 rfl dX6_firstFrom_20 ?_
    refine ml_lconst0 (pc := 22) X dX6_firstFrom_22 ?_
    refine ml_lcmp_lt (pc := 23) (tgt := 48) X q3 ⟨by decide, by decide⟩ dX6_firstFrom_23 dX6_firstFrom_24 (by decide) (fun c5 => ?_) (fun c5 => ?_)
    · have hw := hw.1 c5
      exact u_X6_firstFrom_48 X hn σ1   _ (lv_sub hl [] rfl) hw
    · have hw := hw.2 c5
      refine ml_aload_n (pc := 27) X hl 1 rfl rfl dX6_firstFrom_27 ?_
      refine gf_X6_43 (pc := 28) X (ml_c46 hn) dX6_firstFrom_28 (fun r6 => ?_)
      have hw := hw r6
      refine ml_lconst0 (pc := 31) X dX6_firstFrom_31 ?_
      refine ml_lcmp_le (pc := 32) (tgt := 48) X r6 ⟨by decide, by decide⟩ dX6_firstFrom_32 dX6_firstFrom_33 (by decide) (fun c7 => ?_) (fun c7 => ?_)
      · have hw := hw.1 c7
        exact u_X6_firstFrom_48 X hn σ1   _ (lv_sub hl [] rfl) hw
      · have hw := hw.2 c7
        refine ml_lload (pc := 36) X hl 0 rfl dX6_firstFrom_36 ?_
        refine ml_aload_n (pc := 38) X hl 1 rfl rfl dX6_firstFrom_38 ?_
        refine gf_X6_43 (pc := 39) X (ml_c46 hn) dX6_firstFrom_39 (fun r8 => ?_)
        have hw := hw r8
        obtain ⟨z9, hw⟩ := hw
        refine ml_lrem (pc := 42) X q3 r8 z9 dX6_firstFrom_42 ?_
        refine ml_lconst0 (pc := 43) X dX6_firstFrom_43 ?_
        refine ml_lcmp_eq (pc := 44) (tgt := 52) X (ml_tmod_r q3) ⟨by decide, by decide⟩ dX6_firstFrom_44 dX6_firstFrom_45 (by decide) (fun c10 => ?_) (fun c10 => ?_)
        · have hw := hw.1 c10
          refine ml_iload_n (pc := 52) X hl 2 rfl rfl dX6_firstFrom_52 ?_
          refine ml_i2l (pc := 53) X h_x1 dX6_firstFrom_53 ?_
          refine ml_lload (pc := 54) X hl 0 rfl dX6_firstFrom_54 ?_
          refine ml_aload_n (pc := 56) X hl 1 rfl rfl dX6_firstFrom_56 ?_
          refine gf_X6_43 (pc := 57) X (ml_c46 hn) dX6_firstFrom_57 (fun r11 => ?_)
          have hw := hw r11
          obtain ⟨z12, hw⟩ := hw
          refine ml_ldivW (pc := 60) X q3 r11 z12 dX6_firstFrom_60 ?_
          refine ml_aload_n (pc := 61) X hl 1 rfl rfl dX6_firstFrom_61 ?_
          refine gf_X6_40 (pc := 62) X (ml_c46 hn) dX6_firstFrom_62 (fun r13 => ?_)
          have hw := hw r13
          refine ml_i2l (pc := 65) X r13 dX6_firstFrom_65 ?_
          refine ml_lmulW (pc := 66) X dX6_firstFrom_66 ?_
          refine ml_laddW (pc := 67) X dX6_firstFrom_67 ?_
          exact ml_lret (pc := 68) X (w64_r _) hw dX6_firstFrom_68
        · have hw := hw.2 c10
          exact u_X6_firstFrom_48 X hn σ1   _ (lv_sub hl [] rfl) hw
  · have hw := hw.2 c4
    refine ml_iload_n (pc := 17) X hl 2 rfl rfl dX6_firstFrom_17 ?_
    refine ml_i2l (pc := 18) X h_x1 dX6_firstFrom_18 ?_
    exact ml_lret (pc := 19) X (h_x1).l hw dX6_firstFrom_19
set_option maxRecDepth 100000 in
theorem c_X6_firstFrom (l : Launch) (base : Nat) (D : va_G) (cA : Nat → ClassId) (n : Nat) (hn : 214 ≤ n) (σ : ml_St) (x1 : Int) (x2 : Int) (h_x1 : I32 x1) (h_x2 : I64 x2) (Q : Int → ml_St → Prop) (hw : f_X6_firstFrom σ x1 x2 Q) : Met l yX6_firstFrom (Cond.code yX6_firstFrom cX6_firstFrom 6 (some .long) :: ml_T) rm_X6_firstFrom (va_Pc [.ref (base + (46 : Int).toNat), .int (Int32.ofInt x1), .long (Int64.ofInt x2)] (ml_U base D cA n σ)) (ml_Ql base D cA n Q) 0 0 (ml_A base) := by
  refine Met.ofW (cc := cX6_firstFrom) (maxL := 6) (ret := (some .long)) (by decide) rfl ?_
  intro p e s m args below meth c s₁ B hml hv
  obtain ⟨rfl, hP, hK, hok, hro⟩ := hv
  have X : ml_X p s m c meth _ D cA cX6_firstFrom 6 RX6 (some .long) := ⟨B.exec, B.bytes, hml, findClass_of_methodNamed B.named, fun w hw => atoms_spec (ws := Cond.code yX6_firstFrom cX6_firstFrom 6 (some .long) :: ml_T) B.pre w (List.mem_cons_of_mem _ hw), hK, B.notSynchronized, B.returns⟩
  have hl := lv_entry [.ref (base + (46 : Int).toNat), .int (Int32.ofInt x1), .long (Int64.ofInt x2)] (n := 6) (Nat.le_of_ble_eq_true rfl)
  rw [lg_entry_eq]
  generalize (lg_sl [.ref (base + (46 : Int).toNat), .int (Int32.ofInt x1), .long (Int64.ofInt x2)] ++ List.replicate (6 - (lg_sl [.ref (base + (46 : Int).toNat), .int (Int32.ofInt x1), .long (Int64.ofInt x2)]).length) Slot.unset).toArray = ls at hl ⊢
  have hl : lv_has ls 6 [(0, .ref (base + (46 : Int).toNat)), (1, .int (Int32.ofInt x1)), (2, .long (Int64.ofInt x2))] := hl
  unfold f_X6_firstFrom at hw
  exact u_X6_firstFrom_0 X hn σ x1 x2 h_x1 h_x2 _ (lv_sub hl [0, 1, 2] rfl) hw s.heap [] hP va_S.rf hok hro
theorem dX6_howManyFrom_0 : decode cX6_howManyFrom 0 = .ok (.aload_n 0, 1) := by decide +kernel
theorem dX6_howManyFrom_1 : decode cX6_howManyFrom 1 = .ok (.iload_n 1, 1) := by decide +kernel
theorem dX6_howManyFrom_2 : decode cX6_howManyFrom 2 = .ok (.lload_n 2, 1) := by decide +kernel
theorem dX6_howManyFrom_3 : decode cX6_howManyFrom 3 = .ok (.invokevirtual 88, 3) := by decide +kernel
theorem dX6_howManyFrom_6 : decode cX6_howManyFrom 6 = .ok (.lstore 8, 2) := by decide +kernel
theorem dX6_howManyFrom_8 : decode cX6_howManyFrom 8 = .ok (.lload 8, 2) := by decide +kernel
theorem dX6_howManyFrom_10 : decode cX6_howManyFrom 10 = .ok (.ldc2_w 92, 3) := by decide +kernel
theorem dX6_howManyFrom_13 : decode cX6_howManyFrom 13 = .ok (.lcmp, 1) := by decide +kernel
theorem dX6_howManyFrom_14 : decode cX6_howManyFrom 14 = .ok (.ifCond .eq 11, 3) := by decide +kernel
theorem dX6_howManyFrom_17 : decode cX6_howManyFrom 17 = .ok (.lload 8, 2) := by decide +kernel
theorem dX6_howManyFrom_19 : decode cX6_howManyFrom 19 = .ok (.lload 6, 2) := by decide +kernel
theorem dX6_howManyFrom_21 : decode cX6_howManyFrom 21 = .ok (.lcmp, 1) := by decide +kernel
theorem dX6_howManyFrom_22 : decode cX6_howManyFrom 22 = .ok (.ifCond .le 5, 3) := by decide +kernel
theorem dX6_howManyFrom_25 : decode cX6_howManyFrom 25 = .ok (.lconst 0, 1) := by decide +kernel
theorem dX6_howManyFrom_26 : decode cX6_howManyFrom 26 = .ok (.lreturn, 1) := by decide +kernel
theorem dX6_howManyFrom_27 : decode cX6_howManyFrom 27 = .ok (.aload_n 0, 1) := by decide +kernel
theorem dX6_howManyFrom_28 : decode cX6_howManyFrom 28 = .ok (.getfield 43, 3) := by decide +kernel
theorem dX6_howManyFrom_31 : decode cX6_howManyFrom 31 = .ok (.lconst 0, 1) := by decide +kernel
theorem dX6_howManyFrom_32 : decode cX6_howManyFrom 32 = .ok (.lcmp, 1) := by decide +kernel
theorem dX6_howManyFrom_33 : decode cX6_howManyFrom 33 = .ok (.ifCond .le 17, 3) := by decide +kernel
theorem dX6_howManyFrom_36 : decode cX6_howManyFrom 36 = .ok (.lload 8, 2) := by decide +kernel
theorem dX6_howManyFrom_38 : decode cX6_howManyFrom 38 = .ok (.lload 4, 2) := by decide +kernel
theorem dX6_howManyFrom_40 : decode cX6_howManyFrom 40 = .ok (.lcmp, 1) := by decide +kernel
theorem dX6_howManyFrom_41 : decode cX6_howManyFrom 41 = .ok (.ifCond .lt 7, 3) := by decide +kernel
theorem dX6_howManyFrom_44 : decode cX6_howManyFrom 44 = .ok (.lconst 1, 1) := by decide +kernel
theorem dX6_howManyFrom_45 : decode cX6_howManyFrom 45 = .ok (.goto 4, 3) := by decide +kernel
theorem dX6_howManyFrom_48 : decode cX6_howManyFrom 48 = .ok (.lconst 0, 1) := by decide +kernel
theorem dX6_howManyFrom_49 : decode cX6_howManyFrom 49 = .ok (.lreturn, 1) := by decide +kernel
theorem dX6_howManyFrom_50 : decode cX6_howManyFrom 50 = .ok (.lload 4, 2) := by decide +kernel
theorem dX6_howManyFrom_52 : decode cX6_howManyFrom 52 = .ok (.lload 8, 2) := by decide +kernel
theorem dX6_howManyFrom_54 : decode cX6_howManyFrom 54 = .ok (.lcmp, 1) := by decide +kernel
theorem dX6_howManyFrom_55 : decode cX6_howManyFrom 55 = .ok (.ifCond .gt 8, 3) := by decide +kernel
theorem dX6_howManyFrom_58 : decode cX6_howManyFrom 58 = .ok (.lload 8, 2) := by decide +kernel
theorem dX6_howManyFrom_60 : decode cX6_howManyFrom 60 = .ok (.goto 31, 3) := by decide +kernel
theorem dX6_howManyFrom_63 : decode cX6_howManyFrom 63 = .ok (.lload 8, 2) := by decide +kernel
theorem dX6_howManyFrom_65 : decode cX6_howManyFrom 65 = .ok (.lload 4, 2) := by decide +kernel
theorem dX6_howManyFrom_67 : decode cX6_howManyFrom 67 = .ok (.lload 8, 2) := by decide +kernel
theorem dX6_howManyFrom_69 : decode cX6_howManyFrom 69 = .ok (.lsub, 1) := by decide +kernel
theorem dX6_howManyFrom_70 : decode cX6_howManyFrom 70 = .ok (.aload_n 0, 1) := by decide +kernel
theorem dX6_howManyFrom_71 : decode cX6_howManyFrom 71 = .ok (.getfield 40, 3) := by decide +kernel
theorem dX6_howManyFrom_74 : decode cX6_howManyFrom 74 = .ok (.i2l, 1) := by decide +kernel
theorem dX6_howManyFrom_75 : decode cX6_howManyFrom 75 = .ok (.ladd, 1) := by decide +kernel
theorem dX6_howManyFrom_76 : decode cX6_howManyFrom 76 = .ok (.lconst 1, 1) := by decide +kernel
theorem dX6_howManyFrom_77 : decode cX6_howManyFrom 77 = .ok (.lsub, 1) := by decide +kernel
theorem dX6_howManyFrom_78 : decode cX6_howManyFrom 78 = .ok (.aload_n 0, 1) := by decide +kernel
theorem dX6_howManyFrom_79 : decode cX6_howManyFrom 79 = .ok (.getfield 40, 3) := by decide +kernel
theorem dX6_howManyFrom_82 : decode cX6_howManyFrom 82 = .ok (.i2l, 1) := by decide +kernel
theorem dX6_howManyFrom_83 : decode cX6_howManyFrom 83 = .ok (.ldiv, 1) := by decide +kernel
theorem dX6_howManyFrom_84 : decode cX6_howManyFrom 84 = .ok (.aload_n 0, 1) := by decide +kernel
theorem dX6_howManyFrom_85 : decode cX6_howManyFrom 85 = .ok (.getfield 40, 3) := by decide +kernel
theorem dX6_howManyFrom_88 : decode cX6_howManyFrom 88 = .ok (.i2l, 1) := by decide +kernel
theorem dX6_howManyFrom_89 : decode cX6_howManyFrom 89 = .ok (.lmul, 1) := by decide +kernel
theorem dX6_howManyFrom_90 : decode cX6_howManyFrom 90 = .ok (.ladd, 1) := by decide +kernel
theorem dX6_howManyFrom_91 : decode cX6_howManyFrom 91 = .ok (.lstore 10, 2) := by decide +kernel
theorem dX6_howManyFrom_93 : decode cX6_howManyFrom 93 = .ok (.lload 10, 2) := by decide +kernel
theorem dX6_howManyFrom_95 : decode cX6_howManyFrom 95 = .ok (.lload 6, 2) := by decide +kernel
theorem dX6_howManyFrom_97 : decode cX6_howManyFrom 97 = .ok (.lcmp, 1) := by decide +kernel
theorem dX6_howManyFrom_98 : decode cX6_howManyFrom 98 = .ok (.ifCond .le 7, 3) := by decide +kernel
theorem dX6_howManyFrom_101 : decode cX6_howManyFrom 101 = .ok (.lconst 0, 1) := by decide +kernel
theorem dX6_howManyFrom_102 : decode cX6_howManyFrom 102 = .ok (.goto 16, 3) := by decide +kernel
theorem dX6_howManyFrom_105 : decode cX6_howManyFrom 105 = .ok (.lload 6, 2) := by decide +kernel
theorem dX6_howManyFrom_107 : decode cX6_howManyFrom 107 = .ok (.lload 10, 2) := by decide +kernel
theorem dX6_howManyFrom_109 : decode cX6_howManyFrom 109 = .ok (.lsub, 1) := by decide +kernel
theorem dX6_howManyFrom_110 : decode cX6_howManyFrom 110 = .ok (.aload_n 0, 1) := by decide +kernel
theorem dX6_howManyFrom_111 : decode cX6_howManyFrom 111 = .ok (.getfield 40, 3) := by decide +kernel
theorem dX6_howManyFrom_114 : decode cX6_howManyFrom 114 = .ok (.i2l, 1) := by decide +kernel
theorem dX6_howManyFrom_115 : decode cX6_howManyFrom 115 = .ok (.ldiv, 1) := by decide +kernel
theorem dX6_howManyFrom_116 : decode cX6_howManyFrom 116 = .ok (.lconst 1, 1) := by decide +kernel
theorem dX6_howManyFrom_117 : decode cX6_howManyFrom 117 = .ok (.ladd, 1) := by decide +kernel
theorem dX6_howManyFrom_118 : decode cX6_howManyFrom 118 = .ok (.lreturn, 1) := by decide +kernel
def f_X6_howManyFrom_u25 (Q : Int → ml_St → Prop) (σ : ml_St) : Prop :=
Q 0 σ
def f_X6_howManyFrom_u49 (Q : Int → ml_St → Prop) (σ : ml_St) (s0 : Int) : Prop :=
Q s0 σ
def f_X6_howManyFrom_u118 (Q : Int → ml_St → Prop) (σ : ml_St) (s0 : Int) : Prop :=
Q s0 σ
def f_X6_howManyFrom_u91 (Q : Int → ml_St → Prop) (σ : ml_St) (x6 : Int) (s0 : Int) : Prop :=
(s0 ≤ x6 →
∀ _ : I32 (σ 46 7),
((σ 46 7) : Int) ≠ 0 ∧
f_X6_howManyFrom_u118 Q σ (w64 ((w64 (Int.tdiv (w64 (x6 - s0)) (σ 46 7))) + 1))) ∧
(¬ (s0 ≤ x6) →
f_X6_howManyFrom_u118 Q σ 0)
def f_X6_howManyFrom_u0 (Q : Int → ml_St → Prop) (σ : ml_St) (x1 : Int) (x2 : Int) (x4 : Int) (x6 : Int) : Prop :=
f_X6_firstFrom σ x1 x2 (fun r1 σ1 => ∀ _ : I64 r1,
(r1 = (-1) →
f_X6_howManyFrom_u25 Q σ1) ∧
(r1 ≠ (-1) →
(r1 ≤ x6 →
∀ _ : I64 (σ1 46 8),
(((σ1 46 8) : Int) ≤ 0 →
(r1 < x4 →
∀ _ : I32 (σ1 46 7),
∀ _ : I32 (σ1 46 7),
((σ1 46 7) : Int) ≠ 0 ∧
∀ _ : I32 (σ1 46 7),
f_X6_howManyFrom_u91 Q σ1 x6 (w64 (r1 + (w64 ((w64 (Int.tdiv (w64 ((w64 ((w64 (x4 - r1)) + (σ1 46 7))) - 1)) (σ1 46 7))) * (σ1 46 7)))))) ∧
(¬ (r1 < x4) →
f_X6_howManyFrom_u91 Q σ1 x6 r1)) ∧
(¬ (((σ1 46 8) : Int) ≤ 0) →
(r1 < x4 →
f_X6_howManyFrom_u49 Q σ1 0) ∧
(¬ (r1 < x4) →
f_X6_howManyFrom_u49 Q σ1 1))) ∧
(¬ (r1 ≤ x6) →
f_X6_howManyFrom_u25 Q σ1)))
def f_X6_howManyFrom (σ : ml_St) (x1 : Int) (x2 : Int) (x4 : Int) (x6 : Int) (Q : Int → ml_St → Prop) : Prop := f_X6_howManyFrom_u0 Q σ x1 x2 x4 x6
def rm_X6_howManyFrom : Room := { frames := 2, cells := 0, slots := 0, locals := 51 }
set_option maxRecDepth 100000 in
set_option maxHeartbeats 4000000 in
theorem u_X6_howManyFrom_25 {p : Program} {e : Env} {s : State} {m : MethodId} {args : Array Value} {below : List Frame} {meth : Method} {c : Code} {base : Nat} {D : va_G} {cA : Nat → ClassId} {n : Nat} {l : Launch} {Q : Int → ml_St → Prop} (X : ml_X p s m c meth args D cA cX6_howManyFrom 12 RX6 (some .long)) (hn : 214 ≤ n) (σ : ml_St) (ls : Array Slot) (hl : lv_has ls 12 []) (hw : f_X6_howManyFrom_u25 Q σ) : ml_V p l e rm_X6_howManyFrom s m args below meth c (MQ below (ml_Ql base D cA n Q) args s 0 0 (ml_A base)) base D cA 0 0 n n σ (F0 m 25 ls []) := by
  unfold f_X6_howManyFrom_u25 at hw
  refine ml_lconst0 (pc := 25) X dX6_howManyFrom_25 ?_
  exact ml_lret (pc := 26) X ⟨by decide, by decide⟩ hw dX6_howManyFrom_26
set_option maxRecDepth 100000 in
set_option maxHeartbeats 4000000 in
theorem u_X6_howManyFrom_49 {p : Program} {e : Env} {s : State} {m : MethodId} {args : Array Value} {below : List Frame} {meth : Method} {c : Code} {base : Nat} {D : va_G} {cA : Nat → ClassId} {n : Nat} {l : Launch} {Q : Int → ml_St → Prop} (X : ml_X p s m c meth args D cA cX6_howManyFrom 12 RX6 (some .long)) (hn : 214 ≤ n) (σ : ml_St) (s0 : Int) (h_s0 : I64 s0) (ls : Array Slot) (hl : lv_has ls 12 []) (hw : f_X6_howManyFrom_u49 Q σ s0) : ml_V p l e rm_X6_howManyFrom s m args below meth c (MQ below (ml_Ql base D cA n Q) args s 0 0 (ml_A base)) base D cA 0 0 n n σ (F0 m 49 ls [.long (Int64.ofInt s0)]) := by
  unfold f_X6_howManyFrom_u49 at hw
  exact ml_lret (pc := 49) X h_s0 hw dX6_howManyFrom_49
set_option maxRecDepth 100000 in
set_option maxHeartbeats 4000000 in
theorem u_X6_howManyFrom_118 {p : Program} {e : Env} {s : State} {m : MethodId} {args : Array Value} {below : List Frame} {meth : Method} {c : Code} {base : Nat} {D : va_G} {cA : Nat → ClassId} {n : Nat} {l : Launch} {Q : Int → ml_St → Prop} (X : ml_X p s m c meth args D cA cX6_howManyFrom 12 RX6 (some .long)) (hn : 214 ≤ n) (σ : ml_St) (s0 : Int) (h_s0 : I64 s0) (ls : Array Slot) (hl : lv_has ls 12 []) (hw : f_X6_howManyFrom_u118 Q σ s0) : ml_V p l e rm_X6_howManyFrom s m args below meth c (MQ below (ml_Ql base D cA n Q) args s 0 0 (ml_A base)) base D cA 0 0 n n σ (F0 m 118 ls [.long (Int64.ofInt s0)]) := by
  unfold f_X6_howManyFrom_u118 at hw
  exact ml_lret (pc := 118) X h_s0 hw dX6_howManyFrom_118
set_option maxRecDepth 100000 in
set_option maxHeartbeats 4000000 in
theorem u_X6_howManyFrom_91 {p : Program} {e : Env} {s : State} {m : MethodId} {args : Array Value} {below : List Frame} {meth : Method} {c : Code} {base : Nat} {D : va_G} {cA : Nat → ClassId} {n : Nat} {l : Launch} {Q : Int → ml_St → Prop} (X : ml_X p s m c meth args D cA cX6_howManyFrom 12 RX6 (some .long)) (hn : 214 ≤ n) (σ : ml_St) (x6 : Int) (s0 : Int) (h_x6 : I64 x6) (h_s0 : I64 s0) (ls : Array Slot) (hl : lv_has ls 12 [(0, .ref (base + (46 : Int).toNat)), (6, .long (Int64.ofInt x6))]) (hw : f_X6_howManyFrom_u91 Q σ x6 s0) : ml_V p l e rm_X6_howManyFrom s m args below meth c (MQ below (ml_Ql base D cA n Q) args s 0 0 (ml_A base)) base D cA 0 0 n n σ (F0 m 91 ls [.long (Int64.ofInt s0)]) := by
  unfold f_X6_howManyFrom_u91 at hw
  refine ml_lstore (pc := 91) X hl (by decide) (lst' := [(10, .long (Int64.ofInt s0)), (0, .ref (base + (46 : Int).toNat)), (6, .long (Int64.ofInt x6))]) rfl dX6_howManyFrom_91 (fun ls hl => ?_)
  refine ml_lload (pc := 93) X hl 0 rfl dX6_howManyFrom_93 ?_
  refine ml_lload (pc := 95) X hl 2 rfl dX6_howManyFrom_95 ?_
  refine ml_lcmp_le (pc := 97) (tgt := 105) X h_s0 h_x6 dX6_howManyFrom_97 dX6_howManyFrom_98 (by decide) (fun c1 => ?_) (fun c1 => ?_)
  · have hw := hw.1 c1
    refine ml_lload (pc := 105) X hl 2 rfl dX6_howManyFrom_105 ?_
    refine ml_lload (pc := 107) X hl 0 rfl dX6_howManyFrom_107 ?_
    refine ml_lsubW (pc := 109) X dX6_howManyFrom_109 ?_
    refine ml_aload_n (pc := 110) X hl 1 rfl rfl dX6_howManyFrom_110 ?_
    refine gf_X6_40 (pc := 111) X (ml_c46 hn) dX6_howManyFrom_111 (fun r3 => ?_)
    have hw := hw r3
    refine ml_i2l (pc := 114) X r3 dX6_howManyFrom_114 ?_
    obtain ⟨z4, hw⟩ := hw
    refine ml_ldivW (pc := 115) X (w64_r _) (r3).l z4 dX6_howManyFrom_115 ?_
    refine ml_lconst1 (pc := 116) X dX6_howManyFrom_116 ?_
    refine ml_laddW (pc := 117) X dX6_howManyFrom_117 ?_
    exact u_X6_howManyFrom_118 X hn σ (w64 ((w64 (Int.tdiv (w64 (x6 - s0)) (σ 46 7))) + 1)) (w64_r _) _ (lv_sub hl [] rfl) hw
  · have hw := hw.2 c1
    refine ml_lconst0 (pc := 101) X dX6_howManyFrom_101 ?_
    refine ml_goto (pc := 102) (tgt := 118) X dX6_howManyFrom_102 (by decide) ?_
    exact u_X6_howManyFrom_118 X hn σ 0 ⟨by decide, by decide⟩ _ (lv_sub hl [] rfl) hw
set_option maxRecDepth 100000 in
set_option maxHeartbeats 4000000 in
theorem u_X6_howManyFrom_0 {p : Program} {e : Env} {s : State} {m : MethodId} {args : Array Value} {below : List Frame} {meth : Method} {c : Code} {base : Nat} {D : va_G} {cA : Nat → ClassId} {n : Nat} {l : Launch} {Q : Int → ml_St → Prop} (X : ml_X p s m c meth args D cA cX6_howManyFrom 12 RX6 (some .long)) (hn : 214 ≤ n) (σ : ml_St) (x1 : Int) (x2 : Int) (x4 : Int) (x6 : Int) (h_x1 : I32 x1) (h_x2 : I64 x2) (h_x4 : I64 x4) (h_x6 : I64 x6) (ls : Array Slot) (hl : lv_has ls 12 [(0, .ref (base + (46 : Int).toNat)), (1, .int (Int32.ofInt x1)), (2, .long (Int64.ofInt x2)), (4, .long (Int64.ofInt x4)), (6, .long (Int64.ofInt x6))]) (hw : f_X6_howManyFrom_u0 Q σ x1 x2 x4 x6) : ml_V p l e rm_X6_howManyFrom s m args below meth c (MQ below (ml_Ql base D cA n Q) args s 0 0 (ml_A base)) base D cA 0 0 n n σ (F0 m 0 ls []) := by
  unfold f_X6_howManyFrom_u0 at hw
  refine ml_aload_n (pc := 0) X hl 0 rfl rfl dX6_howManyFrom_0 ?_
  refine ml_iload_n (pc := 1) X hl 1 rfl rfl dX6_howManyFrom_1 ?_
  refine ml_lload_n (pc := 2) X hl 2 rfl rfl dX6_howManyFrom_2 ?_
  refine ml_calllV (pc := 3) (rest := []) X [.int (Int32.ofInt x1), .long (Int64.ofInt x2)] (by decide) rfl (ml_c46 hn) (c_X6_firstFrom l base D cA n hn σ x1 x2 h_x1 h_x2 _ hw) cv_X6_88 ⟨rfl, rfl⟩ ⟨by decide, by decide⟩ rfl rfl hl (Nat.le_of_ble_eq_true rfl) ⟨Nat.zero_le _, Nat.zero_le _⟩ dX6_howManyFrom_3 (fun r1 σ1 t1 hw => ?_)
  have hw := hw t1
  refine ml_lstore (pc := 6) X hl (by decide) (lst' := [(8, .long (Int64.ofInt r1)), (0, .ref (base + (46 : Int).toNat)), (1, .int (Int32.ofInt x1)), (2, .long (Int64.ofInt x2)), (4, .long (Int64.ofInt x4)), (6, .long (Int64.ofInt x6))]) rfl dX6_howManyFrom_6 (fun ls hl => ?_)
  refine ml_lload (pc := 8) X hl 0 rfl dX6_howManyFrom_8 ?_
  refine ml_ldc2 (pc := 10) (v := (-1)) X dX6_howManyFrom_10 tc_3_224 ?_
  refine ml_lcmp_eq (pc := 13) (tgt := 25) X t1 ⟨by decide, by decide⟩ dX6_howManyFrom_13 dX6_howManyFrom_14 (by decide) (fun c2 => ?_) (fun c2 => ?_)
  · have hw := hw.1 c2
    exact u_X6_howManyFrom_25 X hn σ1   _ (lv_sub hl [] rfl) hw
  · have hw := hw.2 c2
    refine ml_lload (pc := 17) X hl 0 rfl dX6_howManyFrom_17 ?_
    refine ml_lload (pc := 19) X hl 5 rfl dX6_howManyFrom_19 ?_
    refine ml_lcmp_le (pc := 21) (tgt := 27) X t1 h_x6 dX6_howManyFrom_21 dX6_howManyFrom_22 (by decide) (fun c3 => ?_) (fun c3 => ?_)
    · have hw := hw.1 c3
      refine ml_aload_n (pc := 27) X hl 1 rfl rfl dX6_howManyFrom_27 ?_
      refine gf_X6_43 (pc := 28) X (ml_c46 hn) dX6_howManyFrom_28 (fun r4 => ?_)
      have hw := hw r4
      refine ml_lconst0 (pc := 31) X dX6_howManyFrom_31 ?_
      refine ml_lcmp_le (pc := 32) (tgt := 50) X r4 ⟨by decide, by decide⟩ dX6_howManyFrom_32 dX6_howManyFrom_33 (by decide) (fun c5 => ?_) (fun c5 => ?_)
      · have hw := hw.1 c5
        refine ml_lload (pc := 50) X hl 4 rfl dX6_howManyFrom_50 ?_
        refine ml_lload (pc := 52) X hl 0 rfl dX6_howManyFrom_52 ?_
        refine ml_lcmp_gt (pc := 54) (tgt := 63) X h_x4 t1 dX6_howManyFrom_54 dX6_howManyFrom_55 (by decide) (fun c6 => ?_) (fun c6 => ?_)
        · have hw := hw.1 c6
          refine ml_lload (pc := 63) X hl 0 rfl dX6_howManyFrom_63 ?_
          refine ml_lload (pc := 65) X hl 4 rfl dX6_howManyFrom_65 ?_
          refine ml_lload (pc := 67) X hl 0 rfl dX6_howManyFrom_67 ?_
          refine ml_lsubW (pc := 69) X dX6_howManyFrom_69 ?_
          refine ml_aload_n (pc := 70) X hl 1 rfl rfl dX6_howManyFrom_70 ?_
          refine gf_X6_40 (pc := 71) X (ml_c46 hn) dX6_howManyFrom_71 (fun r8 => ?_)
          have hw := hw r8
          refine ml_i2l (pc := 74) X r8 dX6_howManyFrom_74 ?_
          refine ml_laddW (pc := 75) X dX6_howManyFrom_75 ?_
          refine ml_lconst1 (pc := 76) X dX6_howManyFrom_76 ?_
          refine ml_lsubW (pc := 77) X dX6_howManyFrom_77 ?_
          refine ml_aload_n (pc := 78) X hl 1 rfl rfl dX6_howManyFrom_78 ?_
          refine gf_X6_40 (pc := 79) X (ml_c46 hn) dX6_howManyFrom_79 (fun r11 => ?_)
          have hw := hw r11
          refine ml_i2l (pc := 82) X r11 dX6_howManyFrom_82 ?_
          obtain ⟨z12, hw⟩ := hw
          refine ml_ldivW (pc := 83) X (w64_r _) (r11).l z12 dX6_howManyFrom_83 ?_
          refine ml_aload_n (pc := 84) X hl 1 rfl rfl dX6_howManyFrom_84 ?_
          refine gf_X6_40 (pc := 85) X (ml_c46 hn) dX6_howManyFrom_85 (fun r13 => ?_)
          have hw := hw r13
          refine ml_i2l (pc := 88) X r13 dX6_howManyFrom_88 ?_
          refine ml_lmulW (pc := 89) X dX6_howManyFrom_89 ?_
          refine ml_laddW (pc := 90) X dX6_howManyFrom_90 ?_
          exact u_X6_howManyFrom_91 X hn σ1 x6 (w64 (r1 + (w64 ((w64 (Int.tdiv (w64 ((w64 ((w64 (x4 - r1)) + (σ1 46 7))) - 1)) (σ1 46 7))) * (σ1 46 7))))) h_x6 (w64_r _) _ (lv_sub hl [1, 5] rfl) hw
        · have hw := hw.2 c6
          refine ml_lload (pc := 58) X hl 0 rfl dX6_howManyFrom_58 ?_
          refine ml_goto (pc := 60) (tgt := 91) X dX6_howManyFrom_60 (by decide) ?_
          exact u_X6_howManyFrom_91 X hn σ1 x6 r1 h_x6 t1 _ (lv_sub hl [1, 5] rfl) hw
      · have hw := hw.2 c5
        refine ml_lload (pc := 36) X hl 0 rfl dX6_howManyFrom_36 ?_
        refine ml_lload (pc := 38) X hl 4 rfl dX6_howManyFrom_38 ?_
        refine ml_lcmp_lt (pc := 40) (tgt := 48) X t1 h_x4 dX6_howManyFrom_40 dX6_howManyFrom_41 (by decide) (fun c16 => ?_) (fun c16 => ?_)
        · have hw := hw.1 c16
          refine ml_lconst0 (pc := 48) X dX6_howManyFrom_48 ?_
          exact u_X6_howManyFrom_49 X hn σ1 0 ⟨by decide, by decide⟩ _ (lv_sub hl [] rfl) hw
        · have hw := hw.2 c16
          refine ml_lconst1 (pc := 44) X dX6_howManyFrom_44 ?_
          refine ml_goto (pc := 45) (tgt := 49) X dX6_howManyFrom_45 (by decide) ?_
          exact u_X6_howManyFrom_49 X hn σ1 1 ⟨by decide, by decide⟩ _ (lv_sub hl [] rfl) hw
    · have hw := hw.2 c3
      exact u_X6_howManyFrom_25 X hn σ1   _ (lv_sub hl [] rfl) hw
set_option maxRecDepth 100000 in
theorem c_X6_howManyFrom (l : Launch) (base : Nat) (D : va_G) (cA : Nat → ClassId) (n : Nat) (hn : 214 ≤ n) (σ : ml_St) (x1 : Int) (x2 : Int) (x4 : Int) (x6 : Int) (h_x1 : I32 x1) (h_x2 : I64 x2) (h_x4 : I64 x4) (h_x6 : I64 x6) (Q : Int → ml_St → Prop) (hw : f_X6_howManyFrom σ x1 x2 x4 x6 Q) : Met l yX6_howManyFrom (Cond.code yX6_howManyFrom cX6_howManyFrom 12 (some .long) :: ml_T) rm_X6_howManyFrom (va_Pc [.ref (base + (46 : Int).toNat), .int (Int32.ofInt x1), .long (Int64.ofInt x2), .long (Int64.ofInt x4), .long (Int64.ofInt x6)] (ml_U base D cA n σ)) (ml_Ql base D cA n Q) 0 0 (ml_A base) := by
  refine Met.ofW (cc := cX6_howManyFrom) (maxL := 12) (ret := (some .long)) (by decide) rfl ?_
  intro p e s m args below meth c s₁ B hml hv
  obtain ⟨rfl, hP, hK, hok, hro⟩ := hv
  have X : ml_X p s m c meth _ D cA cX6_howManyFrom 12 RX6 (some .long) := ⟨B.exec, B.bytes, hml, findClass_of_methodNamed B.named, fun w hw => atoms_spec (ws := Cond.code yX6_howManyFrom cX6_howManyFrom 12 (some .long) :: ml_T) B.pre w (List.mem_cons_of_mem _ hw), hK, B.notSynchronized, B.returns⟩
  have hl := lv_entry [.ref (base + (46 : Int).toNat), .int (Int32.ofInt x1), .long (Int64.ofInt x2), .long (Int64.ofInt x4), .long (Int64.ofInt x6)] (n := 12) (Nat.le_of_ble_eq_true rfl)
  rw [lg_entry_eq]
  generalize (lg_sl [.ref (base + (46 : Int).toNat), .int (Int32.ofInt x1), .long (Int64.ofInt x2), .long (Int64.ofInt x4), .long (Int64.ofInt x6)] ++ List.replicate (12 - (lg_sl [.ref (base + (46 : Int).toNat), .int (Int32.ofInt x1), .long (Int64.ofInt x2), .long (Int64.ofInt x4), .long (Int64.ofInt x6)]).length) Slot.unset).toArray = ls at hl ⊢
  have hl : lv_has ls 12 [(0, .ref (base + (46 : Int).toNat)), (1, .int (Int32.ofInt x1)), (2, .long (Int64.ofInt x2)), (4, .long (Int64.ofInt x4)), (6, .long (Int64.ofInt x6))] := hl
  unfold f_X6_howManyFrom at hw
  exact u_X6_howManyFrom_0 X hn σ x1 x2 x4 x6 h_x1 h_x2 h_x4 h_x6 _ (lv_sub hl [0, 1, 2, 3, 4] rfl) hw s.heap [] hP va_S.rf hok hro
theorem dX6_howMany_0 : decode cX6_howMany 0 = .ok (.lconst 0, 1) := by decide +kernel
theorem dX6_howMany_1 : decode cX6_howMany 1 = .ok (.lstore 7, 2) := by decide +kernel
theorem dX6_howMany_3 : decode cX6_howMany 3 = .ok (.iconst 1, 1) := by decide +kernel
theorem dX6_howMany_4 : decode cX6_howMany 4 = .ok (.istore 9, 2) := by decide +kernel
theorem dX6_howMany_6 : decode cX6_howMany 6 = .ok (.iload 9, 2) := by decide +kernel
theorem dX6_howMany_8 : decode cX6_howMany 8 = .ok (.aload_n 0, 1) := by decide +kernel
theorem dX6_howMany_9 : decode cX6_howMany 9 = .ok (.getfield 46, 3) := by decide +kernel
theorem dX6_howMany_12 : decode cX6_howMany 12 = .ok (.if_icmp .ge 44, 3) := by decide +kernel
theorem dX6_howMany_15 : decode cX6_howMany 15 = .ok (.aload_n 0, 1) := by decide +kernel
theorem dX6_howMany_16 : decode cX6_howMany 16 = .ok (.iload 9, 2) := by decide +kernel
theorem dX6_howMany_18 : decode cX6_howMany 18 = .ok (.i2l, 1) := by decide +kernel
theorem dX6_howMany_19 : decode cX6_howMany 19 = .ok (.invokevirtual 80, 3) := by decide +kernel
theorem dX6_howMany_22 : decode cX6_howMany 22 = .ok (.lload_n 1, 1) := by decide +kernel
theorem dX6_howMany_23 : decode cX6_howMany 23 = .ok (.lcmp, 1) := by decide +kernel
theorem dX6_howMany_24 : decode cX6_howMany 24 = .ok (.ifCond .ne 26, 3) := by decide +kernel
theorem dX6_howMany_27 : decode cX6_howMany 27 = .ok (.lload_n 3, 1) := by decide +kernel
theorem dX6_howMany_28 : decode cX6_howMany 28 = .ok (.iload 9, 2) := by decide +kernel
theorem dX6_howMany_30 : decode cX6_howMany 30 = .ok (.i2l, 1) := by decide +kernel
theorem dX6_howMany_31 : decode cX6_howMany 31 = .ok (.lcmp, 1) := by decide +kernel
theorem dX6_howMany_32 : decode cX6_howMany 32 = .ok (.ifCond .gt 18, 3) := by decide +kernel
theorem dX6_howMany_35 : decode cX6_howMany 35 = .ok (.iload 9, 2) := by decide +kernel
theorem dX6_howMany_37 : decode cX6_howMany 37 = .ok (.i2l, 1) := by decide +kernel
theorem dX6_howMany_38 : decode cX6_howMany 38 = .ok (.lload 5, 2) := by decide +kernel
theorem dX6_howMany_40 : decode cX6_howMany 40 = .ok (.lcmp, 1) := by decide +kernel
theorem dX6_howMany_41 : decode cX6_howMany 41 = .ok (.ifCond .gt 9, 3) := by decide +kernel
theorem dX6_howMany_44 : decode cX6_howMany 44 = .ok (.lload 7, 2) := by decide +kernel
theorem dX6_howMany_46 : decode cX6_howMany 46 = .ok (.lconst 1, 1) := by decide +kernel
theorem dX6_howMany_47 : decode cX6_howMany 47 = .ok (.ladd, 1) := by decide +kernel
theorem dX6_howMany_48 : decode cX6_howMany 48 = .ok (.lstore 7, 2) := by decide +kernel
theorem dX6_howMany_50 : decode cX6_howMany 50 = .ok (.iinc 9 1, 3) := by decide +kernel
theorem dX6_howMany_53 : decode cX6_howMany 53 = .ok (.goto (-47), 3) := by decide +kernel
theorem dX6_howMany_56 : decode cX6_howMany 56 = .ok (.iconst 0, 1) := by decide +kernel
theorem dX6_howMany_57 : decode cX6_howMany 57 = .ok (.istore 9, 2) := by decide +kernel
theorem dX6_howMany_59 : decode cX6_howMany 59 = .ok (.iload 9, 2) := by decide +kernel
theorem dX6_howMany_61 : decode cX6_howMany 61 = .ok (.aload_n 0, 1) := by decide +kernel
theorem dX6_howMany_62 : decode cX6_howMany 62 = .ok (.getfield 40, 3) := by decide +kernel
theorem dX6_howMany_65 : decode cX6_howMany 65 = .ok (.if_icmp .ge 29, 3) := by decide +kernel
theorem dX6_howMany_68 : decode cX6_howMany 68 = .ok (.lload 7, 2) := by decide +kernel
theorem dX6_howMany_70 : decode cX6_howMany 70 = .ok (.aload_n 0, 1) := by decide +kernel
theorem dX6_howMany_71 : decode cX6_howMany 71 = .ok (.aload_n 0, 1) := by decide +kernel
theorem dX6_howMany_72 : decode cX6_howMany 72 = .ok (.getfield 46, 3) := by decide +kernel
theorem dX6_howMany_75 : decode cX6_howMany 75 = .ok (.iload 9, 2) := by decide +kernel
theorem dX6_howMany_77 : decode cX6_howMany 77 = .ok (.iadd, 1) := by decide +kernel
theorem dX6_howMany_78 : decode cX6_howMany 78 = .ok (.lload_n 1, 1) := by decide +kernel
theorem dX6_howMany_79 : decode cX6_howMany 79 = .ok (.lload_n 3, 1) := by decide +kernel
theorem dX6_howMany_80 : decode cX6_howMany 80 = .ok (.lload 5, 2) := by decide +kernel
theorem dX6_howMany_82 : decode cX6_howMany 82 = .ok (.invokevirtual 84, 3) := by decide +kernel
theorem dX6_howMany_85 : decode cX6_howMany 85 = .ok (.ladd, 1) := by decide +kernel
theorem dX6_howMany_86 : decode cX6_howMany 86 = .ok (.lstore 7, 2) := by decide +kernel
theorem dX6_howMany_88 : decode cX6_howMany 88 = .ok (.iinc 9 1, 3) := by decide +kernel
theorem dX6_howMany_91 : decode cX6_howMany 91 = .ok (.goto (-32), 3) := by decide +kernel
theorem dX6_howMany_94 : decode cX6_howMany 94 = .ok (.lload 7, 2) := by decide +kernel
theorem dX6_howMany_96 : decode cX6_howMany 96 = .ok (.lreturn, 1) := by decide +kernel
def f_X6_howMany_u50 (Q : Int → ml_St → Prop) (K6 : ml_St → Int → Int → Int → Int → Int → Prop) (σ : ml_St) (x1 : Int) (x3 : Int) (x5 : Int) (x7 : Int) (x9 : Int) : Prop :=
I32 (x9 + 1) ∧
∀ y1 : Int, y1 = x9 + 1 →
K6 σ x1 x3 x5 x7 y1
def f_X6_howMany_u6 (Q : Int → ml_St → Prop) (K56 : ml_St → Int → Int → Int → Int → Prop) : Nat → ml_St → Int → Int → Int → Int → Int → Prop
| 0, _, _, _, _, _, _ => False
| N + 1, σ, x1, x3, x5, x7, x9 =>
∀ _ : I32 (σ 46 9),
((σ 46 9) ≤ x9 →
K56 σ x1 x3 x5 x7) ∧
(¬ ((σ 46 9) ≤ x9) →
f_X6_loopsOf σ x9 (fun r3 σ3 => ∀ _ : I64 r3,
(r3 ≠ x1 →
f_X6_howMany_u50 Q (f_X6_howMany_u6 Q K56 N) σ3 x1 x3 x5 x7 x9) ∧
(r3 = x1 →
(x9 < x3 →
f_X6_howMany_u50 Q (f_X6_howMany_u6 Q K56 N) σ3 x1 x3 x5 x7 x9) ∧
(¬ (x9 < x3) →
(x5 < x9 →
f_X6_howMany_u50 Q (f_X6_howMany_u6 Q K56 N) σ3 x1 x3 x5 x7 x9) ∧
(¬ (x5 < x9) →
∀ y8 : Int, y8 = w64 (x7 + 1) →
f_X6_howMany_u50 Q (f_X6_howMany_u6 Q K56 N) σ3 x1 x3 x5 y8 x9)))))
def f_X6_howMany_u59 (Q : Int → ml_St → Prop) (K94 : ml_St → Int → Prop) : Nat → ml_St → Int → Int → Int → Int → Int → Prop
| 0, _, _, _, _, _, _ => False
| N + 1, σ, x1, x3, x5, x7, x9 =>
∀ _ : I32 (σ 46 7),
((σ 46 7) ≤ x9 →
K94 σ x7) ∧
(¬ ((σ 46 7) ≤ x9) →
∀ _ : I32 (σ 46 9),
I32 ((σ 46 9) + x9) ∧
f_X6_howManyFrom σ ((σ 46 9) + x9) x1 x3 x5 (fun r5 σ5 => ∀ _ : I64 r5,
∀ y7 : Int, y7 = w64 (x7 + r5) →
I32 (x9 + 1) ∧
∀ y8 : Int, y8 = x9 + 1 →
f_X6_howMany_u59 Q K94 N σ5 x1 x3 x5 y7 y8))
def f_X6_howMany_u94 (Q : Int → ml_St → Prop) (σ : ml_St) (x7 : Int) : Prop :=
Q x7 σ
def f_X6_howMany_u56 (Q : Int → ml_St → Prop) (σ : ml_St) (x1 : Int) (x3 : Int) (x5 : Int) (x7 : Int) : Prop :=
∃ N1, f_X6_howMany_u59 Q (f_X6_howMany_u94 Q) N1 σ x1 x3 x5 x7 0
def f_X6_howMany_u0 (Q : Int → ml_St → Prop) (σ : ml_St) (x1 : Int) (x3 : Int) (x5 : Int) : Prop :=
∃ N1, f_X6_howMany_u6 Q (f_X6_howMany_u56 Q) N1 σ x1 x3 x5 0 1
def f_X6_howMany (σ : ml_St) (x1 : Int) (x3 : Int) (x5 : Int) (Q : Int → ml_St → Prop) : Prop := f_X6_howMany_u0 Q σ x1 x3 x5
def rm_X6_howMany : Room := { frames := 3, cells := 0, slots := 0, locals := 82 }
set_option maxRecDepth 100000 in
set_option maxHeartbeats 4000000 in
theorem u_X6_howMany_50 {p : Program} {e : Env} {s : State} {m : MethodId} {args : Array Value} {below : List Frame} {meth : Method} {c : Code} {base : Nat} {D : va_G} {cA : Nat → ClassId} {n : Nat} {l : Launch} {Q : Int → ml_St → Prop} {K6 : ml_St → Int → Int → Int → Int → Int → Prop} (X : ml_X p s m c meth args D cA cX6_howMany 10 RX6 (some .long)) (hn : 214 ≤ n) (hK6 : ∀ (σ : ml_St) (x1 : Int) (x3 : Int) (x5 : Int) (x7 : Int) (x9 : Int) (h_x1 : I64 x1) (h_x3 : I64 x3) (h_x5 : I64 x5) (h_x7 : I64 x7) (h_x9 : I32 x9) (ls : Array Slot), lv_has ls 10 [(0, .ref (base + (46 : Int).toNat)), (1, .long (Int64.ofInt x1)), (3, .long (Int64.ofInt x3)), (5, .long (Int64.ofInt x5)), (7, .long (Int64.ofInt x7)), (9, .int (Int32.ofInt x9))] → K6 σ x1 x3 x5 x7 x9 → ml_V p l e rm_X6_howMany s m args below meth c (MQ below (ml_Ql base D cA n Q) args s 0 0 (ml_A base)) base D cA 0 0 n n σ (F0 m 6 ls [])) (σ : ml_St) (x1 : Int) (x3 : Int) (x5 : Int) (x7 : Int) (x9 : Int) (h_x1 : I64 x1) (h_x3 : I64 x3) (h_x5 : I64 x5) (h_x7 : I64 x7) (h_x9 : I32 x9) (ls : Array Slot) (hl : lv_has ls 10 [(0, .ref (base + (46 : Int).toNat)), (1, .long (Int64.ofInt x1)), (3, .long (Int64.ofInt x3)), (5, .long (Int64.ofInt x5)), (7, .long (Int64.ofInt x7)), (9, .int (Int32.ofInt x9))]) (hw : f_X6_howMany_u50 Q K6 σ x1 x3 x5 x7 x9) : ml_V p l e rm_X6_howMany s m args below meth c (MQ below (ml_Ql base D cA n Q) args s 0 0 (ml_A base)) base D cA 0 0 n n σ (F0 m 50 ls []) := by
  unfold f_X6_howMany_u50 at hw
  obtain ⟨v1, hw⟩ := hw
  obtain ⟨y1, e1⟩ : ∃ y : Int, y = x9 + 1 := ⟨_, rfl⟩
  have hw := hw y1 e1
  rw [← e1] at v1
  refine ml_iinc (pc := 50) X e1 hl 5 rfl (by decide) (lst' := [(9, .int (Int32.ofInt y1)), (0, .ref (base + (46 : Int).toNat)), (1, .long (Int64.ofInt x1)), (3, .long (Int64.ofInt x3)), (5, .long (Int64.ofInt x5)), (7, .long (Int64.ofInt x7))]) rfl dX6_howMany_50 (fun ls hl => ?_)
  refine ml_goto (pc := 53) (tgt := 6) X dX6_howMany_53 (by decide) ?_
  exact hK6 σ x1 x3 x5 x7 y1 h_x1 h_x3 h_x5 h_x7 v1 _ (lv_sub hl [1, 2, 3, 4, 5, 0] rfl) hw
set_option maxRecDepth 100000 in
set_option maxHeartbeats 4000000 in
theorem u_X6_howMany_6 {p : Program} {e : Env} {s : State} {m : MethodId} {args : Array Value} {below : List Frame} {meth : Method} {c : Code} {base : Nat} {D : va_G} {cA : Nat → ClassId} {n : Nat} {l : Launch} {Q : Int → ml_St → Prop} {K56 : ml_St → Int → Int → Int → Int → Prop} (X : ml_X p s m c meth args D cA cX6_howMany 10 RX6 (some .long)) (hn : 214 ≤ n) (hK56 : ∀ (σ : ml_St) (x1 : Int) (x3 : Int) (x5 : Int) (x7 : Int) (h_x1 : I64 x1) (h_x3 : I64 x3) (h_x5 : I64 x5) (h_x7 : I64 x7) (ls : Array Slot), lv_has ls 10 [(0, .ref (base + (46 : Int).toNat)), (1, .long (Int64.ofInt x1)), (3, .long (Int64.ofInt x3)), (5, .long (Int64.ofInt x5)), (7, .long (Int64.ofInt x7))] → K56 σ x1 x3 x5 x7 → ml_V p l e rm_X6_howMany s m args below meth c (MQ below (ml_Ql base D cA n Q) args s 0 0 (ml_A base)) base D cA 0 0 n n σ (F0 m 56 ls [])) : ∀ (N : Nat) (σ : ml_St) (x1 : Int) (x3 : Int) (x5 : Int) (x7 : Int) (x9 : Int) (h_x1 : I64 x1) (h_x3 : I64 x3) (h_x5 : I64 x5) (h_x7 : I64 x7) (h_x9 : I32 x9) (ls : Array Slot), lv_has ls 10 [(0, .ref (base + (46 : Int).toNat)), (1, .long (Int64.ofInt x1)), (3, .long (Int64.ofInt x3)), (5, .long (Int64.ofInt x5)), (7, .long (Int64.ofInt x7)), (9, .int (Int32.ofInt x9))] → f_X6_howMany_u6 Q K56 N σ x1 x3 x5 x7 x9 → ml_V p l e rm_X6_howMany s m args below meth c (MQ below (ml_Ql base D cA n Q) args s 0 0 (ml_A base)) base D cA 0 0 n n σ (F0 m 6 ls []) := by
  intro N
  induction N with
  | zero => intro σ x1 x3 x5 x7 x9 h_x1 h_x3 h_x5 h_x7 h_x9 ls hl hw; exact False.elim hw
  | succ N ih =>
    intro σ x1 x3 x5 x7 x9 h_x1 h_x3 h_x5 h_x7 h_x9 ls hl hw
    unfold f_X6_howMany_u6 at hw
    refine ml_iload (pc := 6) X hl 5 rfl dX6_howMany_6 ?_
    refine ml_aload_n (pc := 8) X hl 0 rfl rfl dX6_howMany_8 ?_
    refine gf_X6_46 (pc := 9) X (ml_c46 hn) dX6_howMany_9 (fun r1 => ?_)
    have hw := hw r1
    refine ml_icmp_ge (pc := 12) (tgt := 56) X h_x9 r1 dX6_howMany_12 (by decide) (fun c2 => ?_) (fun c2 => ?_)
    · have hw := hw.1 c2
      exact hK56 σ x1 x3 x5 x7 h_x1 h_x3 h_x5 h_x7 _ (lv_sub hl [0, 1, 2, 3, 4] rfl) hw
    · have hw := hw.2 c2
      refine ml_aload_n (pc := 15) X hl 0 rfl rfl dX6_howMany_15 ?_
      refine ml_iload (pc := 16) X hl 5 rfl dX6_howMany_16 ?_
      refine ml_i2l (pc := 18) X h_x9 dX6_howMany_18 ?_
      refine ml_calllV (pc := 19) (rest := []) X [.long (Int64.ofInt x9)] (by decide) rfl (ml_c46 hn) (c_X6_loopsOf l base D cA n hn σ x9 (h_x9).l _ hw) cv_X6_80 ⟨rfl, rfl⟩ ⟨by decide, by decide⟩ rfl rfl hl (Nat.le_of_ble_eq_true rfl) ⟨Nat.zero_le _, Nat.zero_le _⟩ dX6_howMany_19 (fun r3 σ3 t3 hw => ?_)
      have hw := hw t3
      refine ml_lload_n (pc := 22) X hl 1 rfl rfl dX6_howMany_22 ?_
      refine ml_lcmp_ne (pc := 23) (tgt := 50) X t3 h_x1 dX6_howMany_23 dX6_howMany_24 (by decide) (fun c4 => ?_) (fun c4 => ?_)
      · have hw := hw.1 c4
        exact u_X6_howMany_50 X hn ih σ3 x1 x3 x5 x7 x9 h_x1 h_x3 h_x5 h_x7 h_x9 _ (lv_sub hl [0, 1, 2, 3, 4, 5] rfl) hw
      · have hw := hw.2 c4
        refine ml_lload_n (pc := 27) X hl 2 rfl rfl dX6_howMany_27 ?_
        refine ml_iload (pc := 28) X hl 5 rfl dX6_howMany_28 ?_
        refine ml_i2l (pc := 30) X h_x9 dX6_howMany_30 ?_
        refine ml_lcmp_gt (pc := 31) (tgt := 50) X h_x3 (h_x9).l dX6_howMany_31 dX6_howMany_32 (by decide) (fun c5 => ?_) (fun c5 => ?_)
        · have hw := hw.1 c5
          exact u_X6_howMany_50 X hn ih σ3 x1 x3 x5 x7 x9 h_x1 h_x3 h_x5 h_x7 h_x9 _ (lv_sub hl [0, 1, 2, 3, 4, 5] rfl) hw
        · have hw := hw.2 c5
          refine ml_iload (pc := 35) X hl 5 rfl dX6_howMany_35 ?_
          refine ml_i2l (pc := 37) X h_x9 dX6_howMany_37 ?_
          refine ml_lload (pc := 38) X hl 3 rfl dX6_howMany_38 ?_
          refine ml_lcmp_gt (pc := 40) (tgt := 50) X (h_x9).l h_x5 dX6_howMany_40 dX6_howMany_41 (by decide) (fun c6 => ?_) (fun c6 => ?_)
          · have hw := hw.1 c6
            exact u_X6_howMany_50 X hn ih σ3 x1 x3 x5 x7 x9 h_x1 h_x3 h_x5 h_x7 h_x9 _ (lv_sub hl [0, 1, 2, 3, 4, 5] rfl) hw
          · have hw := hw.2 c6
            refine ml_lload (pc := 44) X hl 4 rfl dX6_howMany_44 ?_
            refine ml_lconst1 (pc := 46) X dX6_howMany_46 ?_
            refine ml_laddW (pc := 47) X dX6_howMany_47 ?_
            refine ml_topL (pc := 48) (fun y8 e8 => ?_)
            have hw := hw y8 e8
            have q8 : I64 y8 := by rw [e8]; exact (w64_r _)
            refine ml_lstore (pc := 48) X hl (by decide) (lst' := [(7, .long (Int64.ofInt y8)), (0, .ref (base + (46 : Int).toNat)), (1, .long (Int64.ofInt x1)), (3, .long (Int64.ofInt x3)), (5, .long (Int64.ofInt x5)), (9, .int (Int32.ofInt x9))]) rfl dX6_howMany_48 (fun ls hl => ?_)
            exact u_X6_howMany_50 X hn ih σ3 x1 x3 x5 y8 x9 h_x1 h_x3 h_x5 q8 h_x9 _ (lv_sub hl [1, 2, 3, 4, 0, 5] rfl) hw
set_option maxRecDepth 100000 in
set_option maxHeartbeats 4000000 in
theorem u_X6_howMany_59 {p : Program} {e : Env} {s : State} {m : MethodId} {args : Array Value} {below : List Frame} {meth : Method} {c : Code} {base : Nat} {D : va_G} {cA : Nat → ClassId} {n : Nat} {l : Launch} {Q : Int → ml_St → Prop} {K94 : ml_St → Int → Prop} (X : ml_X p s m c meth args D cA cX6_howMany 10 RX6 (some .long)) (hn : 214 ≤ n) (hK94 : ∀ (σ : ml_St) (x7 : Int) (h_x7 : I64 x7) (ls : Array Slot), lv_has ls 10 [(7, .long (Int64.ofInt x7))] → K94 σ x7 → ml_V p l e rm_X6_howMany s m args below meth c (MQ below (ml_Ql base D cA n Q) args s 0 0 (ml_A base)) base D cA 0 0 n n σ (F0 m 94 ls [])) : ∀ (N : Nat) (σ : ml_St) (x1 : Int) (x3 : Int) (x5 : Int) (x7 : Int) (x9 : Int) (h_x1 : I64 x1) (h_x3 : I64 x3) (h_x5 : I64 x5) (h_x7 : I64 x7) (h_x9 : I32 x9) (ls : Array Slot), lv_has ls 10 [(0, .ref (base + (46 : Int).toNat)), (1, .long (Int64.ofInt x1)), (3, .long (Int64.ofInt x3)), (5, .long (Int64.ofInt x5)), (7, .long (Int64.ofInt x7)), (9, .int (Int32.ofInt x9))] → f_X6_howMany_u59 Q K94 N σ x1 x3 x5 x7 x9 → ml_V p l e rm_X6_howMany s m args below meth c (MQ below (ml_Ql base D cA n Q) args s 0 0 (ml_A base)) base D cA 0 0 n n σ (F0 m 59 ls []) := by
  intro N
  induction N with
  | zero => intro σ x1 x3 x5 x7 x9 h_x1 h_x3 h_x5 h_x7 h_x9 ls hl hw; exact False.elim hw
  | succ N ih =>
    intro σ x1 x3 x5 x7 x9 h_x1 h_x3 h_x5 h_x7 h_x9 ls hl hw
    unfold f_X6_howMany_u59 at hw
    refine ml_iload (pc := 59) X hl 5 rfl dX6_howMany_59 ?_
    refine ml_aload_n (pc := 61) X hl 0 rfl rfl dX6_howMany_61 ?_
    refine gf_X6_40 (pc := 62) X (ml_c46 hn) dX6_howMany_62 (fun r1 => ?_)
    have hw := hw r1
    refine ml_icmp_ge (pc := 65) (tgt := 94) X h_x9 r1 dX6_howMany_65 (by decide) (fun c2 => ?_) (fun c2 => ?_)
    · have hw := hw.1 c2
      exact hK94 σ x7 h_x7 _ (lv_sub hl [4] rfl) hw
    · have hw := hw.2 c2
      refine ml_lload (pc := 68) X hl 4 rfl dX6_howMany_68 ?_
      refine ml_aload_n (pc := 70) X hl 0 rfl rfl dX6_howMany_70 ?_
      refine ml_aload_n (pc := 71) X hl 0 rfl rfl dX6_howMany_71 ?_
      refine gf_X6_46 (pc := 72) X (ml_c46 hn) dX6_howMany_72 (fun r3 => ?_)
      have hw := hw r3
      refine ml_iload (pc := 75) X hl 5 rfl dX6_howMany_75 ?_
      obtain ⟨v4, hw⟩ := hw
      refine ml_iadd (pc := 77) X dX6_howMany_77 ?_
      refine ml_lload_n (pc := 78) X hl 1 rfl rfl dX6_howMany_78 ?_
      refine ml_lload_n (pc := 79) X hl 2 rfl rfl dX6_howMany_79 ?_
      refine ml_lload (pc := 80) X hl 3 rfl dX6_howMany_80 ?_
      refine ml_calllV (pc := 82) (rest := [.long (Int64.ofInt x7)]) X [.int (Int32.ofInt ((σ 46 9) + x9)), .long (Int64.ofInt x1), .long (Int64.ofInt x3), .long (Int64.ofInt x5)] (by decide) rfl (ml_c46 hn) (c_X6_howManyFrom l base D cA n hn σ ((σ 46 9) + x9) x1 x3 x5 v4 h_x1 h_x3 h_x5 _ hw) cv_X6_84 ⟨rfl, rfl⟩ ⟨by decide, by decide⟩ rfl rfl hl (Nat.le_of_ble_eq_true rfl) ⟨Nat.zero_le _, Nat.zero_le _⟩ dX6_howMany_82 (fun r5 σ5 t5 hw => ?_)
      have hw := hw t5
      refine ml_laddW (pc := 85) X dX6_howMany_85 ?_
      refine ml_topL (pc := 86) (fun y7 e7 => ?_)
      have hw := hw y7 e7
      have q7 : I64 y7 := by rw [e7]; exact (w64_r _)
      refine ml_lstore (pc := 86) X hl (by decide) (lst' := [(7, .long (Int64.ofInt y7)), (0, .ref (base + (46 : Int).toNat)), (1, .long (Int64.ofInt x1)), (3, .long (Int64.ofInt x3)), (5, .long (Int64.ofInt x5)), (9, .int (Int32.ofInt x9))]) rfl dX6_howMany_86 (fun ls hl => ?_)
      obtain ⟨v8, hw⟩ := hw
      obtain ⟨y8, e8⟩ : ∃ y : Int, y = x9 + 1 := ⟨_, rfl⟩
      have hw := hw y8 e8
      rw [← e8] at v8
      refine ml_iinc (pc := 88) X e8 hl 5 rfl (by decide) (lst' := [(9, .int (Int32.ofInt y8)), (7, .long (Int64.ofInt y7)), (0, .ref (base + (46 : Int).toNat)), (1, .long (Int64.ofInt x1)), (3, .long (Int64.ofInt x3)), (5, .long (Int64.ofInt x5))]) rfl dX6_howMany_88 (fun ls hl => ?_)
      refine ml_goto (pc := 91) (tgt := 59) X dX6_howMany_91 (by decide) ?_
      exact ih σ5 x1 x3 x5 y7 y8 h_x1 h_x3 h_x5 q7 v8 _ (lv_sub hl [2, 3, 4, 5, 1, 0] rfl) hw
set_option maxRecDepth 100000 in
set_option maxHeartbeats 4000000 in
theorem u_X6_howMany_94 {p : Program} {e : Env} {s : State} {m : MethodId} {args : Array Value} {below : List Frame} {meth : Method} {c : Code} {base : Nat} {D : va_G} {cA : Nat → ClassId} {n : Nat} {l : Launch} {Q : Int → ml_St → Prop} (X : ml_X p s m c meth args D cA cX6_howMany 10 RX6 (some .long)) (hn : 214 ≤ n) (σ : ml_St) (x7 : Int) (h_x7 : I64 x7) (ls : Array Slot) (hl : lv_has ls 10 [(7, .long (Int64.ofInt x7))]) (hw : f_X6_howMany_u94 Q σ x7) : ml_V p l e rm_X6_howMany s m args below meth c (MQ below (ml_Ql base D cA n Q) args s 0 0 (ml_A base)) base D cA 0 0 n n σ (F0 m 94 ls []) := by
  unfold f_X6_howMany_u94 at hw
  refine ml_lload (pc := 94) X hl 0 rfl dX6_howMany_94 ?_
  exact ml_lret (pc := 96) X h_x7 hw dX6_howMany_96
set_option maxRecDepth 100000 in
set_option maxHeartbeats 4000000 in
theorem u_X6_howMany_56 {p : Program} {e : Env} {s : State} {m : MethodId} {args : Array Value} {below : List Frame} {meth : Method} {c : Code} {base : Nat} {D : va_G} {cA : Nat → ClassId} {n : Nat} {l : Launch} {Q : Int → ml_St → Prop} (X : ml_X p s m c meth args D cA cX6_howMany 10 RX6 (some .long)) (hn : 214 ≤ n) (σ : ml_St) (x1 : Int) (x3 : Int) (x5 : Int) (x7 : Int) (h_x1 : I64 x1) (h_x3 : I64 x3) (h_x5 : I64 x5) (h_x7 : I64 x7) (ls : Array Slot) (hl : lv_has ls 10 [(0, .ref (base + (46 : Int).toNat)), (1, .long (Int64.ofInt x1)), (3, .long (Int64.ofInt x3)), (5, .long (Int64.ofInt x5)), (7, .long (Int64.ofInt x7))]) (hw : f_X6_howMany_u56 Q σ x1 x3 x5 x7) : ml_V p l e rm_X6_howMany s m args below meth c (MQ below (ml_Ql base D cA n Q) args s 0 0 (ml_A base)) base D cA 0 0 n n σ (F0 m 56 ls []) := by
  unfold f_X6_howMany_u56 at hw
  refine ml_iconst (pc := 56) X dX6_howMany_56 ?_
  refine ml_istore (pc := 57) X hl (by decide) (lst' := [(9, .int (Int32.ofInt 0)), (0, .ref (base + (46 : Int).toNat)), (1, .long (Int64.ofInt x1)), (3, .long (Int64.ofInt x3)), (5, .long (Int64.ofInt x5)), (7, .long (Int64.ofInt x7))]) rfl dX6_howMany_57 (fun ls hl => ?_)
  obtain ⟨N0, hw⟩ := hw
  exact u_X6_howMany_59 X hn (fun σ x7 h_x7 ls hl hw => u_X6_howMany_94 X hn σ x7 h_x7 ls hl hw) N0 σ x1 x3 x5 x7 0 h_x1 h_x3 h_x5 h_x7 ⟨by decide, by decide⟩ _ (lv_sub hl [1, 2, 3, 4, 5, 0] rfl) hw
set_option maxRecDepth 100000 in
set_option maxHeartbeats 4000000 in
theorem u_X6_howMany_0 {p : Program} {e : Env} {s : State} {m : MethodId} {args : Array Value} {below : List Frame} {meth : Method} {c : Code} {base : Nat} {D : va_G} {cA : Nat → ClassId} {n : Nat} {l : Launch} {Q : Int → ml_St → Prop} (X : ml_X p s m c meth args D cA cX6_howMany 10 RX6 (some .long)) (hn : 214 ≤ n) (σ : ml_St) (x1 : Int) (x3 : Int) (x5 : Int) (h_x1 : I64 x1) (h_x3 : I64 x3) (h_x5 : I64 x5) (ls : Array Slot) (hl : lv_has ls 10 [(0, .ref (base + (46 : Int).toNat)), (1, .long (Int64.ofInt x1)), (3, .long (Int64.ofInt x3)), (5, .long (Int64.ofInt x5))]) (hw : f_X6_howMany_u0 Q σ x1 x3 x5) : ml_V p l e rm_X6_howMany s m args below meth c (MQ below (ml_Ql base D cA n Q) args s 0 0 (ml_A base)) base D cA 0 0 n n σ (F0 m 0 ls []) := by
  unfold f_X6_howMany_u0 at hw
  refine ml_lconst0 (pc := 0) X dX6_howMany_0 ?_
  refine ml_lstore (pc := 1) X hl (by decide) (lst' := [(7, .long (Int64.ofInt 0)), (0, .ref (base + (46 : Int).toNat)), (1, .long (Int64.ofInt x1)), (3, .long (Int64.ofInt x3)), (5, .long (Int64.ofInt x5))]) rfl dX6_howMany_1 (fun ls hl => ?_)
  refine ml_iconst (pc := 3) X dX6_howMany_3 ?_
  refine ml_istore (pc := 4) X hl (by decide) (lst' := [(9, .int (Int32.ofInt 1)), (7, .long (Int64.ofInt 0)), (0, .ref (base + (46 : Int).toNat)), (1, .long (Int64.ofInt x1)), (3, .long (Int64.ofInt x3)), (5, .long (Int64.ofInt x5))]) rfl dX6_howMany_4 (fun ls hl => ?_)
  obtain ⟨N0, hw⟩ := hw
  exact u_X6_howMany_6 X hn (fun σ x1 x3 x5 x7 h_x1 h_x3 h_x5 h_x7 ls hl hw => u_X6_howMany_56 X hn σ x1 x3 x5 x7 h_x1 h_x3 h_x5 h_x7 ls hl hw) N0 σ x1 x3 x5 0 1 h_x1 h_x3 h_x5 ⟨by decide, by decide⟩ ⟨by decide, by decide⟩ _ (lv_sub hl [2, 3, 4, 5, 1, 0] rfl) hw
set_option maxRecDepth 100000 in
theorem c_X6_howMany (l : Launch) (base : Nat) (D : va_G) (cA : Nat → ClassId) (n : Nat) (hn : 214 ≤ n) (σ : ml_St) (x1 : Int) (x3 : Int) (x5 : Int) (h_x1 : I64 x1) (h_x3 : I64 x3) (h_x5 : I64 x5) (Q : Int → ml_St → Prop) (hw : f_X6_howMany σ x1 x3 x5 Q) : Met l yX6_howMany (Cond.code yX6_howMany cX6_howMany 10 (some .long) :: ml_T) rm_X6_howMany (va_Pc [.ref (base + (46 : Int).toNat), .long (Int64.ofInt x1), .long (Int64.ofInt x3), .long (Int64.ofInt x5)] (ml_U base D cA n σ)) (ml_Ql base D cA n Q) 0 0 (ml_A base) := by
  refine Met.ofW (cc := cX6_howMany) (maxL := 10) (ret := (some .long)) (by decide) rfl ?_
  intro p e s m args below meth c s₁ B hml hv
  obtain ⟨rfl, hP, hK, hok, hro⟩ := hv
  have X : ml_X p s m c meth _ D cA cX6_howMany 10 RX6 (some .long) := ⟨B.exec, B.bytes, hml, findClass_of_methodNamed B.named, fun w hw => atoms_spec (ws := Cond.code yX6_howMany cX6_howMany 10 (some .long) :: ml_T) B.pre w (List.mem_cons_of_mem _ hw), hK, B.notSynchronized, B.returns⟩
  have hl := lv_entry [.ref (base + (46 : Int).toNat), .long (Int64.ofInt x1), .long (Int64.ofInt x3), .long (Int64.ofInt x5)] (n := 10) (Nat.le_of_ble_eq_true rfl)
  rw [lg_entry_eq]
  generalize (lg_sl [.ref (base + (46 : Int).toNat), .long (Int64.ofInt x1), .long (Int64.ofInt x3), .long (Int64.ofInt x5)] ++ List.replicate (10 - (lg_sl [.ref (base + (46 : Int).toNat), .long (Int64.ofInt x1), .long (Int64.ofInt x3), .long (Int64.ofInt x5)]).length) Slot.unset).toArray = ls at hl ⊢
  have hl : lv_has ls 10 [(0, .ref (base + (46 : Int).toNat)), (1, .long (Int64.ofInt x1)), (3, .long (Int64.ofInt x3)), (5, .long (Int64.ofInt x5))] := hl
  unfold f_X6_howMany at hw
  exact u_X6_howMany_0 X hn σ x1 x3 x5 h_x1 h_x3 h_x5 _ (lv_sub hl [0, 1, 2, 3] rfl) hw s.heap [] hP va_S.rf hok hro
theorem dX11_those_0 : decode cX11_those 0 = .ok (.aload_n 0, 1) := by decide +kernel
theorem dX11_those_1 : decode cX11_those 1 = .ok (.iload_n 1, 1) := by decide +kernel
theorem dX11_those_2 : decode cX11_those 2 = .ok (.invokevirtual 121, 3) := by decide +kernel
theorem dX11_those_5 : decode cX11_those 5 = .ok (.ifCond .eq 27, 3) := by decide +kernel
theorem dX11_those_8 : decode cX11_those 8 = .ok (.lload_n 2, 1) := by decide +kernel
theorem dX11_those_9 : decode cX11_those 9 = .ok (.lconst 0, 1) := by decide +kernel
theorem dX11_those_10 : decode cX11_those 10 = .ok (.lcmp, 1) := by decide +kernel
theorem dX11_those_11 : decode cX11_those 11 = .ok (.ifCond .lt 21, 3) := by decide +kernel
theorem dX11_those_14 : decode cX11_those 14 = .ok (.lload_n 2, 1) := by decide +kernel
theorem dX11_those_15 : decode cX11_those 15 = .ok (.ldc2_w 178, 3) := by decide +kernel
theorem dX11_those_18 : decode cX11_those 18 = .ok (.lcmp, 1) := by decide +kernel
theorem dX11_those_19 : decode cX11_those 19 = .ok (.ifCond .gt 13, 3) := by decide +kernel
theorem dX11_those_22 : decode cX11_those 22 = .ok (.lload 4, 2) := by decide +kernel
theorem dX11_those_24 : decode cX11_those 24 = .ok (.lload 6, 2) := by decide +kernel
theorem dX11_those_26 : decode cX11_those 26 = .ok (.invokestatic 180, 3) := by decide +kernel
theorem dX11_those_29 : decode cX11_those 29 = .ok (.ifCond .ne 7, 3) := by decide +kernel
theorem dX11_those_32 : decode cX11_those 32 = .ok (.ldc2_w 119, 3) := by decide +kernel
theorem dX11_those_35 : decode cX11_those 35 = .ok (.lreturn, 1) := by decide +kernel
theorem dX11_those_36 : decode cX11_those 36 = .ok (.aload_n 0, 1) := by decide +kernel
theorem dX11_those_37 : decode cX11_those 37 = .ok (.getfield 40, 3) := by decide +kernel
theorem dX11_those_40 : decode cX11_those 40 = .ok (.aload_n 0, 1) := by decide +kernel
theorem dX11_those_41 : decode cX11_those 41 = .ok (.getfield 67, 3) := by decide +kernel
theorem dX11_those_44 : decode cX11_those 44 = .ok (.iload_n 1, 1) := by decide +kernel
theorem dX11_those_45 : decode cX11_those 45 = .ok (.aaload, 1) := by decide +kernel
theorem dX11_those_46 : decode cX11_those 46 = .ok (.getfield 112, 3) := by decide +kernel
theorem dX11_those_49 : decode cX11_those 49 = .ok (.aload_n 0, 1) := by decide +kernel
theorem dX11_those_50 : decode cX11_those 50 = .ok (.getfield 19, 3) := by decide +kernel
theorem dX11_those_53 : decode cX11_those 53 = .ok (.aload_n 0, 1) := by decide +kernel
theorem dX11_those_54 : decode cX11_those 54 = .ok (.getfield 82, 3) := by decide +kernel
theorem dX11_those_57 : decode cX11_those 57 = .ok (.invokevirtual 148, 3) := by decide +kernel
theorem dX11_those_60 : decode cX11_those 60 = .ok (.aload_n 0, 1) := by decide +kernel
theorem dX11_those_61 : decode cX11_those 61 = .ok (.getfield 40, 3) := by decide +kernel
theorem dX11_those_64 : decode cX11_those 64 = .ok (.invokevirtual 158, 3) := by decide +kernel
theorem dX11_those_67 : decode cX11_those 67 = .ok (.aload_n 0, 1) := by decide +kernel
theorem dX11_those_68 : decode cX11_those 68 = .ok (.getfield 40, 3) := by decide +kernel
theorem dX11_those_71 : decode cX11_those 71 = .ok (.lload_n 2, 1) := by decide +kernel
theorem dX11_those_72 : decode cX11_those 72 = .ok (.lload 4, 2) := by decide +kernel
theorem dX11_those_74 : decode cX11_those 74 = .ok (.lload 6, 2) := by decide +kernel
theorem dX11_those_76 : decode cX11_those 76 = .ok (.invokevirtual 184, 3) := by decide +kernel
theorem dX11_those_79 : decode cX11_those 79 = .ok (.lreturn, 1) := by decide +kernel
def f_X11_those_u32 (Q : Int → ml_St → Prop) (σ : ml_St) : Prop :=
Q (-1) σ
def f_X11_those_u0 (Q : Int → ml_St → Prop) (σ : ml_St) (x1 : Int) (x2 : Int) (x4 : Int) (x6 : Int) : Prop :=
f_X11_isMade σ x1 (fun r1 σ1 => ∀ _ : ml_B r1,
(r1 = 0 →
f_X11_those_u32 Q σ1) ∧
(r1 ≠ 0 →
(x2 < 0 →
f_X11_those_u32 Q σ1) ∧
(¬ (x2 < 0) →
(1000000000000000000 < x2 →
f_X11_those_u32 Q σ1) ∧
(¬ (1000000000000000000 < x2) →
f_X11_isStretch σ1 x4 x6 (fun r5 σ5 => ∀ _ : ml_B r5,
(r5 ≠ 0 →
(0 : Int) ≤ x1 ∧ (x1 : Int) < 16 ∧
∀ _ : I32 (σ5 1 11),
f_X6_study σ5 ((119 + 6 * x1) + 2) (σ5 1 11) (fun σ9 =>
f_X6_findRule σ9 (fun σ10 =>
f_X6_howMany σ10 x2 x4 x6 (fun r11 σ11 => ∀ _ : I64 r11,
Q r11 σ11)))) ∧
(r5 = 0 →
f_X11_those_u32 Q σ5))))))
def f_X11_those (σ : ml_St) (x1 : Int) (x2 : Int) (x4 : Int) (x6 : Int) (Q : Int → ml_St → Prop) : Prop := f_X11_those_u0 Q σ x1 x2 x4 x6
def rm_X11_those : Room := { frames := 4, cells := 0, slots := 0, locals := 141 }
set_option maxRecDepth 100000 in
set_option maxHeartbeats 4000000 in
theorem u_X11_those_32 {p : Program} {e : Env} {s : State} {m : MethodId} {args : Array Value} {below : List Frame} {meth : Method} {c : Code} {base : Nat} {D : va_G} {cA : Nat → ClassId} {n : Nat} {l : Launch} {Q : Int → ml_St → Prop} (X : ml_X p s m c meth args D cA cX11_those 8 RX11 (some .long)) (hn : 214 ≤ n) (σ : ml_St) (ls : Array Slot) (hl : lv_has ls 8 []) (hw : f_X11_those_u32 Q σ) : ml_V p l e rm_X11_those s m args below meth c (MQ below (ml_Ql base D cA n Q) args s 0 0 (ml_A base)) base D cA 0 0 n n σ (F0 m 32 ls []) := by
  unfold f_X11_those_u32 at hw
  refine ml_ldc2 (pc := 32) (v := (-1)) X dX11_those_32 tc_3_125 ?_
  exact ml_lret (pc := 35) X ⟨by decide, by decide⟩ hw dX11_those_35
set_option maxRecDepth 100000 in
set_option maxHeartbeats 4000000 in
theorem u_X11_those_0 {p : Program} {e : Env} {s : State} {m : MethodId} {args : Array Value} {below : List Frame} {meth : Method} {c : Code} {base : Nat} {D : va_G} {cA : Nat → ClassId} {n : Nat} {l : Launch} {Q : Int → ml_St → Prop} (X : ml_X p s m c meth args D cA cX11_those 8 RX11 (some .long)) (hn : 214 ≤ n) (σ : ml_St) (x1 : Int) (x2 : Int) (x4 : Int) (x6 : Int) (h_x1 : I32 x1) (h_x2 : I64 x2) (h_x4 : I64 x4) (h_x6 : I64 x6) (ls : Array Slot) (hl : lv_has ls 8 [(0, .ref (base + (1 : Int).toNat)), (1, .int (Int32.ofInt x1)), (2, .long (Int64.ofInt x2)), (4, .long (Int64.ofInt x4)), (6, .long (Int64.ofInt x6))]) (hw : f_X11_those_u0 Q σ x1 x2 x4 x6) : ml_V p l e rm_X11_those s m args below meth c (MQ below (ml_Ql base D cA n Q) args s 0 0 (ml_A base)) base D cA 0 0 n n σ (F0 m 0 ls []) := by
  unfold f_X11_those_u0 at hw
  refine ml_aload_n (pc := 0) X hl 0 rfl rfl dX11_those_0 ?_
  refine ml_iload_n (pc := 1) X hl 1 rfl rfl dX11_those_1 ?_
  refine ml_callzV (pc := 2) (rest := []) X [.int (Int32.ofInt x1)] (by decide) rfl (ml_c1 hn) (c_X11_isMade l base D cA n hn σ x1 h_x1 _ hw) cv_X11_121 ⟨rfl, rfl⟩ ⟨by decide, by decide⟩ rfl rfl hl (Nat.le_of_ble_eq_true rfl) ⟨Nat.zero_le _, Nat.zero_le _⟩ dX11_those_2 (fun r1 σ1 t1 hw => ?_)
  have hw := hw t1
  refine ml_if_eq (pc := 5) (tgt := 32) X t1.i dX11_those_5 (by decide) (fun c2 => ?_) (fun c2 => ?_)
  · have hw := hw.1 c2
    exact u_X11_those_32 X hn σ1   _ (lv_sub hl [] rfl) hw
  · have hw := hw.2 c2
    refine ml_lload_n (pc := 8) X hl 2 rfl rfl dX11_those_8 ?_
    refine ml_lconst0 (pc := 9) X dX11_those_9 ?_
    refine ml_lcmp_lt (pc := 10) (tgt := 32) X h_x2 ⟨by decide, by decide⟩ dX11_those_10 dX11_those_11 (by decide) (fun c3 => ?_) (fun c3 => ?_)
    · have hw := hw.1 c3
      exact u_X11_those_32 X hn σ1   _ (lv_sub hl [] rfl) hw
    · have hw := hw.2 c3
      refine ml_lload_n (pc := 14) X hl 2 rfl rfl dX11_those_14 ?_
      refine ml_ldc2 (pc := 15) (v := 1000000000000000000) X dX11_those_15 tc_3_203 ?_
      refine ml_lcmp_gt (pc := 18) (tgt := 32) X h_x2 ⟨by decide, by decide⟩ dX11_those_18 dX11_those_19 (by decide) (fun c4 => ?_) (fun c4 => ?_)
      · have hw := hw.1 c4
        exact u_X11_those_32 X hn σ1   _ (lv_sub hl [] rfl) hw
      · have hw := hw.2 c4
        refine ml_lload (pc := 22) X hl 3 rfl dX11_those_22 ?_
        refine ml_lload (pc := 24) X hl 4 rfl dX11_those_24 ?_
        refine ml_callzS (pc := 26) (rest := []) X [.long (Int64.ofInt x4), .long (Int64.ofInt x6)] (c_X11_isStretch l base D cA n hn σ1 x4 x6 h_x4 h_x6 _ hw) cv_X11_180 ⟨rfl, rfl⟩ ⟨by decide, by decide⟩ rfl rfl hl (Nat.le_of_ble_eq_true rfl) ⟨Nat.zero_le _, Nat.zero_le _⟩ dX11_those_26 (fun r5 σ5 t5 hw => ?_)
        have hw := hw t5
        refine ml_if_ne (pc := 29) (tgt := 36) X t5.i dX11_those_29 (by decide) (fun c6 => ?_) (fun c6 => ?_)
        · have hw := hw.1 c6
          refine ml_aload_n (pc := 36) X hl 0 rfl rfl dX11_those_36 ?_
          refine gf_X11_40 (pc := 37) X (ml_c1 hn) dX11_those_37 ?_
          refine ml_aload_n (pc := 40) X hl 0 rfl rfl dX11_those_40 ?_
          refine gf_X11_67 (pc := 41) X (ml_c1 hn) dX11_those_41 ?_
          refine ml_iload_n (pc := 44) X hl 1 rfl rfl dX11_those_44 ?_
          obtain ⟨a7, b7, hw⟩ := hw
          refine ml_aald_words (pc := 45) X hn a7 b7 dX11_those_45 ?_
          refine gf_X11_112 (pc := 46) X (ml_at_words hn a7 b7) dX11_those_46 ?_
          refine ml_aload_n (pc := 49) X hl 0 rfl rfl dX11_those_49 ?_
          refine gf_X11_19 (pc := 50) X (ml_c1 hn) dX11_those_50 ?_
          refine ml_aload_n (pc := 53) X hl 0 rfl rfl dX11_those_53 ?_
          refine gf_X11_82 (pc := 54) X (ml_c1 hn) dX11_those_54 (fun r8 => ?_)
          have hw := hw r8
          refine ml_callvV (pc := 57) (rest := []) X [.ref (base + (((119 + 6 * x1) + 2) : Int).toNat), .ref (base + (4 : Int).toNat), .int (Int32.ofInt (σ5 1 11))] (by decide) rfl (ml_c46 hn) (c_X6_study l base D cA n hn σ5 ((119 + 6 * x1) + 2) (ml_r20_2 hn (ml_at_words hn a7 b7)) (σ5 1 11) r8 _ hw) cv_X11_148 ⟨rfl, rfl⟩ ⟨by decide, by decide⟩ rfl rfl hl (Nat.le_of_ble_eq_true rfl) ⟨Nat.zero_le _, Nat.zero_le _⟩ dX11_those_57 (fun σ9 hw => ?_)
          refine ml_aload_n (pc := 60) X hl 0 rfl rfl dX11_those_60 ?_
          refine gf_X11_40 (pc := 61) X (ml_c1 hn) dX11_those_61 ?_
          refine ml_callvV (pc := 64) (rest := []) X [] (by decide) rfl (ml_c46 hn) (c_X6_findRule l base D cA n hn σ9 _ hw) cv_X11_158 ⟨rfl, rfl⟩ ⟨by decide, by decide⟩ rfl rfl hl (Nat.le_of_ble_eq_true rfl) ⟨Nat.zero_le _, Nat.zero_le _⟩ dX11_those_64 (fun σ10 hw => ?_)
          refine ml_aload_n (pc := 67) X hl 0 rfl rfl dX11_those_67 ?_
          refine gf_X11_40 (pc := 68) X (ml_c1 hn) dX11_those_68 ?_
          refine ml_lload_n (pc := 71) X hl 2 rfl rfl dX11_those_71 ?_
          refine ml_lload (pc := 72) X hl 3 rfl dX11_those_72 ?_
          refine ml_lload (pc := 74) X hl 4 rfl dX11_those_74 ?_
          refine ml_calllV (pc := 76) (rest := []) X [.long (Int64.ofInt x2), .long (Int64.ofInt x4), .long (Int64.ofInt x6)] (by decide) rfl (ml_c46 hn) (c_X6_howMany l base D cA n hn σ10 x2 x4 x6 h_x2 h_x4 h_x6 _ hw) cv_X11_184 ⟨rfl, rfl⟩ ⟨by decide, by decide⟩ rfl rfl hl (Nat.le_of_ble_eq_true rfl) ⟨Nat.zero_le _, Nat.zero_le _⟩ dX11_those_76 (fun r11 σ11 t11 hw => ?_)
          have hw := hw t11
          exact ml_lret (pc := 79) X t11 hw dX11_those_79
        · have hw := hw.2 c6
          exact u_X11_those_32 X hn σ5   _ (lv_sub hl [] rfl) hw
set_option maxRecDepth 100000 in
theorem c_X11_those (l : Launch) (base : Nat) (D : va_G) (cA : Nat → ClassId) (n : Nat) (hn : 214 ≤ n) (σ : ml_St) (x1 : Int) (x2 : Int) (x4 : Int) (x6 : Int) (h_x1 : I32 x1) (h_x2 : I64 x2) (h_x4 : I64 x4) (h_x6 : I64 x6) (Q : Int → ml_St → Prop) (hw : f_X11_those σ x1 x2 x4 x6 Q) : Met l yX11_those (Cond.code yX11_those cX11_those 8 (some .long) :: ml_T) rm_X11_those (va_Pc [.ref (base + (1 : Int).toNat), .int (Int32.ofInt x1), .long (Int64.ofInt x2), .long (Int64.ofInt x4), .long (Int64.ofInt x6)] (ml_U base D cA n σ)) (ml_Ql base D cA n Q) 0 0 (ml_A base) := by
  refine Met.ofW (cc := cX11_those) (maxL := 8) (ret := (some .long)) (by decide) rfl ?_
  intro p e s m args below meth c s₁ B hml hv
  obtain ⟨rfl, hP, hK, hok, hro⟩ := hv
  have X : ml_X p s m c meth _ D cA cX11_those 8 RX11 (some .long) := ⟨B.exec, B.bytes, hml, findClass_of_methodNamed B.named, fun w hw => atoms_spec (ws := Cond.code yX11_those cX11_those 8 (some .long) :: ml_T) B.pre w (List.mem_cons_of_mem _ hw), hK, B.notSynchronized, B.returns⟩
  have hl := lv_entry [.ref (base + (1 : Int).toNat), .int (Int32.ofInt x1), .long (Int64.ofInt x2), .long (Int64.ofInt x4), .long (Int64.ofInt x6)] (n := 8) (Nat.le_of_ble_eq_true rfl)
  rw [lg_entry_eq]
  generalize (lg_sl [.ref (base + (1 : Int).toNat), .int (Int32.ofInt x1), .long (Int64.ofInt x2), .long (Int64.ofInt x4), .long (Int64.ofInt x6)] ++ List.replicate (8 - (lg_sl [.ref (base + (1 : Int).toNat), .int (Int32.ofInt x1), .long (Int64.ofInt x2), .long (Int64.ofInt x4), .long (Int64.ofInt x6)]).length) Slot.unset).toArray = ls at hl ⊢
  have hl : lv_has ls 8 [(0, .ref (base + (1 : Int).toNat)), (1, .int (Int32.ofInt x1)), (2, .long (Int64.ofInt x2)), (4, .long (Int64.ofInt x4)), (6, .long (Int64.ofInt x6))] := hl
  unfold f_X11_those at hw
  exact u_X11_those_0 X hn σ x1 x2 x4 x6 h_x1 h_x2 h_x4 h_x6 _ (lv_sub hl [0, 1, 2, 3, 4] rfl) hw s.heap [] hP va_S.rf hok hro
theorem dX6_firstWith_0 : decode cX6_firstWith 0 = .ok (.iconst 1, 1) := by decide +kernel
theorem dX6_firstWith_1 : decode cX6_firstWith 1 = .ok (.istore_n 3, 1) := by decide +kernel
theorem dX6_firstWith_2 : decode cX6_firstWith 2 = .ok (.iload_n 3, 1) := by decide +kernel
theorem dX6_firstWith_3 : decode cX6_firstWith 3 = .ok (.aload_n 0, 1) := by decide +kernel
theorem dX6_firstWith_4 : decode cX6_firstWith 4 = .ok (.getfield 46, 3) := by decide +kernel
theorem dX6_firstWith_7 : decode cX6_firstWith 7 = .ok (.if_icmp .ge 23, 3) := by decide +kernel
theorem dX6_firstWith_10 : decode cX6_firstWith 10 = .ok (.aload_n 0, 1) := by decide +kernel
theorem dX6_firstWith_11 : decode cX6_firstWith 11 = .ok (.iload_n 3, 1) := by decide +kernel
theorem dX6_firstWith_12 : decode cX6_firstWith 12 = .ok (.i2l, 1) := by decide +kernel
theorem dX6_firstWith_13 : decode cX6_firstWith 13 = .ok (.invokevirtual 80, 3) := by decide +kernel
theorem dX6_firstWith_16 : decode cX6_firstWith 16 = .ok (.lload_n 1, 1) := by decide +kernel
theorem dX6_firstWith_17 : decode cX6_firstWith 17 = .ok (.lcmp, 1) := by decide +kernel
theorem dX6_firstWith_18 : decode cX6_firstWith 18 = .ok (.ifCond .ne 6, 3) := by decide +kernel
theorem dX6_firstWith_21 : decode cX6_firstWith 21 = .ok (.iload_n 3, 1) := by decide +kernel
theorem dX6_firstWith_22 : decode cX6_firstWith 22 = .ok (.i2l, 1) := by decide +kernel
theorem dX6_firstWith_23 : decode cX6_firstWith 23 = .ok (.lreturn, 1) := by decide +kernel
theorem dX6_firstWith_24 : decode cX6_firstWith 24 = .ok (.iinc 3 1, 3) := by decide +kernel
theorem dX6_firstWith_27 : decode cX6_firstWith 27 = .ok (.goto (-25), 3) := by decide +kernel
theorem dX6_firstWith_30 : decode cX6_firstWith 30 = .ok (.ldc2_w 92, 3) := by decide +kernel
theorem dX6_firstWith_33 : decode cX6_firstWith 33 = .ok (.lstore_n 3, 1) := by decide +kernel
theorem dX6_firstWith_34 : decode cX6_firstWith 34 = .ok (.iconst 0, 1) := by decide +kernel
theorem dX6_firstWith_35 : decode cX6_firstWith 35 = .ok (.istore 5, 2) := by decide +kernel
theorem dX6_firstWith_37 : decode cX6_firstWith 37 = .ok (.iload 5, 2) := by decide +kernel
theorem dX6_firstWith_39 : decode cX6_firstWith 39 = .ok (.aload_n 0, 1) := by decide +kernel
theorem dX6_firstWith_40 : decode cX6_firstWith 40 = .ok (.getfield 40, 3) := by decide +kernel
theorem dX6_firstWith_43 : decode cX6_firstWith 43 = .ok (.if_icmp .ge 59, 3) := by decide +kernel
theorem dX6_firstWith_46 : decode cX6_firstWith 46 = .ok (.aload_n 0, 1) := by decide +kernel
theorem dX6_firstWith_47 : decode cX6_firstWith 47 = .ok (.aload_n 0, 1) := by decide +kernel
theorem dX6_firstWith_48 : decode cX6_firstWith 48 = .ok (.getfield 46, 3) := by decide +kernel
theorem dX6_firstWith_51 : decode cX6_firstWith 51 = .ok (.iload 5, 2) := by decide +kernel
theorem dX6_firstWith_53 : decode cX6_firstWith 53 = .ok (.iadd, 1) := by decide +kernel
theorem dX6_firstWith_54 : decode cX6_firstWith 54 = .ok (.lload_n 1, 1) := by decide +kernel
theorem dX6_firstWith_55 : decode cX6_firstWith 55 = .ok (.invokevirtual 88, 3) := by decide +kernel
theorem dX6_firstWith_58 : decode cX6_firstWith 58 = .ok (.lstore 6, 2) := by decide +kernel
theorem dX6_firstWith_60 : decode cX6_firstWith 60 = .ok (.lload 6, 2) := by decide +kernel
theorem dX6_firstWith_62 : decode cX6_firstWith 62 = .ok (.ldc2_w 92, 3) := by decide +kernel
theorem dX6_firstWith_65 : decode cX6_firstWith 65 = .ok (.lcmp, 1) := by decide +kernel
theorem dX6_firstWith_66 : decode cX6_firstWith 66 = .ok (.ifCond .eq 30, 3) := by decide +kernel
theorem dX6_firstWith_69 : decode cX6_firstWith 69 = .ok (.lload 6, 2) := by decide +kernel
theorem dX6_firstWith_71 : decode cX6_firstWith 71 = .ok (.ldc2_w 94, 3) := by decide +kernel
theorem dX6_firstWith_74 : decode cX6_firstWith 74 = .ok (.lcmp, 1) := by decide +kernel
theorem dX6_firstWith_75 : decode cX6_firstWith 75 = .ok (.ifCond .gt 21, 3) := by decide +kernel
theorem dX6_firstWith_78 : decode cX6_firstWith 78 = .ok (.lload_n 3, 1) := by decide +kernel
theorem dX6_firstWith_79 : decode cX6_firstWith 79 = .ok (.ldc2_w 92, 3) := by decide +kernel
theorem dX6_firstWith_82 : decode cX6_firstWith 82 = .ok (.lcmp, 1) := by decide +kernel
theorem dX6_firstWith_83 : decode cX6_firstWith 83 = .ok (.ifCond .eq 10, 3) := by decide +kernel
theorem dX6_firstWith_86 : decode cX6_firstWith 86 = .ok (.lload 6, 2) := by decide +kernel
theorem dX6_firstWith_88 : decode cX6_firstWith 88 = .ok (.lload_n 3, 1) := by decide +kernel
theorem dX6_firstWith_89 : decode cX6_firstWith 89 = .ok (.lcmp, 1) := by decide +kernel
theorem dX6_firstWith_90 : decode cX6_firstWith 90 = .ok (.ifCond .ge 6, 3) := by decide +kernel
theorem dX6_firstWith_93 : decode cX6_firstWith 93 = .ok (.lload 6, 2) := by decide +kernel
theorem dX6_firstWith_95 : decode cX6_firstWith 95 = .ok (.lstore_n 3, 1) := by decide +kernel
theorem dX6_firstWith_96 : decode cX6_firstWith 96 = .ok (.iinc 5 1, 3) := by decide +kernel
theorem dX6_firstWith_99 : decode cX6_firstWith 99 = .ok (.goto (-62), 3) := by decide +kernel
theorem dX6_firstWith_102 : decode cX6_firstWith 102 = .ok (.lload_n 3, 1) := by decide +kernel
theorem dX6_firstWith_103 : decode cX6_firstWith 103 = .ok (.lreturn, 1) := by decide +kernel
def f_X6_firstWith_u2 (Q : Int → ml_St → Prop) (K21 : ml_St → Int → Prop) (K30 : ml_St → Int → Prop) : Nat → ml_St → Int → Int → Prop
| 0, _, _, _ => False
| N + 1, σ, x1, x3 =>
∀ _ : I32 (σ 46 9),
((σ 46 9) ≤ x3 →
K30 σ x1) ∧
(¬ ((σ 46 9) ≤ x3) →
f_X6_loopsOf σ x3 (fun r3 σ3 => ∀ _ : I64 r3,
(r3 ≠ x1 →
I32 (x3 + 1) ∧
∀ y5 : Int, y5 = x3 + 1 →
f_X6_firstWith_u2 Q K21 K30 N σ3 x1 y5) ∧
(r3 = x1 →
K21 σ3 x3)))
def f_X6_firstWith_u21 (Q : Int → ml_St → Prop) (σ : ml_St) (x3 : Int) : Prop :=
Q x3 σ
def f_X6_firstWith_u96 (Q : Int → ml_St → Prop) (K37 : ml_St → Int → Int → Int → Prop) (σ : ml_St) (x1 : Int) (x3 : Int) (x5 : Int) : Prop :=
I32 (x5 + 1) ∧
∀ y1 : Int, y1 = x5 + 1 →
K37 σ x1 x3 y1
def f_X6_firstWith_u93 (Q : Int → ml_St → Prop) (K37 : ml_St → Int → Int → Int → Prop) (σ : ml_St) (x1 : Int) (x5 : Int) (x6 : Int) : Prop :=
f_X6_firstWith_u96 Q K37 σ x1 x6 x5
def f_X6_firstWith_u37 (Q : Int → ml_St → Prop) (K102 : ml_St → Int → Prop) : Nat → ml_St → Int → Int → Int → Prop
| 0, _, _, _, _ => False
| N + 1, σ, x1, x3, x5 =>
∀ _ : I32 (σ 46 7),
((σ 46 7) ≤ x5 →
K102 σ x3) ∧
(¬ ((σ 46 7) ≤ x5) →
∀ _ : I32 (σ 46 9),
I32 ((σ 46 9) + x5) ∧
f_X6_firstFrom σ ((σ 46 9) + x5) x1 (fun r5 σ5 => ∀ _ : I64 r5,
(r5 = (-1) →
f_X6_firstWith_u96 Q (f_X6_firstWith_u37 Q K102 N) σ5 x1 x3 x5) ∧
(r5 ≠ (-1) →
(1000000000000000000 < r5 →
f_X6_firstWith_u96 Q (f_X6_firstWith_u37 Q K102 N) σ5 x1 x3 x5) ∧
(¬ (1000000000000000000 < r5) →
(x3 = (-1) →
f_X6_firstWith_u93 Q (f_X6_firstWith_u37 Q K102 N) σ5 x1 x5 r5) ∧
(x3 ≠ (-1) →
(x3 ≤ r5 →
f_X6_firstWith_u96 Q (f_X6_firstWith_u37 Q K102 N) σ5 x1 x3 x5) ∧
(¬ (x3 ≤ r5) →
f_X6_firstWith_u93 Q (f_X6_firstWith_u37 Q K102 N) σ5 x1 x5 r5))))))
def f_X6_firstWith_u102 (Q : Int → ml_St → Prop) (σ : ml_St) (x3 : Int) : Prop :=
Q x3 σ
def f_X6_firstWith_u30 (Q : Int → ml_St → Prop) (σ : ml_St) (x1 : Int) : Prop :=
∃ N1, f_X6_firstWith_u37 Q (f_X6_firstWith_u102 Q) N1 σ x1 (-1) 0
def f_X6_firstWith_u0 (Q : Int → ml_St → Prop) (σ : ml_St) (x1 : Int) : Prop :=
∃ N1, f_X6_firstWith_u2 Q (f_X6_firstWith_u21 Q) (f_X6_firstWith_u30 Q) N1 σ x1 1
def f_X6_firstWith (σ : ml_St) (x1 : Int) (Q : Int → ml_St → Prop) : Prop := f_X6_firstWith_u0 Q σ x1
def rm_X6_firstWith : Room := { frames := 2, cells := 0, slots := 0, locals := 51 }
set_option maxRecDepth 100000 in
set_option maxHeartbeats 4000000 in
theorem u_X6_firstWith_2 {p : Program} {e : Env} {s : State} {m : MethodId} {args : Array Value} {below : List Frame} {meth : Method} {c : Code} {base : Nat} {D : va_G} {cA : Nat → ClassId} {n : Nat} {l : Launch} {Q : Int → ml_St → Prop} {K21 : ml_St → Int → Prop} {K30 : ml_St → Int → Prop} (X : ml_X p s m c meth args D cA cX6_firstWith 8 RX6 (some .long)) (hn : 214 ≤ n) (hK21 : ∀ (σ : ml_St) (x3 : Int) (h_x3 : I32 x3) (ls : Array Slot), lv_has ls 8 [(3, .int (Int32.ofInt x3))] → K21 σ x3 → ml_V p l e rm_X6_firstWith s m args below meth c (MQ below (ml_Ql base D cA n Q) args s 0 0 (ml_A base)) base D cA 0 0 n n σ (F0 m 21 ls [])) (hK30 : ∀ (σ : ml_St) (x1 : Int) (h_x1 : I64 x1) (ls : Array Slot), lv_has ls 8 [(0, .ref (base + (46 : Int).toNat)), (1, .long (Int64.ofInt x1))] → K30 σ x1 → ml_V p l e rm_X6_firstWith s m args below meth c (MQ below (ml_Ql base D cA n Q) args s 0 0 (ml_A base)) base D cA 0 0 n n σ (F0 m 30 ls [])) : ∀ (N : Nat) (σ : ml_St) (x1 : Int) (x3 : Int) (h_x1 : I64 x1) (h_x3 : I32 x3) (ls : Array Slot), lv_has ls 8 [(0, .ref (base + (46 : Int).toNat)), (1, .long (Int64.ofInt x1)), (3, .int (Int32.ofInt x3))] → f_X6_firstWith_u2 Q K21 K30 N σ x1 x3 → ml_V p l e rm_X6_firstWith s m args below meth c (MQ below (ml_Ql base D cA n Q) args s 0 0 (ml_A base)) base D cA 0 0 n n σ (F0 m 2 ls []) := by
  intro N
  induction N with
  | zero => intro σ x1 x3 h_x1 h_x3 ls hl hw; exact False.elim hw
  | succ N ih =>
    intro σ x1 x3 h_x1 h_x3 ls hl hw
    unfold f_X6_firstWith_u2 at hw
    refine ml_iload_n (pc := 2) X hl 2 rfl rfl dX6_firstWith_2 ?_
    refine ml_aload_n (pc := 3) X hl 0 rfl rfl dX6_firstWith_3 ?_
    refine gf_X6_46 (pc := 4) X (ml_c46 hn) dX6_firstWith_4 (fun r1 => ?_)
    have hw := hw r1
    refine ml_icmp_ge (pc := 7) (tgt := 30) X h_x3 r1 dX6_firstWith_7 (by decide) (fun c2 => ?_) (fun c2 => ?_)
    · have hw := hw.1 c2
      exact hK30 σ x1 h_x1 _ (lv_sub hl [0, 1] rfl) hw
    · have hw := hw.2 c2
      refine ml_aload_n (pc := 10) X hl 0 rfl rfl dX6_firstWith_10 ?_
      refine ml_iload_n (pc := 11) X hl 2 rfl rfl dX6_firstWith_11 ?_
      refine ml_i2l (pc := 12) X h_x3 dX6_firstWith_12 ?_
      refine ml_calllV (pc := 13) (rest := []) X [.long (Int64.ofInt x3)] (by decide) rfl (ml_c46 hn) (c_X6_loopsOf l base D cA n hn σ x3 (h_x3).l _ hw) cv_X6_80 ⟨rfl, rfl⟩ ⟨by decide, by decide⟩ rfl rfl hl (Nat.le_of_ble_eq_true rfl) ⟨Nat.zero_le _, Nat.zero_le _⟩ dX6_firstWith_13 (fun r3 σ3 t3 hw => ?_)
      have hw := hw t3
      refine ml_lload_n (pc := 16) X hl 1 rfl rfl dX6_firstWith_16 ?_
      refine ml_lcmp_ne (pc := 17) (tgt := 24) X t3 h_x1 dX6_firstWith_17 dX6_firstWith_18 (by decide) (fun c4 => ?_) (fun c4 => ?_)
      · have hw := hw.1 c4
        obtain ⟨v5, hw⟩ := hw
        obtain ⟨y5, e5⟩ : ∃ y : Int, y = x3 + 1 := ⟨_, rfl⟩
        have hw := hw y5 e5
        rw [← e5] at v5
        refine ml_iinc (pc := 24) X e5 hl 2 rfl (by decide) (lst' := [(3, .int (Int32.ofInt y5)), (0, .ref (base + (46 : Int).toNat)), (1, .long (Int64.ofInt x1))]) rfl dX6_firstWith_24 (fun ls hl => ?_)
        refine ml_goto (pc := 27) (tgt := 2) X dX6_firstWith_27 (by decide) ?_
        exact ih σ3 x1 y5 h_x1 v5 _ (lv_sub hl [1, 2, 0] rfl) hw
      · have hw := hw.2 c4
        exact hK21 σ3 x3 h_x3 _ (lv_sub hl [2] rfl) hw
set_option maxRecDepth 100000 in
set_option maxHeartbeats 4000000 in
theorem u_X6_firstWith_21 {p : Program} {e : Env} {s : State} {m : MethodId} {args : Array Value} {below : List Frame} {meth : Method} {c : Code} {base : Nat} {D : va_G} {cA : Nat → ClassId} {n : Nat} {l : Launch} {Q : Int → ml_St → Prop} (X : ml_X p s m c meth args D cA cX6_firstWith 8 RX6 (some .long)) (hn : 214 ≤ n) (σ : ml_St) (x3 : Int) (h_x3 : I32 x3) (ls : Array Slot) (hl : lv_has ls 8 [(3, .int (Int32.ofInt x3))]) (hw : f_X6_firstWith_u21 Q σ x3) : ml_V p l e rm_X6_firstWith s m args below meth c (MQ below (ml_Ql base D cA n Q) args s 0 0 (ml_A base)) base D cA 0 0 n n σ (F0 m 21 ls []) := by
  unfold f_X6_firstWith_u21 at hw
  refine ml_iload_n (pc := 21) X hl 0 rfl rfl dX6_firstWith_21 ?_
  refine ml_i2l (pc := 22) X h_x3 dX6_firstWith_22 ?_
  exact ml_lret (pc := 23) X (h_x3).l hw dX6_firstWith_23
set_option maxRecDepth 100000 in
set_option maxHeartbeats 4000000 in
theorem u_X6_firstWith_96 {p : Program} {e : Env} {s : State} {m : MethodId} {args : Array Value} {below : List Frame} {meth : Method} {c : Code} {base : Nat} {D : va_G} {cA : Nat → ClassId} {n : Nat} {l : Launch} {Q : Int → ml_St → Prop} {K37 : ml_St → Int → Int → Int → Prop} (X : ml_X p s m c meth args D cA cX6_firstWith 8 RX6 (some .long)) (hn : 214 ≤ n) (hK37 : ∀ (σ : ml_St) (x1 : Int) (x3 : Int) (x5 : Int) (h_x1 : I64 x1) (h_x3 : I64 x3) (h_x5 : I32 x5) (ls : Array Slot), lv_has ls 8 [(0, .ref (base + (46 : Int).toNat)), (1, .long (Int64.ofInt x1)), (3, .long (Int64.ofInt x3)), (5, .int (Int32.ofInt x5))] → K37 σ x1 x3 x5 → ml_V p l e rm_X6_firstWith s m args below meth c (MQ below (ml_Ql base D cA n Q) args s 0 0 (ml_A base)) base D cA 0 0 n n σ (F0 m 37 ls [])) (σ : ml_St) (x1 : Int) (x3 : Int) (x5 : Int) (h_x1 : I64 x1) (h_x3 : I64 x3) (h_x5 : I32 x5) (ls : Array Slot) (hl : lv_has ls 8 [(0, .ref (base + (46 : Int).toNat)), (1, .long (Int64.ofInt x1)), (3, .long (Int64.ofInt x3)), (5, .int (Int32.ofInt x5))]) (hw : f_X6_firstWith_u96 Q K37 σ x1 x3 x5) : ml_V p l e rm_X6_firstWith s m args below meth c (MQ below (ml_Ql base D cA n Q) args s 0 0 (ml_A base)) base D cA 0 0 n n σ (F0 m 96 ls []) := by
  unfold f_X6_firstWith_u96 at hw
  obtain ⟨v1, hw⟩ := hw
  obtain ⟨y1, e1⟩ : ∃ y : Int, y = x5 + 1 := ⟨_, rfl⟩
  have hw := hw y1 e1
  rw [← e1] at v1
  refine ml_iinc (pc := 96) X e1 hl 3 rfl (by decide) (lst' := [(5, .int (Int32.ofInt y1)), (0, .ref (base + (46 : Int).toNat)), (1, .long (Int64.ofInt x1)), (3, .long (Int64.ofInt x3))]) rfl dX6_firstWith_96 (fun ls hl => ?_)
  refine ml_goto (pc := 99) (tgt := 37) X dX6_firstWith_99 (by decide) ?_
  exact hK37 σ x1 x3 y1 h_x1 h_x3 v1 _ (lv_sub hl [1, 2, 3, 0] rfl) hw
set_option maxRecDepth 100000 in
set_option maxHeartbeats 4000000 in
theorem u_X6_firstWith_93 {p : Program} {e : Env} {s : State} {m : MethodId} {args : Array Value} {below : List Frame} {meth : Method} {c : Code} {base : Nat} {D : va_G} {cA : Nat → ClassId} {n : Nat} {l : Launch} {Q : Int → ml_St → Prop} {K37 : ml_St → Int → Int → Int → Prop} (X : ml_X p s m c meth args D cA cX6_firstWith 8 RX6 (some .long)) (hn : 214 ≤ n) (hK37 : ∀ (σ : ml_St) (x1 : Int) (x3 : Int) (x5 : Int) (h_x1 : I64 x1) (h_x3 : I64 x3) (h_x5 : I32 x5) (ls : Array Slot), lv_has ls 8 [(0, .ref (base + (46 : Int).toNat)), (1, .long (Int64.ofInt x1)), (3, .long (Int64.ofInt x3)), (5, .int (Int32.ofInt x5))] → K37 σ x1 x3 x5 → ml_V p l e rm_X6_firstWith s m args below meth c (MQ below (ml_Ql base D cA n Q) args s 0 0 (ml_A base)) base D cA 0 0 n n σ (F0 m 37 ls [])) (σ : ml_St) (x1 : Int) (x5 : Int) (x6 : Int) (h_x1 : I64 x1) (h_x5 : I32 x5) (h_x6 : I64 x6) (ls : Array Slot) (hl : lv_has ls 8 [(0, .ref (base + (46 : Int).toNat)), (1, .long (Int64.ofInt x1)), (5, .int (Int32.ofInt x5)), (6, .long (Int64.ofInt x6))]) (hw : f_X6_firstWith_u93 Q K37 σ x1 x5 x6) : ml_V p l e rm_X6_firstWith s m args below meth c (MQ below (ml_Ql base D cA n Q) args s 0 0 (ml_A base)) base D cA 0 0 n n σ (F0 m 93 ls []) := by
  unfold f_X6_firstWith_u93 at hw
  refine ml_lload (pc := 93) X hl 3 rfl dX6_firstWith_93 ?_
  refine ml_lstore_n (pc := 95) X rfl hl (by decide) (lst' := [(3, .long (Int64.ofInt x6)), (0, .ref (base + (46 : Int).toNat)), (1, .long (Int64.ofInt x1)), (5, .int (Int32.ofInt x5)), (6, .long (Int64.ofInt x6))]) rfl dX6_firstWith_95 (fun ls hl => ?_)
  exact u_X6_firstWith_96 X hn hK37 σ x1 x6 x5 h_x1 h_x6 h_x5 _ (lv_sub hl [1, 2, 0, 3] rfl) hw
set_option maxRecDepth 100000 in
set_option maxHeartbeats 4000000 in
theorem u_X6_firstWith_37 {p : Program} {e : Env} {s : State} {m : MethodId} {args : Array Value} {below : List Frame} {meth : Method} {c : Code} {base : Nat} {D : va_G} {cA : Nat → ClassId} {n : Nat} {l : Launch} {Q : Int → ml_St → Prop} {K102 : ml_St → Int → Prop} (X : ml_X p s m c meth args D cA cX6_firstWith 8 RX6 (some .long)) (hn : 214 ≤ n) (hK102 : ∀ (σ : ml_St) (x3 : Int) (h_x3 : I64 x3) (ls : Array Slot), lv_has ls 8 [(3, .long (Int64.ofInt x3))] → K102 σ x3 → ml_V p l e rm_X6_firstWith s m args below meth c (MQ below (ml_Ql base D cA n Q) args s 0 0 (ml_A base)) base D cA 0 0 n n σ (F0 m 102 ls [])) : ∀ (N : Nat) (σ : ml_St) (x1 : Int) (x3 : Int) (x5 : Int) (h_x1 : I64 x1) (h_x3 : I64 x3) (h_x5 : I32 x5) (ls : Array Slot), lv_has ls 8 [(0, .ref (base + (46 : Int).toNat)), (1, .long (Int64.ofInt x1)), (3, .long (Int64.ofInt x3)), (5, .int (Int32.ofInt x5))] → f_X6_firstWith_u37 Q K102 N σ x1 x3 x5 → ml_V p l e rm_X6_firstWith s m args below meth c (MQ below (ml_Ql base D cA n Q) args s 0 0 (ml_A base)) base D cA 0 0 n n σ (F0 m 37 ls []) := by
  intro N
  induction N with
  | zero => intro σ x1 x3 x5 h_x1 h_x3 h_x5 ls hl hw; exact False.elim hw
  | succ N ih =>
    intro σ x1 x3 x5 h_x1 h_x3 h_x5 ls hl hw
    unfold f_X6_firstWith_u37 at hw
    refine ml_iload (pc := 37) X hl 3 rfl dX6_firstWith_37 ?_
    refine ml_aload_n (pc := 39) X hl 0 rfl rfl dX6_firstWith_39 ?_
    refine gf_X6_40 (pc := 40) X (ml_c46 hn) dX6_firstWith_40 (fun r1 => ?_)
    have hw := hw r1
    refine ml_icmp_ge (pc := 43) (tgt := 102) X h_x5 r1 dX6_firstWith_43 (by decide) (fun c2 => ?_) (fun c2 => ?_)
    · have hw := hw.1 c2
      exact hK102 σ x3 h_x3 _ (lv_sub hl [2] rfl) hw
    · have hw := hw.2 c2
      refine ml_aload_n (pc := 46) X hl 0 rfl rfl dX6_firstWith_46 ?_
      refine ml_aload_n (pc := 47) X hl 0 rfl rfl dX6_firstWith_47 ?_
      refine gf_X6_46 (pc := 48) X (ml_c46 hn) dX6_firstWith_48 (fun r3 => ?_)
      have hw := hw r3
      refine ml_iload (pc := 51) X hl 3 rfl dX6_firstWith_51 ?_
      obtain ⟨v4, hw⟩ := hw
      refine ml_iadd (pc := 53) X dX6_firstWith_53 ?_
      refine ml_lload_n (pc := 54) X hl 1 rfl rfl dX6_firstWith_54 ?_
      refine ml_calllV (pc := 55) (rest := []) X [.int (Int32.ofInt ((σ 46 9) + x5)), .long (Int64.ofInt x1)] (by decide) rfl (ml_c46 hn) (c_X6_firstFrom l base D cA n hn σ ((σ 46 9) + x5) x1 v4 h_x1 _ hw) cv_X6_88 ⟨rfl, rfl⟩ ⟨by decide, by decide⟩ rfl rfl hl (Nat.le_of_ble_eq_true rfl) ⟨Nat.zero_le _, Nat.zero_le _⟩ dX6_firstWith_55 (fun r5 σ5 t5 hw => ?_)
      have hw := hw t5
      refine ml_lstore (pc := 58) X hl (by decide) (lst' := [(6, .long (Int64.ofInt r5)), (0, .ref (base + (46 : Int).toNat)), (1, .long (Int64.ofInt x1)), (3, .long (Int64.ofInt x3)), (5, .int (Int32.ofInt x5))]) rfl dX6_firstWith_58 (fun ls hl => ?_)
      refine ml_lload (pc := 60) X hl 0 rfl dX6_firstWith_60 ?_
      refine ml_ldc2 (pc := 62) (v := (-1)) X dX6_firstWith_62 tc_3_224 ?_
      refine ml_lcmp_eq (pc := 65) (tgt := 96) X t5 ⟨by decide, by decide⟩ dX6_firstWith_65 dX6_firstWith_66 (by decide) (fun c6 => ?_) (fun c6 => ?_)
      · have hw := hw.1 c6
        exact u_X6_firstWith_96 X hn ih σ5 x1 x3 x5 h_x1 h_x3 h_x5 _ (lv_sub hl [1, 2, 3, 4] rfl) hw
      · have hw := hw.2 c6
        refine ml_lload (pc := 69) X hl 0 rfl dX6_firstWith_69 ?_
        refine ml_ldc2 (pc := 71) (v := 1000000000000000000) X dX6_firstWith_71 tc_3_233 ?_
        refine ml_lcmp_gt (pc := 74) (tgt := 96) X t5 ⟨by decide, by decide⟩ dX6_firstWith_74 dX6_firstWith_75 (by decide) (fun c7 => ?_) (fun c7 => ?_)
        · have hw := hw.1 c7
          exact u_X6_firstWith_96 X hn ih σ5 x1 x3 x5 h_x1 h_x3 h_x5 _ (lv_sub hl [1, 2, 3, 4] rfl) hw
        · have hw := hw.2 c7
          refine ml_lload_n (pc := 78) X hl 3 rfl rfl dX6_firstWith_78 ?_
          refine ml_ldc2 (pc := 79) (v := (-1)) X dX6_firstWith_79 tc_3_224 ?_
          refine ml_lcmp_eq (pc := 82) (tgt := 93) X h_x3 ⟨by decide, by decide⟩ dX6_firstWith_82 dX6_firstWith_83 (by decide) (fun c8 => ?_) (fun c8 => ?_)
          · have hw := hw.1 c8
            exact u_X6_firstWith_93 X hn ih σ5 x1 x5 r5 h_x1 h_x5 t5 _ (lv_sub hl [1, 2, 4, 0] rfl) hw
          · have hw := hw.2 c8
            refine ml_lload (pc := 86) X hl 0 rfl dX6_firstWith_86 ?_
            refine ml_lload_n (pc := 88) X hl 3 rfl rfl dX6_firstWith_88 ?_
            refine ml_lcmp_ge (pc := 89) (tgt := 96) X t5 h_x3 dX6_firstWith_89 dX6_firstWith_90 (by decide) (fun c9 => ?_) (fun c9 => ?_)
            · have hw := hw.1 c9
              exact u_X6_firstWith_96 X hn ih σ5 x1 x3 x5 h_x1 h_x3 h_x5 _ (lv_sub hl [1, 2, 3, 4] rfl) hw
            · have hw := hw.2 c9
              exact u_X6_firstWith_93 X hn ih σ5 x1 x5 r5 h_x1 h_x5 t5 _ (lv_sub hl [1, 2, 4, 0] rfl) hw
set_option maxRecDepth 100000 in
set_option maxHeartbeats 4000000 in
theorem u_X6_firstWith_102 {p : Program} {e : Env} {s : State} {m : MethodId} {args : Array Value} {below : List Frame} {meth : Method} {c : Code} {base : Nat} {D : va_G} {cA : Nat → ClassId} {n : Nat} {l : Launch} {Q : Int → ml_St → Prop} (X : ml_X p s m c meth args D cA cX6_firstWith 8 RX6 (some .long)) (hn : 214 ≤ n) (σ : ml_St) (x3 : Int) (h_x3 : I64 x3) (ls : Array Slot) (hl : lv_has ls 8 [(3, .long (Int64.ofInt x3))]) (hw : f_X6_firstWith_u102 Q σ x3) : ml_V p l e rm_X6_firstWith s m args below meth c (MQ below (ml_Ql base D cA n Q) args s 0 0 (ml_A base)) base D cA 0 0 n n σ (F0 m 102 ls []) := by
  unfold f_X6_firstWith_u102 at hw
  refine ml_lload_n (pc := 102) X hl 0 rfl rfl dX6_firstWith_102 ?_
  exact ml_lret (pc := 103) X h_x3 hw dX6_firstWith_103
set_option maxRecDepth 100000 in
set_option maxHeartbeats 4000000 in
theorem u_X6_firstWith_30 {p : Program} {e : Env} {s : State} {m : MethodId} {args : Array Value} {below : List Frame} {meth : Method} {c : Code} {base : Nat} {D : va_G} {cA : Nat → ClassId} {n : Nat} {l : Launch} {Q : Int → ml_St → Prop} (X : ml_X p s m c meth args D cA cX6_firstWith 8 RX6 (some .long)) (hn : 214 ≤ n) (σ : ml_St) (x1 : Int) (h_x1 : I64 x1) (ls : Array Slot) (hl : lv_has ls 8 [(0, .ref (base + (46 : Int).toNat)), (1, .long (Int64.ofInt x1))]) (hw : f_X6_firstWith_u30 Q σ x1) : ml_V p l e rm_X6_firstWith s m args below meth c (MQ below (ml_Ql base D cA n Q) args s 0 0 (ml_A base)) base D cA 0 0 n n σ (F0 m 30 ls []) := by
  unfold f_X6_firstWith_u30 at hw
  refine ml_ldc2 (pc := 30) (v := (-1)) X dX6_firstWith_30 tc_3_224 ?_
  refine ml_lstore_n (pc := 33) X rfl hl (by decide) (lst' := [(3, .long (Int64.ofInt (-1))), (0, .ref (base + (46 : Int).toNat)), (1, .long (Int64.ofInt x1))]) rfl dX6_firstWith_33 (fun ls hl => ?_)
  refine ml_iconst (pc := 34) X dX6_firstWith_34 ?_
  refine ml_istore (pc := 35) X hl (by decide) (lst' := [(5, .int (Int32.ofInt 0)), (3, .long (Int64.ofInt (-1))), (0, .ref (base + (46 : Int).toNat)), (1, .long (Int64.ofInt x1))]) rfl dX6_firstWith_35 (fun ls hl => ?_)
  obtain ⟨N0, hw⟩ := hw
  exact u_X6_firstWith_37 X hn (fun σ x3 h_x3 ls hl hw => u_X6_firstWith_102 X hn σ x3 h_x3 ls hl hw) N0 σ x1 (-1) 0 h_x1 ⟨by decide, by decide⟩ ⟨by decide, by decide⟩ _ (lv_sub hl [2, 3, 1, 0] rfl) hw
set_option maxRecDepth 100000 in
set_option maxHeartbeats 4000000 in
theorem u_X6_firstWith_0 {p : Program} {e : Env} {s : State} {m : MethodId} {args : Array Value} {below : List Frame} {meth : Method} {c : Code} {base : Nat} {D : va_G} {cA : Nat → ClassId} {n : Nat} {l : Launch} {Q : Int → ml_St → Prop} (X : ml_X p s m c meth args D cA cX6_firstWith 8 RX6 (some .long)) (hn : 214 ≤ n) (σ : ml_St) (x1 : Int) (h_x1 : I64 x1) (ls : Array Slot) (hl : lv_has ls 8 [(0, .ref (base + (46 : Int).toNat)), (1, .long (Int64.ofInt x1))]) (hw : f_X6_firstWith_u0 Q σ x1) : ml_V p l e rm_X6_firstWith s m args below meth c (MQ below (ml_Ql base D cA n Q) args s 0 0 (ml_A base)) base D cA 0 0 n n σ (F0 m 0 ls []) := by
  unfold f_X6_firstWith_u0 at hw
  refine ml_iconst (pc := 0) X dX6_firstWith_0 ?_
  refine ml_istore_n (pc := 1) X rfl hl (by decide) (lst' := [(3, .int (Int32.ofInt 1)), (0, .ref (base + (46 : Int).toNat)), (1, .long (Int64.ofInt x1))]) rfl dX6_firstWith_1 (fun ls hl => ?_)
  obtain ⟨N0, hw⟩ := hw
  exact u_X6_firstWith_2 X hn (fun σ x3 h_x3 ls hl hw => u_X6_firstWith_21 X hn σ x3 h_x3 ls hl hw) (fun σ x1 h_x1 ls hl hw => u_X6_firstWith_30 X hn σ x1 h_x1 ls hl hw) N0 σ x1 1 h_x1 ⟨by decide, by decide⟩ _ (lv_sub hl [1, 2, 0] rfl) hw
set_option maxRecDepth 100000 in
theorem c_X6_firstWith (l : Launch) (base : Nat) (D : va_G) (cA : Nat → ClassId) (n : Nat) (hn : 214 ≤ n) (σ : ml_St) (x1 : Int) (h_x1 : I64 x1) (Q : Int → ml_St → Prop) (hw : f_X6_firstWith σ x1 Q) : Met l yX6_firstWith (Cond.code yX6_firstWith cX6_firstWith 8 (some .long) :: ml_T) rm_X6_firstWith (va_Pc [.ref (base + (46 : Int).toNat), .long (Int64.ofInt x1)] (ml_U base D cA n σ)) (ml_Ql base D cA n Q) 0 0 (ml_A base) := by
  refine Met.ofW (cc := cX6_firstWith) (maxL := 8) (ret := (some .long)) (by decide) rfl ?_
  intro p e s m args below meth c s₁ B hml hv
  obtain ⟨rfl, hP, hK, hok, hro⟩ := hv
  have X : ml_X p s m c meth _ D cA cX6_firstWith 8 RX6 (some .long) := ⟨B.exec, B.bytes, hml, findClass_of_methodNamed B.named, fun w hw => atoms_spec (ws := Cond.code yX6_firstWith cX6_firstWith 8 (some .long) :: ml_T) B.pre w (List.mem_cons_of_mem _ hw), hK, B.notSynchronized, B.returns⟩
  have hl := lv_entry [.ref (base + (46 : Int).toNat), .long (Int64.ofInt x1)] (n := 8) (Nat.le_of_ble_eq_true rfl)
  rw [lg_entry_eq]
  generalize (lg_sl [.ref (base + (46 : Int).toNat), .long (Int64.ofInt x1)] ++ List.replicate (8 - (lg_sl [.ref (base + (46 : Int).toNat), .long (Int64.ofInt x1)]).length) Slot.unset).toArray = ls at hl ⊢
  have hl : lv_has ls 8 [(0, .ref (base + (46 : Int).toNat)), (1, .long (Int64.ofInt x1))] := hl
  unfold f_X6_firstWith at hw
  exact u_X6_firstWith_0 X hn σ x1 h_x1 _ (lv_sub hl [0, 1] rfl) hw s.heap [] hP va_S.rf hok hro
theorem dX11_first_0 : decode cX11_first 0 = .ok (.aload_n 0, 1) := by decide +kernel
theorem dX11_first_1 : decode cX11_first 1 = .ok (.iload_n 1, 1) := by decide +kernel
theorem dX11_first_2 : decode cX11_first 2 = .ok (.invokevirtual 121, 3) := by decide +kernel
theorem dX11_first_5 : decode cX11_first 5 = .ok (.ifCond .eq 17, 3) := by decide +kernel
theorem dX11_first_8 : decode cX11_first 8 = .ok (.lload_n 2, 1) := by decide +kernel
theorem dX11_first_9 : decode cX11_first 9 = .ok (.lconst 0, 1) := by decide +kernel
theorem dX11_first_10 : decode cX11_first 10 = .ok (.lcmp, 1) := by decide +kernel
theorem dX11_first_11 : decode cX11_first 11 = .ok (.ifCond .lt 11, 3) := by decide +kernel
theorem dX11_first_14 : decode cX11_first 14 = .ok (.lload_n 2, 1) := by decide +kernel
theorem dX11_first_15 : decode cX11_first 15 = .ok (.ldc2_w 178, 3) := by decide +kernel
theorem dX11_first_18 : decode cX11_first 18 = .ok (.lcmp, 1) := by decide +kernel
theorem dX11_first_19 : decode cX11_first 19 = .ok (.ifCond .le 7, 3) := by decide +kernel
theorem dX11_first_22 : decode cX11_first 22 = .ok (.ldc2_w 119, 3) := by decide +kernel
theorem dX11_first_25 : decode cX11_first 25 = .ok (.lreturn, 1) := by decide +kernel
theorem dX11_first_26 : decode cX11_first 26 = .ok (.aload_n 0, 1) := by decide +kernel
theorem dX11_first_27 : decode cX11_first 27 = .ok (.getfield 40, 3) := by decide +kernel
theorem dX11_first_30 : decode cX11_first 30 = .ok (.aload_n 0, 1) := by decide +kernel
theorem dX11_first_31 : decode cX11_first 31 = .ok (.getfield 67, 3) := by decide +kernel
theorem dX11_first_34 : decode cX11_first 34 = .ok (.iload_n 1, 1) := by decide +kernel
theorem dX11_first_35 : decode cX11_first 35 = .ok (.aaload, 1) := by decide +kernel
theorem dX11_first_36 : decode cX11_first 36 = .ok (.getfield 112, 3) := by decide +kernel
theorem dX11_first_39 : decode cX11_first 39 = .ok (.aload_n 0, 1) := by decide +kernel
theorem dX11_first_40 : decode cX11_first 40 = .ok (.getfield 19, 3) := by decide +kernel
theorem dX11_first_43 : decode cX11_first 43 = .ok (.aload_n 0, 1) := by decide +kernel
theorem dX11_first_44 : decode cX11_first 44 = .ok (.getfield 82, 3) := by decide +kernel
theorem dX11_first_47 : decode cX11_first 47 = .ok (.invokevirtual 148, 3) := by decide +kernel
theorem dX11_first_50 : decode cX11_first 50 = .ok (.aload_n 0, 1) := by decide +kernel
theorem dX11_first_51 : decode cX11_first 51 = .ok (.getfield 40, 3) := by decide +kernel
theorem dX11_first_54 : decode cX11_first 54 = .ok (.invokevirtual 158, 3) := by decide +kernel
theorem dX11_first_57 : decode cX11_first 57 = .ok (.aload_n 0, 1) := by decide +kernel
theorem dX11_first_58 : decode cX11_first 58 = .ok (.getfield 40, 3) := by decide +kernel
theorem dX11_first_61 : decode cX11_first 61 = .ok (.lload_n 2, 1) := by decide +kernel
theorem dX11_first_62 : decode cX11_first 62 = .ok (.invokevirtual 188, 3) := by decide +kernel
theorem dX11_first_65 : decode cX11_first 65 = .ok (.lreturn, 1) := by decide +kernel
def f_X11_first_u22 (Q : Int → ml_St → Prop) (σ : ml_St) : Prop :=
Q (-1) σ
def f_X11_first_u0 (Q : Int → ml_St → Prop) (σ : ml_St) (x1 : Int) (x2 : Int) : Prop :=
f_X11_isMade σ x1 (fun r1 σ1 => ∀ _ : ml_B r1,
(r1 = 0 →
f_X11_first_u22 Q σ1) ∧
(r1 ≠ 0 →
(x2 < 0 →
f_X11_first_u22 Q σ1) ∧
(¬ (x2 < 0) →
(x2 ≤ 1000000000000000000 →
(0 : Int) ≤ x1 ∧ (x1 : Int) < 16 ∧
∀ _ : I32 (σ1 1 11),
f_X6_study σ1 ((119 + 6 * x1) + 2) (σ1 1 11) (fun σ7 =>
f_X6_findRule σ7 (fun σ8 =>
f_X6_firstWith σ8 x2 (fun r9 σ9 => ∀ _ : I64 r9,
Q r9 σ9)))) ∧
(¬ (x2 ≤ 1000000000000000000) →
f_X11_first_u22 Q σ1))))
def f_X11_first (σ : ml_St) (x1 : Int) (x2 : Int) (Q : Int → ml_St → Prop) : Prop := f_X11_first_u0 Q σ x1 x2
def rm_X11_first : Room := { frames := 4, cells := 0, slots := 0, locals := 141 }
set_option maxRecDepth 100000 in
set_option maxHeartbeats 4000000 in
theorem u_X11_first_22 {p : Program} {e : Env} {s : State} {m : MethodId} {args : Array Value} {below : List Frame} {meth : Method} {c : Code} {base : Nat} {D : va_G} {cA : Nat → ClassId} {n : Nat} {l : Launch} {Q : Int → ml_St → Prop} (X : ml_X p s m c meth args D cA cX11_first 4 RX11 (some .long)) (hn : 214 ≤ n) (σ : ml_St) (ls : Array Slot) (hl : lv_has ls 4 []) (hw : f_X11_first_u22 Q σ) : ml_V p l e rm_X11_first s m args below meth c (MQ below (ml_Ql base D cA n Q) args s 0 0 (ml_A base)) base D cA 0 0 n n σ (F0 m 22 ls []) := by
  unfold f_X11_first_u22 at hw
  refine ml_ldc2 (pc := 22) (v := (-1)) X dX11_first_22 tc_3_125 ?_
  exact ml_lret (pc := 25) X ⟨by decide, by decide⟩ hw dX11_first_25
set_option maxRecDepth 100000 in
set_option maxHeartbeats 4000000 in
theorem u_X11_first_0 {p : Program} {e : Env} {s : State} {m : MethodId} {args : Array Value} {below : List Frame} {meth : Method} {c : Code} {base : Nat} {D : va_G} {cA : Nat → ClassId} {n : Nat} {l : Launch} {Q : Int → ml_St → Prop} (X : ml_X p s m c meth args D cA cX11_first 4 RX11 (some .long)) (hn : 214 ≤ n) (σ : ml_St) (x1 : Int) (x2 : Int) (h_x1 : I32 x1) (h_x2 : I64 x2) (ls : Array Slot) (hl : lv_has ls 4 [(0, .ref (base + (1 : Int).toNat)), (1, .int (Int32.ofInt x1)), (2, .long (Int64.ofInt x2))]) (hw : f_X11_first_u0 Q σ x1 x2) : ml_V p l e rm_X11_first s m args below meth c (MQ below (ml_Ql base D cA n Q) args s 0 0 (ml_A base)) base D cA 0 0 n n σ (F0 m 0 ls []) := by
  unfold f_X11_first_u0 at hw
  refine ml_aload_n (pc := 0) X hl 0 rfl rfl dX11_first_0 ?_
  refine ml_iload_n (pc := 1) X hl 1 rfl rfl dX11_first_1 ?_
  refine ml_callzV (pc := 2) (rest := []) X [.int (Int32.ofInt x1)] (by decide) rfl (ml_c1 hn) (c_X11_isMade l base D cA n hn σ x1 h_x1 _ hw) cv_X11_121 ⟨rfl, rfl⟩ ⟨by decide, by decide⟩ rfl rfl hl (Nat.le_of_ble_eq_true rfl) ⟨Nat.zero_le _, Nat.zero_le _⟩ dX11_first_2 (fun r1 σ1 t1 hw => ?_)
  have hw := hw t1
  refine ml_if_eq (pc := 5) (tgt := 22) X t1.i dX11_first_5 (by decide) (fun c2 => ?_) (fun c2 => ?_)
  · have hw := hw.1 c2
    exact u_X11_first_22 X hn σ1   _ (lv_sub hl [] rfl) hw
  · have hw := hw.2 c2
    refine ml_lload_n (pc := 8) X hl 2 rfl rfl dX11_first_8 ?_
    refine ml_lconst0 (pc := 9) X dX11_first_9 ?_
    refine ml_lcmp_lt (pc := 10) (tgt := 22) X h_x2 ⟨by decide, by decide⟩ dX11_first_10 dX11_first_11 (by decide) (fun c3 => ?_) (fun c3 => ?_)
    · have hw := hw.1 c3
      exact u_X11_first_22 X hn σ1   _ (lv_sub hl [] rfl) hw
    · have hw := hw.2 c3
      refine ml_lload_n (pc := 14) X hl 2 rfl rfl dX11_first_14 ?_
      refine ml_ldc2 (pc := 15) (v := 1000000000000000000) X dX11_first_15 tc_3_203 ?_
      refine ml_lcmp_le (pc := 18) (tgt := 26) X h_x2 ⟨by decide, by decide⟩ dX11_first_18 dX11_first_19 (by decide) (fun c4 => ?_) (fun c4 => ?_)
      · have hw := hw.1 c4
        refine ml_aload_n (pc := 26) X hl 0 rfl rfl dX11_first_26 ?_
        refine gf_X11_40 (pc := 27) X (ml_c1 hn) dX11_first_27 ?_
        refine ml_aload_n (pc := 30) X hl 0 rfl rfl dX11_first_30 ?_
        refine gf_X11_67 (pc := 31) X (ml_c1 hn) dX11_first_31 ?_
        refine ml_iload_n (pc := 34) X hl 1 rfl rfl dX11_first_34 ?_
        obtain ⟨a5, b5, hw⟩ := hw
        refine ml_aald_words (pc := 35) X hn a5 b5 dX11_first_35 ?_
        refine gf_X11_112 (pc := 36) X (ml_at_words hn a5 b5) dX11_first_36 ?_
        refine ml_aload_n (pc := 39) X hl 0 rfl rfl dX11_first_39 ?_
        refine gf_X11_19 (pc := 40) X (ml_c1 hn) dX11_first_40 ?_
        refine ml_aload_n (pc := 43) X hl 0 rfl rfl dX11_first_43 ?_
        refine gf_X11_82 (pc := 44) X (ml_c1 hn) dX11_first_44 (fun r6 => ?_)
        have hw := hw r6
        refine ml_callvV (pc := 47) (rest := []) X [.ref (base + (((119 + 6 * x1) + 2) : Int).toNat), .ref (base + (4 : Int).toNat), .int (Int32.ofInt (σ1 1 11))] (by decide) rfl (ml_c46 hn) (c_X6_study l base D cA n hn σ1 ((119 + 6 * x1) + 2) (ml_r20_2 hn (ml_at_words hn a5 b5)) (σ1 1 11) r6 _ hw) cv_X11_148 ⟨rfl, rfl⟩ ⟨by decide, by decide⟩ rfl rfl hl (Nat.le_of_ble_eq_true rfl) ⟨Nat.zero_le _, Nat.zero_le _⟩ dX11_first_47 (fun σ7 hw => ?_)
        refine ml_aload_n (pc := 50) X hl 0 rfl rfl dX11_first_50 ?_
        refine gf_X11_40 (pc := 51) X (ml_c1 hn) dX11_first_51 ?_
        refine ml_callvV (pc := 54) (rest := []) X [] (by decide) rfl (ml_c46 hn) (c_X6_findRule l base D cA n hn σ7 _ hw) cv_X11_158 ⟨rfl, rfl⟩ ⟨by decide, by decide⟩ rfl rfl hl (Nat.le_of_ble_eq_true rfl) ⟨Nat.zero_le _, Nat.zero_le _⟩ dX11_first_54 (fun σ8 hw => ?_)
        refine ml_aload_n (pc := 57) X hl 0 rfl rfl dX11_first_57 ?_
        refine gf_X11_40 (pc := 58) X (ml_c1 hn) dX11_first_58 ?_
        refine ml_lload_n (pc := 61) X hl 2 rfl rfl dX11_first_61 ?_
        refine ml_calllV (pc := 62) (rest := []) X [.long (Int64.ofInt x2)] (by decide) rfl (ml_c46 hn) (c_X6_firstWith l base D cA n hn σ8 x2 h_x2 _ hw) cv_X11_188 ⟨rfl, rfl⟩ ⟨by decide, by decide⟩ rfl rfl hl (Nat.le_of_ble_eq_true rfl) ⟨Nat.zero_le _, Nat.zero_le _⟩ dX11_first_62 (fun r9 σ9 t9 hw => ?_)
        have hw := hw t9
        exact ml_lret (pc := 65) X t9 hw dX11_first_65
      · have hw := hw.2 c4
        exact u_X11_first_22 X hn σ1   _ (lv_sub hl [] rfl) hw
set_option maxRecDepth 100000 in
theorem c_X11_first (l : Launch) (base : Nat) (D : va_G) (cA : Nat → ClassId) (n : Nat) (hn : 214 ≤ n) (σ : ml_St) (x1 : Int) (x2 : Int) (h_x1 : I32 x1) (h_x2 : I64 x2) (Q : Int → ml_St → Prop) (hw : f_X11_first σ x1 x2 Q) : Met l yX11_first (Cond.code yX11_first cX11_first 4 (some .long) :: ml_T) rm_X11_first (va_Pc [.ref (base + (1 : Int).toNat), .int (Int32.ofInt x1), .long (Int64.ofInt x2)] (ml_U base D cA n σ)) (ml_Ql base D cA n Q) 0 0 (ml_A base) := by
  refine Met.ofW (cc := cX11_first) (maxL := 4) (ret := (some .long)) (by decide) rfl ?_
  intro p e s m args below meth c s₁ B hml hv
  obtain ⟨rfl, hP, hK, hok, hro⟩ := hv
  have X : ml_X p s m c meth _ D cA cX11_first 4 RX11 (some .long) := ⟨B.exec, B.bytes, hml, findClass_of_methodNamed B.named, fun w hw => atoms_spec (ws := Cond.code yX11_first cX11_first 4 (some .long) :: ml_T) B.pre w (List.mem_cons_of_mem _ hw), hK, B.notSynchronized, B.returns⟩
  have hl := lv_entry [.ref (base + (1 : Int).toNat), .int (Int32.ofInt x1), .long (Int64.ofInt x2)] (n := 4) (Nat.le_of_ble_eq_true rfl)
  rw [lg_entry_eq]
  generalize (lg_sl [.ref (base + (1 : Int).toNat), .int (Int32.ofInt x1), .long (Int64.ofInt x2)] ++ List.replicate (4 - (lg_sl [.ref (base + (1 : Int).toNat), .int (Int32.ofInt x1), .long (Int64.ofInt x2)]).length) Slot.unset).toArray = ls at hl ⊢
  have hl : lv_has ls 4 [(0, .ref (base + (1 : Int).toNat)), (1, .int (Int32.ofInt x1)), (2, .long (Int64.ofInt x2))] := hl
  unfold f_X11_first at hw
  exact u_X11_first_0 X hn σ x1 x2 h_x1 h_x2 _ (lv_sub hl [0, 1, 2] rfl) hw s.heap [] hP va_S.rf hok hro
theorem dX9_isAlike_0 : decode cX9_isAlike 0 = .ok (.aload_n 0, 1) := by decide +kernel
theorem dX9_isAlike_1 : decode cX9_isAlike 1 = .ok (.getfield 19, 3) := by decide +kernel
theorem dX9_isAlike_4 : decode cX9_isAlike 4 = .ok (.aload_n 1, 1) := by decide +kernel
theorem dX9_isAlike_5 : decode cX9_isAlike 5 = .ok (.getfield 19, 3) := by decide +kernel
theorem dX9_isAlike_8 : decode cX9_isAlike 8 = .ok (.lcmp, 1) := by decide +kernel
theorem dX9_isAlike_9 : decode cX9_isAlike 9 = .ok (.ifCond .ne 7, 3) := by decide +kernel
theorem dX9_isAlike_12 : decode cX9_isAlike 12 = .ok (.iconst 1, 1) := by decide +kernel
theorem dX9_isAlike_13 : decode cX9_isAlike 13 = .ok (.goto 4, 3) := by decide +kernel
theorem dX9_isAlike_16 : decode cX9_isAlike 16 = .ok (.iconst 0, 1) := by decide +kernel
theorem dX9_isAlike_17 : decode cX9_isAlike 17 = .ok (.istore_n 3, 1) := by decide +kernel
theorem dX9_isAlike_18 : decode cX9_isAlike 18 = .ok (.iconst 0, 1) := by decide +kernel
theorem dX9_isAlike_19 : decode cX9_isAlike 19 = .ok (.istore 4, 2) := by decide +kernel
theorem dX9_isAlike_21 : decode cX9_isAlike 21 = .ok (.iload 4, 2) := by decide +kernel
theorem dX9_isAlike_23 : decode cX9_isAlike 23 = .ok (.iconst 2, 1) := by decide +kernel
theorem dX9_isAlike_24 : decode cX9_isAlike 24 = .ok (.iload_n 2, 1) := by decide +kernel
theorem dX9_isAlike_25 : decode cX9_isAlike 25 = .ok (.imul, 1) := by decide +kernel
theorem dX9_isAlike_26 : decode cX9_isAlike 26 = .ok (.if_icmp .ge 36, 3) := by decide +kernel
theorem dX9_isAlike_29 : decode cX9_isAlike 29 = .ok (.iload_n 3, 1) := by decide +kernel
theorem dX9_isAlike_30 : decode cX9_isAlike 30 = .ok (.ifCond .eq 24, 3) := by decide +kernel
theorem dX9_isAlike_33 : decode cX9_isAlike 33 = .ok (.aload_n 0, 1) := by decide +kernel
theorem dX9_isAlike_34 : decode cX9_isAlike 34 = .ok (.getfield 9, 3) := by decide +kernel
theorem dX9_isAlike_37 : decode cX9_isAlike 37 = .ok (.iload 4, 2) := by decide +kernel
theorem dX9_isAlike_39 : decode cX9_isAlike 39 = .ok (.iaload, 1) := by decide +kernel
theorem dX9_isAlike_40 : decode cX9_isAlike 40 = .ok (.aload_n 1, 1) := by decide +kernel
theorem dX9_isAlike_41 : decode cX9_isAlike 41 = .ok (.getfield 9, 3) := by decide +kernel
theorem dX9_isAlike_44 : decode cX9_isAlike 44 = .ok (.iload 4, 2) := by decide +kernel
theorem dX9_isAlike_46 : decode cX9_isAlike 46 = .ok (.iaload, 1) := by decide +kernel
theorem dX9_isAlike_47 : decode cX9_isAlike 47 = .ok (.if_icmp .ne 7, 3) := by decide +kernel
theorem dX9_isAlike_50 : decode cX9_isAlike 50 = .ok (.iconst 1, 1) := by decide +kernel
theorem dX9_isAlike_51 : decode cX9_isAlike 51 = .ok (.goto 4, 3) := by decide +kernel
theorem dX9_isAlike_54 : decode cX9_isAlike 54 = .ok (.iconst 0, 1) := by decide +kernel
theorem dX9_isAlike_55 : decode cX9_isAlike 55 = .ok (.istore_n 3, 1) := by decide +kernel
theorem dX9_isAlike_56 : decode cX9_isAlike 56 = .ok (.iinc 4 1, 3) := by decide +kernel
theorem dX9_isAlike_59 : decode cX9_isAlike 59 = .ok (.goto (-38), 3) := by decide +kernel
theorem dX9_isAlike_62 : decode cX9_isAlike 62 = .ok (.iload_n 3, 1) := by decide +kernel
theorem dX9_isAlike_63 : decode cX9_isAlike 63 = .ok (.ireturn, 1) := by decide +kernel
def f_X9_isAlike_u55 (Q : Int → ml_St → Prop) (K21 : ml_St → Int → Int → Int → Prop) (th : Int) (p1 : Int) (σ : ml_St) (x2 : Int) (x4 : Int) (s0 : Int) : Prop :=
I32 (x4 + 1) ∧
∀ y1 : Int, y1 = x4 + 1 →
K21 σ x2 s0 y1
def f_X9_isAlike_u54 (Q : Int → ml_St → Prop) (K21 : ml_St → Int → Int → Int → Prop) (th : Int) (p1 : Int) (σ : ml_St) (x2 : Int) (x4 : Int) : Prop :=
f_X9_isAlike_u55 Q K21 th p1 σ x2 x4 0
def f_X9_isAlike_u21 (Q : Int → ml_St → Prop) (K62 : ml_St → Int → Prop) (th : Int) (p1 : Int) : Nat → ml_St → Int → Int → Int → Prop
| 0, _, _, _, _ => False
| N + 1, σ, x2, x3, x4 =>
I32 (2 * x2) ∧
((2 * x2) ≤ x4 →
K62 σ x3) ∧
(¬ ((2 * x2) ≤ x4) →
(x3 = 0 →
f_X9_isAlike_u54 Q (f_X9_isAlike_u21 Q K62 th p1 N) th p1 σ x2 x4) ∧
(x3 ≠ 0 →
(0 : Int) ≤ x4 ∧ (x4 : Int) < 10 ∧
∀ _ : I32 (σ (th + 1) x4),
(0 : Int) ≤ x4 ∧ (x4 : Int) < 10 ∧
∀ _ : I32 (σ (p1 + 1) x4),
(((σ (th + 1) x4) : Int) ≠ (σ (p1 + 1) x4) →
f_X9_isAlike_u54 Q (f_X9_isAlike_u21 Q K62 th p1 N) th p1 σ x2 x4) ∧
((σ (th + 1) x4) = (σ (p1 + 1) x4) →
f_X9_isAlike_u55 Q (f_X9_isAlike_u21 Q K62 th p1 N) th p1 σ x2 x4 1)))
def f_X9_isAlike_u62 (Q : Int → ml_St → Prop) (th : Int) (p1 : Int) (σ : ml_St) (x3 : Int) : Prop :=
Q x3 σ
def f_X9_isAlike_u17 (Q : Int → ml_St → Prop) (th : Int) (p1 : Int) (σ : ml_St) (x2 : Int) (s0 : Int) : Prop :=
∃ N1, f_X9_isAlike_u21 Q (f_X9_isAlike_u62 Q th p1) th p1 N1 σ x2 s0 0
def f_X9_isAlike_u0 (Q : Int → ml_St → Prop) (th : Int) (p1 : Int) (σ : ml_St) (x2 : Int) : Prop :=
∀ _ : I64 (σ th 2),
∀ _ : I64 (σ p1 2),
(((σ th 2) : Int) ≠ (σ p1 2) →
f_X9_isAlike_u17 Q th p1 σ x2 0) ∧
((σ th 2) = (σ p1 2) →
f_X9_isAlike_u17 Q th p1 σ x2 1)
def f_X9_isAlike (σ : ml_St) (th : Int) (p1 : Int) (x2 : Int) (Q : Int → ml_St → Prop) : Prop := f_X9_isAlike_u0 Q th p1 σ x2
def rm_X9_isAlike : Room := { frames := 0, cells := 0, slots := 0, locals := 0 }
set_option maxRecDepth 100000 in
set_option maxHeartbeats 4000000 in
theorem u_X9_isAlike_55 {p : Program} {e : Env} {s : State} {m : MethodId} {args : Array Value} {below : List Frame} {meth : Method} {c : Code} {base : Nat} {D : va_G} {cA : Nat → ClassId} {n : Nat} {l : Launch} {th : Int} {p1 : Int} {Q : Int → ml_St → Prop} {K21 : ml_St → Int → Int → Int → Prop} (X : ml_X p s m c meth args D cA cX9_isAlike 5 RX9 (some .boolean)) (hn : 214 ≤ n) (hp_th : ml_at n th (19, 8)) (hp_p1 : ml_at n p1 (19, 8)) (hK21 : ∀ (σ : ml_St) (x2 : Int) (x3 : Int) (x4 : Int) (h_x2 : I32 x2) (h_x3 : ml_B x3) (h_x4 : I32 x4) (ls : Array Slot), lv_has ls 5 [(0, .ref (base + (th : Int).toNat)), (1, .ref (base + (p1 : Int).toNat)), (2, .int (Int32.ofInt x2)), (3, .int (Int32.ofInt x3)), (4, .int (Int32.ofInt x4))] → K21 σ x2 x3 x4 → ml_V p l e rm_X9_isAlike s m args below meth c (MQ below (ml_Qi ml_B base D cA n Q) args s 0 0 (ml_A base)) base D cA 0 0 n n σ (F0 m 21 ls [])) (σ : ml_St) (x2 : Int) (x4 : Int) (s0 : Int) (h_x2 : I32 x2) (h_x4 : I32 x4) (h_s0 : ml_B s0) (ls : Array Slot) (hl : lv_has ls 5 [(0, .ref (base + (th : Int).toNat)), (1, .ref (base + (p1 : Int).toNat)), (2, .int (Int32.ofInt x2)), (4, .int (Int32.ofInt x4))]) (hw : f_X9_isAlike_u55 Q K21 th p1 σ x2 x4 s0) : ml_V p l e rm_X9_isAlike s m args below meth c (MQ below (ml_Qi ml_B base D cA n Q) args s 0 0 (ml_A base)) base D cA 0 0 n n σ (F0 m 55 ls [.int (Int32.ofInt s0)]) := by
  unfold f_X9_isAlike_u55 at hw
  refine ml_istore_n (pc := 55) X rfl hl (by decide) (lst' := [(3, .int (Int32.ofInt s0)), (0, .ref (base + (th : Int).toNat)), (1, .ref (base + (p1 : Int).toNat)), (2, .int (Int32.ofInt x2)), (4, .int (Int32.ofInt x4))]) rfl dX9_isAlike_55 (fun ls hl => ?_)
  obtain ⟨v1, hw⟩ := hw
  obtain ⟨y1, e1⟩ : ∃ y : Int, y = x4 + 1 := ⟨_, rfl⟩
  have hw := hw y1 e1
  rw [← e1] at v1
  refine ml_iinc (pc := 56) X e1 hl 4 rfl (by decide) (lst' := [(4, .int (Int32.ofInt y1)), (3, .int (Int32.ofInt s0)), (0, .ref (base + (th : Int).toNat)), (1, .ref (base + (p1 : Int).toNat)), (2, .int (Int32.ofInt x2))]) rfl dX9_isAlike_56 (fun ls hl => ?_)
  refine ml_goto (pc := 59) (tgt := 21) X dX9_isAlike_59 (by decide) ?_
  exact hK21 σ x2 s0 y1 h_x2 h_s0 v1 _ (lv_sub hl [2, 3, 4, 1, 0] rfl) hw
set_option maxRecDepth 100000 in
set_option maxHeartbeats 4000000 in
theorem u_X9_isAlike_54 {p : Program} {e : Env} {s : State} {m : MethodId} {args : Array Value} {below : List Frame} {meth : Method} {c : Code} {base : Nat} {D : va_G} {cA : Nat → ClassId} {n : Nat} {l : Launch} {th : Int} {p1 : Int} {Q : Int → ml_St → Prop} {K21 : ml_St → Int → Int → Int → Prop} (X : ml_X p s m c meth args D cA cX9_isAlike 5 RX9 (some .boolean)) (hn : 214 ≤ n) (hp_th : ml_at n th (19, 8)) (hp_p1 : ml_at n p1 (19, 8)) (hK21 : ∀ (σ : ml_St) (x2 : Int) (x3 : Int) (x4 : Int) (h_x2 : I32 x2) (h_x3 : ml_B x3) (h_x4 : I32 x4) (ls : Array Slot), lv_has ls 5 [(0, .ref (base + (th : Int).toNat)), (1, .ref (base + (p1 : Int).toNat)), (2, .int (Int32.ofInt x2)), (3, .int (Int32.ofInt x3)), (4, .int (Int32.ofInt x4))] → K21 σ x2 x3 x4 → ml_V p l e rm_X9_isAlike s m args below meth c (MQ below (ml_Qi ml_B base D cA n Q) args s 0 0 (ml_A base)) base D cA 0 0 n n σ (F0 m 21 ls [])) (σ : ml_St) (x2 : Int) (x4 : Int) (h_x2 : I32 x2) (h_x4 : I32 x4) (ls : Array Slot) (hl : lv_has ls 5 [(0, .ref (base + (th : Int).toNat)), (1, .ref (base + (p1 : Int).toNat)), (2, .int (Int32.ofInt x2)), (4, .int (Int32.ofInt x4))]) (hw : f_X9_isAlike_u54 Q K21 th p1 σ x2 x4) : ml_V p l e rm_X9_isAlike s m args below meth c (MQ below (ml_Qi ml_B base D cA n Q) args s 0 0 (ml_A base)) base D cA 0 0 n n σ (F0 m 54 ls []) := by
  unfold f_X9_isAlike_u54 at hw
  refine ml_iconst (pc := 54) X dX9_isAlike_54 ?_
  exact u_X9_isAlike_55 X hn hp_th hp_p1 hK21 σ x2 x4 0 h_x2 h_x4 ⟨by decide, by decide⟩ _ (lv_sub hl [0, 1, 2, 3] rfl) hw
set_option maxRecDepth 100000 in
set_option maxHeartbeats 4000000 in
theorem u_X9_isAlike_21 {p : Program} {e : Env} {s : State} {m : MethodId} {args : Array Value} {below : List Frame} {meth : Method} {c : Code} {base : Nat} {D : va_G} {cA : Nat → ClassId} {n : Nat} {l : Launch} {th : Int} {p1 : Int} {Q : Int → ml_St → Prop} {K62 : ml_St → Int → Prop} (X : ml_X p s m c meth args D cA cX9_isAlike 5 RX9 (some .boolean)) (hn : 214 ≤ n) (hp_th : ml_at n th (19, 8)) (hp_p1 : ml_at n p1 (19, 8)) (hK62 : ∀ (σ : ml_St) (x3 : Int) (h_x3 : ml_B x3) (ls : Array Slot), lv_has ls 5 [(3, .int (Int32.ofInt x3))] → K62 σ x3 → ml_V p l e rm_X9_isAlike s m args below meth c (MQ below (ml_Qi ml_B base D cA n Q) args s 0 0 (ml_A base)) base D cA 0 0 n n σ (F0 m 62 ls [])) : ∀ (N : Nat) (σ : ml_St) (x2 : Int) (x3 : Int) (x4 : Int) (h_x2 : I32 x2) (h_x3 : ml_B x3) (h_x4 : I32 x4) (ls : Array Slot), lv_has ls 5 [(0, .ref (base + (th : Int).toNat)), (1, .ref (base + (p1 : Int).toNat)), (2, .int (Int32.ofInt x2)), (3, .int (Int32.ofInt x3)), (4, .int (Int32.ofInt x4))] → f_X9_isAlike_u21 Q K62 th p1 N σ x2 x3 x4 → ml_V p l e rm_X9_isAlike s m args below meth c (MQ below (ml_Qi ml_B base D cA n Q) args s 0 0 (ml_A base)) base D cA 0 0 n n σ (F0 m 21 ls []) := by
  intro N
  induction N with
  | zero => intro σ x2 x3 x4 h_x2 h_x3 h_x4 ls hl hw; exact False.elim hw
  | succ N ih =>
    intro σ x2 x3 x4 h_x2 h_x3 h_x4 ls hl hw
    unfold f_X9_isAlike_u21 at hw
    refine ml_iload (pc := 21) X hl 4 rfl dX9_isAlike_21 ?_
    refine ml_iconst (pc := 23) X dX9_isAlike_23 ?_
    refine ml_iload_n (pc := 24) X hl 2 rfl rfl dX9_isAlike_24 ?_
    obtain ⟨v1, hw⟩ := hw
    refine ml_imul (pc := 25) X dX9_isAlike_25 ?_
    refine ml_icmp_ge (pc := 26) (tgt := 62) X h_x4 v1 dX9_isAlike_26 (by decide) (fun c2 => ?_) (fun c2 => ?_)
    · have hw := hw.1 c2
      exact hK62 σ x3 h_x3 _ (lv_sub hl [3] rfl) hw
    · have hw := hw.2 c2
      refine ml_iload_n (pc := 29) X hl 3 rfl rfl dX9_isAlike_29 ?_
      refine ml_if_eq (pc := 30) (tgt := 54) X h_x3.i dX9_isAlike_30 (by decide) (fun c3 => ?_) (fun c3 => ?_)
      · have hw := hw.1 c3
        exact u_X9_isAlike_54 X hn hp_th hp_p1 ih σ x2 x4 h_x2 h_x4 _ (lv_sub hl [0, 1, 2, 4] rfl) hw
      · have hw := hw.2 c3
        refine ml_aload_n (pc := 33) X hl 0 rfl rfl dX9_isAlike_33 ?_
        refine gf_X9_9 (pc := 34) X hp_th dX9_isAlike_34 ?_
        refine ml_iload (pc := 37) X hl 4 rfl dX9_isAlike_37 ?_
        obtain ⟨a4, b4, hw⟩ := hw
        refine ml_iald (pc := 39) (N := 10) X (ml_r19_1 hn hp_th) a4 b4 dX9_isAlike_39 (fun r4 => ?_)
        have hw := hw r4
        refine ml_aload_n (pc := 40) X hl 1 rfl rfl dX9_isAlike_40 ?_
        refine gf_X9_9 (pc := 41) X hp_p1 dX9_isAlike_41 ?_
        refine ml_iload (pc := 44) X hl 4 rfl dX9_isAlike_44 ?_
        obtain ⟨a5, b5, hw⟩ := hw
        refine ml_iald (pc := 46) (N := 10) X (ml_r19_1 hn hp_p1) a5 b5 dX9_isAlike_46 (fun r5 => ?_)
        have hw := hw r5
        refine ml_icmp_ne (pc := 47) (tgt := 54) X r4 r5 dX9_isAlike_47 (by decide) (fun c6 => ?_) (fun c6 => ?_)
        · have hw := hw.1 c6
          exact u_X9_isAlike_54 X hn hp_th hp_p1 ih σ x2 x4 h_x2 h_x4 _ (lv_sub hl [0, 1, 2, 4] rfl) hw
        · have hw := hw.2 c6
          refine ml_iconst (pc := 50) X dX9_isAlike_50 ?_
          refine ml_goto (pc := 51) (tgt := 55) X dX9_isAlike_51 (by decide) ?_
          exact u_X9_isAlike_55 X hn hp_th hp_p1 ih σ x2 x4 1 h_x2 h_x4 ⟨by decide, by decide⟩ _ (lv_sub hl [0, 1, 2, 4] rfl) hw
set_option maxRecDepth 100000 in
set_option maxHeartbeats 4000000 in
theorem u_X9_isAlike_62 {p : Program} {e : Env} {s : State} {m : MethodId} {args : Array Value} {below : List Frame} {meth : Method} {c : Code} {base : Nat} {D : va_G} {cA : Nat → ClassId} {n : Nat} {l : Launch} {th : Int} {p1 : Int} {Q : Int → ml_St → Prop} (X : ml_X p s m c meth args D cA cX9_isAlike 5 RX9 (some .boolean)) (hn : 214 ≤ n) (hp_th : ml_at n th (19, 8)) (hp_p1 : ml_at n p1 (19, 8)) (σ : ml_St) (x3 : Int) (h_x3 : ml_B x3) (ls : Array Slot) (hl : lv_has ls 5 [(3, .int (Int32.ofInt x3))]) (hw : f_X9_isAlike_u62 Q th p1 σ x3) : ml_V p l e rm_X9_isAlike s m args below meth c (MQ below (ml_Qi ml_B base D cA n Q) args s 0 0 (ml_A base)) base D cA 0 0 n n σ (F0 m 62 ls []) := by
  unfold f_X9_isAlike_u62 at hw
  refine ml_iload_n (pc := 62) X hl 0 rfl rfl dX9_isAlike_62 ?_
  exact ml_zret (pc := 63) X h_x3 hw dX9_isAlike_63
set_option maxRecDepth 100000 in
set_option maxHeartbeats 4000000 in
theorem u_X9_isAlike_17 {p : Program} {e : Env} {s : State} {m : MethodId} {args : Array Value} {below : List Frame} {meth : Method} {c : Code} {base : Nat} {D : va_G} {cA : Nat → ClassId} {n : Nat} {l : Launch} {th : Int} {p1 : Int} {Q : Int → ml_St → Prop} (X : ml_X p s m c meth args D cA cX9_isAlike 5 RX9 (some .boolean)) (hn : 214 ≤ n) (hp_th : ml_at n th (19, 8)) (hp_p1 : ml_at n p1 (19, 8)) (σ : ml_St) (x2 : Int) (s0 : Int) (h_x2 : I32 x2) (h_s0 : ml_B s0) (ls : Array Slot) (hl : lv_has ls 5 [(0, .ref (base + (th : Int).toNat)), (1, .ref (base + (p1 : Int).toNat)), (2, .int (Int32.ofInt x2))]) (hw : f_X9_isAlike_u17 Q th p1 σ x2 s0) : ml_V p l e rm_X9_isAlike s m args below meth c (MQ below (ml_Qi ml_B base D cA n Q) args s 0 0 (ml_A base)) base D cA 0 0 n n σ (F0 m 17 ls [.int (Int32.ofInt s0)]) := by
  unfold f_X9_isAlike_u17 at hw
  refine ml_istore_n (pc := 17) X rfl hl (by decide) (lst' := [(3, .int (Int32.ofInt s0)), (0, .ref (base + (th : Int).toNat)), (1, .ref (base + (p1 : Int).toNat)), (2, .int (Int32.ofInt x2))]) rfl dX9_isAlike_17 (fun ls hl => ?_)
  refine ml_iconst (pc := 18) X dX9_isAlike_18 ?_
  refine ml_istore (pc := 19) X hl (by decide) (lst' := [(4, .int (Int32.ofInt 0)), (3, .int (Int32.ofInt s0)), (0, .ref (base + (th : Int).toNat)), (1, .ref (base + (p1 : Int).toNat)), (2, .int (Int32.ofInt x2))]) rfl dX9_isAlike_19 (fun ls hl => ?_)
  obtain ⟨N0, hw⟩ := hw
  exact u_X9_isAlike_21 X hn hp_th hp_p1 (fun σ x3 h_x3 ls hl hw => u_X9_isAlike_62 X hn hp_th hp_p1 σ x3 h_x3 ls hl hw) N0 σ x2 s0 0 h_x2 h_s0 ⟨by decide, by decide⟩ _ (lv_sub hl [2, 3, 4, 1, 0] rfl) hw
set_option maxRecDepth 100000 in
set_option maxHeartbeats 4000000 in
theorem u_X9_isAlike_0 {p : Program} {e : Env} {s : State} {m : MethodId} {args : Array Value} {below : List Frame} {meth : Method} {c : Code} {base : Nat} {D : va_G} {cA : Nat → ClassId} {n : Nat} {l : Launch} {th : Int} {p1 : Int} {Q : Int → ml_St → Prop} (X : ml_X p s m c meth args D cA cX9_isAlike 5 RX9 (some .boolean)) (hn : 214 ≤ n) (hp_th : ml_at n th (19, 8)) (hp_p1 : ml_at n p1 (19, 8)) (σ : ml_St) (x2 : Int) (h_x2 : I32 x2) (ls : Array Slot) (hl : lv_has ls 5 [(0, .ref (base + (th : Int).toNat)), (1, .ref (base + (p1 : Int).toNat)), (2, .int (Int32.ofInt x2))]) (hw : f_X9_isAlike_u0 Q th p1 σ x2) : ml_V p l e rm_X9_isAlike s m args below meth c (MQ below (ml_Qi ml_B base D cA n Q) args s 0 0 (ml_A base)) base D cA 0 0 n n σ (F0 m 0 ls []) := by
  unfold f_X9_isAlike_u0 at hw
  refine ml_aload_n (pc := 0) X hl 0 rfl rfl dX9_isAlike_0 ?_
  refine gf_X9_19 (pc := 1) X hp_th dX9_isAlike_1 (fun r1 => ?_)
  have hw := hw r1
  refine ml_aload_n (pc := 4) X hl 1 rfl rfl dX9_isAlike_4 ?_
  refine gf_X9_19 (pc := 5) X hp_p1 dX9_isAlike_5 (fun r2 => ?_)
  have hw := hw r2
  refine ml_lcmp_ne (pc := 8) (tgt := 16) X r1 r2 dX9_isAlike_8 dX9_isAlike_9 (by decide) (fun c3 => ?_) (fun c3 => ?_)
  · have hw := hw.1 c3
    refine ml_iconst (pc := 16) X dX9_isAlike_16 ?_
    exact u_X9_isAlike_17 X hn hp_th hp_p1 σ x2 0 h_x2 ⟨by decide, by decide⟩ _ (lv_sub hl [0, 1, 2] rfl) hw
  · have hw := hw.2 c3
    refine ml_iconst (pc := 12) X dX9_isAlike_12 ?_
    refine ml_goto (pc := 13) (tgt := 17) X dX9_isAlike_13 (by decide) ?_
    exact u_X9_isAlike_17 X hn hp_th hp_p1 σ x2 1 h_x2 ⟨by decide, by decide⟩ _ (lv_sub hl [0, 1, 2] rfl) hw
set_option maxRecDepth 100000 in
theorem c_X9_isAlike (l : Launch) (base : Nat) (D : va_G) (cA : Nat → ClassId) (n : Nat) (hn : 214 ≤ n) (σ : ml_St) (th : Int) (p1 : Int) (hp_th : ml_at n th (19, 8)) (hp_p1 : ml_at n p1 (19, 8)) (x2 : Int) (h_x2 : I32 x2) (Q : Int → ml_St → Prop) (hw : f_X9_isAlike σ th p1 x2 Q) : Met l yX9_isAlike (Cond.code yX9_isAlike cX9_isAlike 5 (some .boolean) :: ml_T) rm_X9_isAlike (va_Pc [.ref (base + (th : Int).toNat), .ref (base + (p1 : Int).toNat), .int (Int32.ofInt x2)] (ml_U base D cA n σ)) (ml_Qi ml_B base D cA n Q) 0 0 (ml_A base) := by
  refine Met.ofW (cc := cX9_isAlike) (maxL := 5) (ret := (some .boolean)) (by decide) rfl ?_
  intro p e s m args below meth c s₁ B hml hv
  obtain ⟨rfl, hP, hK, hok, hro⟩ := hv
  have X : ml_X p s m c meth _ D cA cX9_isAlike 5 RX9 (some .boolean) := ⟨B.exec, B.bytes, hml, findClass_of_methodNamed B.named, fun w hw => atoms_spec (ws := Cond.code yX9_isAlike cX9_isAlike 5 (some .boolean) :: ml_T) B.pre w (List.mem_cons_of_mem _ hw), hK, B.notSynchronized, B.returns⟩
  have hl := lv_entry [.ref (base + (th : Int).toNat), .ref (base + (p1 : Int).toNat), .int (Int32.ofInt x2)] (n := 5) (Nat.le_of_ble_eq_true rfl)
  rw [lg_entry_eq]
  generalize (lg_sl [.ref (base + (th : Int).toNat), .ref (base + (p1 : Int).toNat), .int (Int32.ofInt x2)] ++ List.replicate (5 - (lg_sl [.ref (base + (th : Int).toNat), .ref (base + (p1 : Int).toNat), .int (Int32.ofInt x2)]).length) Slot.unset).toArray = ls at hl ⊢
  have hl : lv_has ls 5 [(0, .ref (base + (th : Int).toNat)), (1, .ref (base + (p1 : Int).toNat)), (2, .int (Int32.ofInt x2))] := hl
  unfold f_X9_isAlike at hw
  exact u_X9_isAlike_0 X hn hp_th hp_p1 σ x2 h_x2 _ (lv_sub hl [0, 1, 2] rfl) hw s.heap [] hP va_S.rf hok hro
theorem dX4_changePlaces_0 : decode cX4_changePlaces 0 = .ok (.aload_n 0, 1) := by decide +kernel
theorem dX4_changePlaces_1 : decode cX4_changePlaces 1 = .ok (.getfield 36, 3) := by decide +kernel
theorem dX4_changePlaces_4 : decode cX4_changePlaces 4 = .ok (.aload_n 1, 1) := by decide +kernel
theorem dX4_changePlaces_5 : decode cX4_changePlaces 5 = .ok (.aload_n 2, 1) := by decide +kernel
theorem dX4_changePlaces_6 : decode cX4_changePlaces 6 = .ok (.iload_n 3, 1) := by decide +kernel
theorem dX4_changePlaces_7 : decode cX4_changePlaces 7 = .ok (.invokevirtual 89, 3) := by decide +kernel
theorem dX4_changePlaces_10 : decode cX4_changePlaces 10 = .ok (.aload_n 0, 1) := by decide +kernel
theorem dX4_changePlaces_11 : decode cX4_changePlaces 11 = .ok (.getfield 39, 3) := by decide +kernel
theorem dX4_changePlaces_14 : decode cX4_changePlaces 14 = .ok (.aload_n 2, 1) := by decide +kernel
theorem dX4_changePlaces_15 : decode cX4_changePlaces 15 = .ok (.aload_n 1, 1) := by decide +kernel
theorem dX4_changePlaces_16 : decode cX4_changePlaces 16 = .ok (.iload_n 3, 1) := by decide +kernel
theorem dX4_changePlaces_17 : decode cX4_changePlaces 17 = .ok (.invokevirtual 89, 3) := by decide +kernel
theorem dX4_changePlaces_20 : decode cX4_changePlaces 20 = .ok (.aload_n 0, 1) := by decide +kernel
theorem dX4_changePlaces_21 : decode cX4_changePlaces 21 = .ok (.getfield 36, 3) := by decide +kernel
theorem dX4_changePlaces_24 : decode cX4_changePlaces 24 = .ok (.aload_n 0, 1) := by decide +kernel
theorem dX4_changePlaces_25 : decode cX4_changePlaces 25 = .ok (.getfield 39, 3) := by decide +kernel
theorem dX4_changePlaces_28 : decode cX4_changePlaces 28 = .ok (.iload_n 3, 1) := by decide +kernel
theorem dX4_changePlaces_29 : decode cX4_changePlaces 29 = .ok (.invokevirtual 93, 3) := by decide +kernel
theorem dX4_changePlaces_32 : decode cX4_changePlaces 32 = .ok (.ireturn, 1) := by decide +kernel
def f_X4_changePlaces_u0 (Q : Int → ml_St → Prop) (p1 : Int) (p2 : Int) (σ : ml_St) (x3 : Int) : Prop :=
f_X9_beBoth σ 19 p1 p2 x3 (fun σ1 =>
f_X9_beBoth σ1 22 p2 p1 x3 (fun σ2 =>
f_X9_isAlike σ2 19 22 x3 (fun r3 σ3 => ∀ _ : ml_B r3,
Q r3 σ3)))
def f_X4_changePlaces (σ : ml_St) (p1 : Int) (p2 : Int) (x3 : Int) (Q : Int → ml_St → Prop) : Prop := f_X4_changePlaces_u0 Q p1 p2 σ x3
def rm_X4_changePlaces : Room := { frames := 3, cells := 0, slots := 0, locals := 115 }
set_option maxRecDepth 100000 in
set_option maxHeartbeats 4000000 in
theorem u_X4_changePlaces_0 {p : Program} {e : Env} {s : State} {m : MethodId} {args : Array Value} {below : List Frame} {meth : Method} {c : Code} {base : Nat} {D : va_G} {cA : Nat → ClassId} {n : Nat} {l : Launch} {p1 : Int} {p2 : Int} {Q : Int → ml_St → Prop} (X : ml_X p s m c meth args D cA cX4_changePlaces 4 RX4 (some .boolean)) (hn : 214 ≤ n) (hp_p1 : ml_at n p1 (19, 8)) (hp_p2 : ml_at n p2 (19, 8)) (σ : ml_St) (x3 : Int) (h_x3 : I32 x3) (ls : Array Slot) (hl : lv_has ls 4 [(0, .ref (base + (8 : Int).toNat)), (1, .ref (base + (p1 : Int).toNat)), (2, .ref (base + (p2 : Int).toNat)), (3, .int (Int32.ofInt x3))]) (hw : f_X4_changePlaces_u0 Q p1 p2 σ x3) : ml_V p l e rm_X4_changePlaces s m args below meth c (MQ below (ml_Qi ml_B base D cA n Q) args s 0 0 (ml_A base)) base D cA 0 0 n n σ (F0 m 0 ls []) := by
  unfold f_X4_changePlaces_u0 at hw
  refine ml_aload_n (pc := 0) X hl 0 rfl rfl dX4_changePlaces_0 ?_
  refine gf_X4_36 (pc := 1) X (ml_c8 hn) dX4_changePlaces_1 ?_
  refine ml_aload_n (pc := 4) X hl 1 rfl rfl dX4_changePlaces_4 ?_
  refine ml_aload_n (pc := 5) X hl 2 rfl rfl dX4_changePlaces_5 ?_
  refine ml_iload_n (pc := 6) X hl 3 rfl rfl dX4_changePlaces_6 ?_
  refine ml_callvV (pc := 7) (rest := []) X [.ref (base + (p1 : Int).toNat), .ref (base + (p2 : Int).toNat), .int (Int32.ofInt x3)] (by decide) rfl (ml_c19 hn) (c_X9_beBoth l base D cA n hn σ 19 p1 p2 (ml_c19 hn) hp_p1 hp_p2 x3 h_x3 _ hw) cv_X4_89 ⟨rfl, rfl⟩ ⟨by decide, by decide⟩ rfl rfl hl (Nat.le_of_ble_eq_true rfl) ⟨Nat.zero_le _, Nat.zero_le _⟩ dX4_changePlaces_7 (fun σ1 hw => ?_)
  refine ml_aload_n (pc := 10) X hl 0 rfl rfl dX4_changePlaces_10 ?_
  refine gf_X4_39 (pc := 11) X (ml_c8 hn) dX4_changePlaces_11 ?_
  refine ml_aload_n (pc := 14) X hl 2 rfl rfl dX4_changePlaces_14 ?_
  refine ml_aload_n (pc := 15) X hl 1 rfl rfl dX4_changePlaces_15 ?_
  refine ml_iload_n (pc := 16) X hl 3 rfl rfl dX4_changePlaces_16 ?_
  refine ml_callvV (pc := 17) (rest := []) X [.ref (base + (p2 : Int).toNat), .ref (base + (p1 : Int).toNat), .int (Int32.ofInt x3)] (by decide) rfl (ml_c22 hn) (c_X9_beBoth l base D cA n hn σ1 22 p2 p1 (ml_c22 hn) hp_p2 hp_p1 x3 h_x3 _ hw) cv_X4_89 ⟨rfl, rfl⟩ ⟨by decide, by decide⟩ rfl rfl hl (Nat.le_of_ble_eq_true rfl) ⟨Nat.zero_le _, Nat.zero_le _⟩ dX4_changePlaces_17 (fun σ2 hw => ?_)
  refine ml_aload_n (pc := 20) X hl 0 rfl rfl dX4_changePlaces_20 ?_
  refine gf_X4_36 (pc := 21) X (ml_c8 hn) dX4_changePlaces_21 ?_
  refine ml_aload_n (pc := 24) X hl 0 rfl rfl dX4_changePlaces_24 ?_
  refine gf_X4_39 (pc := 25) X (ml_c8 hn) dX4_changePlaces_25 ?_
  refine ml_iload_n (pc := 28) X hl 3 rfl rfl dX4_changePlaces_28 ?_
  refine ml_callzV (pc := 29) (rest := []) X [.ref (base + (22 : Int).toNat), .int (Int32.ofInt x3)] (by decide) rfl (ml_c19 hn) (c_X9_isAlike l base D cA n hn σ2 19 22 (ml_c19 hn) (ml_c22 hn) x3 h_x3 _ hw) cv_X4_93 ⟨rfl, rfl⟩ ⟨by decide, by decide⟩ rfl rfl hl (Nat.le_of_ble_eq_true rfl) ⟨Nat.zero_le _, Nat.zero_le _⟩ dX4_changePlaces_29 (fun r3 σ3 t3 hw => ?_)
  have hw := hw t3
  exact ml_zret (pc := 32) X t3 hw dX4_changePlaces_32
set_option maxRecDepth 100000 in
theorem c_X4_changePlaces (l : Launch) (base : Nat) (D : va_G) (cA : Nat → ClassId) (n : Nat) (hn : 214 ≤ n) (σ : ml_St) (p1 : Int) (p2 : Int) (hp_p1 : ml_at n p1 (19, 8)) (hp_p2 : ml_at n p2 (19, 8)) (x3 : Int) (h_x3 : I32 x3) (Q : Int → ml_St → Prop) (hw : f_X4_changePlaces σ p1 p2 x3 Q) : Met l yX4_changePlaces (Cond.code yX4_changePlaces cX4_changePlaces 4 (some .boolean) :: ml_T) rm_X4_changePlaces (va_Pc [.ref (base + (8 : Int).toNat), .ref (base + (p1 : Int).toNat), .ref (base + (p2 : Int).toNat), .int (Int32.ofInt x3)] (ml_U base D cA n σ)) (ml_Qi ml_B base D cA n Q) 0 0 (ml_A base) := by
  refine Met.ofW (cc := cX4_changePlaces) (maxL := 4) (ret := (some .boolean)) (by decide) rfl ?_
  intro p e s m args below meth c s₁ B hml hv
  obtain ⟨rfl, hP, hK, hok, hro⟩ := hv
  have X : ml_X p s m c meth _ D cA cX4_changePlaces 4 RX4 (some .boolean) := ⟨B.exec, B.bytes, hml, findClass_of_methodNamed B.named, fun w hw => atoms_spec (ws := Cond.code yX4_changePlaces cX4_changePlaces 4 (some .boolean) :: ml_T) B.pre w (List.mem_cons_of_mem _ hw), hK, B.notSynchronized, B.returns⟩
  have hl := lv_entry [.ref (base + (8 : Int).toNat), .ref (base + (p1 : Int).toNat), .ref (base + (p2 : Int).toNat), .int (Int32.ofInt x3)] (n := 4) (Nat.le_of_ble_eq_true rfl)
  rw [lg_entry_eq]
  generalize (lg_sl [.ref (base + (8 : Int).toNat), .ref (base + (p1 : Int).toNat), .ref (base + (p2 : Int).toNat), .int (Int32.ofInt x3)] ++ List.replicate (4 - (lg_sl [.ref (base + (8 : Int).toNat), .ref (base + (p1 : Int).toNat), .ref (base + (p2 : Int).toNat), .int (Int32.ofInt x3)]).length) Slot.unset).toArray = ls at hl ⊢
  have hl : lv_has ls 4 [(0, .ref (base + (8 : Int).toNat)), (1, .ref (base + (p1 : Int).toNat)), (2, .ref (base + (p2 : Int).toNat)), (3, .int (Int32.ofInt x3))] := hl
  unfold f_X4_changePlaces at hw
  exact u_X4_changePlaces_0 X hn hp_p1 hp_p2 σ x3 h_x3 _ (lv_sub hl [0, 1, 2, 3] rfl) hw s.heap [] hP va_S.rf hok hro
theorem dX4_comesBack_0 : decode cX4_comesBack 0 = .ok (.aload_n 0, 1) := by decide +kernel
theorem dX4_comesBack_1 : decode cX4_comesBack 1 = .ok (.getfield 36, 3) := by decide +kernel
theorem dX4_comesBack_4 : decode cX4_comesBack 4 = .ok (.aload_n 1, 1) := by decide +kernel
theorem dX4_comesBack_5 : decode cX4_comesBack 5 = .ok (.aload_n 2, 1) := by decide +kernel
theorem dX4_comesBack_6 : decode cX4_comesBack 6 = .ok (.iload_n 3, 1) := by decide +kernel
theorem dX4_comesBack_7 : decode cX4_comesBack 7 = .ok (.invokevirtual 89, 3) := by decide +kernel
theorem dX4_comesBack_10 : decode cX4_comesBack 10 = .ok (.aload_n 0, 1) := by decide +kernel
theorem dX4_comesBack_11 : decode cX4_comesBack 11 = .ok (.getfield 39, 3) := by decide +kernel
theorem dX4_comesBack_14 : decode cX4_comesBack 14 = .ok (.iload_n 3, 1) := by decide +kernel
theorem dX4_comesBack_15 : decode cX4_comesBack 15 = .ok (.invokevirtual 42, 3) := by decide +kernel
theorem dX4_comesBack_18 : decode cX4_comesBack 18 = .ok (.aload_n 0, 1) := by decide +kernel
theorem dX4_comesBack_19 : decode cX4_comesBack 19 = .ok (.getfield 36, 3) := by decide +kernel
theorem dX4_comesBack_22 : decode cX4_comesBack 22 = .ok (.aload_n 0, 1) := by decide +kernel
theorem dX4_comesBack_23 : decode cX4_comesBack 23 = .ok (.getfield 39, 3) := by decide +kernel
theorem dX4_comesBack_26 : decode cX4_comesBack 26 = .ok (.iload_n 3, 1) := by decide +kernel
theorem dX4_comesBack_27 : decode cX4_comesBack 27 = .ok (.invokevirtual 93, 3) := by decide +kernel
theorem dX4_comesBack_30 : decode cX4_comesBack 30 = .ok (.ireturn, 1) := by decide +kernel
def f_X4_comesBack_u0 (Q : Int → ml_St → Prop) (p1 : Int) (p2 : Int) (σ : ml_St) (x3 : Int) : Prop :=
f_X9_beBoth σ 19 p1 p2 x3 (fun σ1 =>
f_X9_beStraight σ1 22 x3 (fun σ2 =>
f_X9_isAlike σ2 19 22 x3 (fun r3 σ3 => ∀ _ : ml_B r3,
Q r3 σ3)))
def f_X4_comesBack (σ : ml_St) (p1 : Int) (p2 : Int) (x3 : Int) (Q : Int → ml_St → Prop) : Prop := f_X4_comesBack_u0 Q p1 p2 σ x3
def rm_X4_comesBack : Room := { frames := 3, cells := 0, slots := 0, locals := 115 }
set_option maxRecDepth 100000 in
set_option maxHeartbeats 4000000 in
theorem u_X4_comesBack_0 {p : Program} {e : Env} {s : State} {m : MethodId} {args : Array Value} {below : List Frame} {meth : Method} {c : Code} {base : Nat} {D : va_G} {cA : Nat → ClassId} {n : Nat} {l : Launch} {p1 : Int} {p2 : Int} {Q : Int → ml_St → Prop} (X : ml_X p s m c meth args D cA cX4_comesBack 4 RX4 (some .boolean)) (hn : 214 ≤ n) (hp_p1 : ml_at n p1 (19, 8)) (hp_p2 : ml_at n p2 (19, 8)) (σ : ml_St) (x3 : Int) (h_x3 : I32 x3) (ls : Array Slot) (hl : lv_has ls 4 [(0, .ref (base + (8 : Int).toNat)), (1, .ref (base + (p1 : Int).toNat)), (2, .ref (base + (p2 : Int).toNat)), (3, .int (Int32.ofInt x3))]) (hw : f_X4_comesBack_u0 Q p1 p2 σ x3) : ml_V p l e rm_X4_comesBack s m args below meth c (MQ below (ml_Qi ml_B base D cA n Q) args s 0 0 (ml_A base)) base D cA 0 0 n n σ (F0 m 0 ls []) := by
  unfold f_X4_comesBack_u0 at hw
  refine ml_aload_n (pc := 0) X hl 0 rfl rfl dX4_comesBack_0 ?_
  refine gf_X4_36 (pc := 1) X (ml_c8 hn) dX4_comesBack_1 ?_
  refine ml_aload_n (pc := 4) X hl 1 rfl rfl dX4_comesBack_4 ?_
  refine ml_aload_n (pc := 5) X hl 2 rfl rfl dX4_comesBack_5 ?_
  refine ml_iload_n (pc := 6) X hl 3 rfl rfl dX4_comesBack_6 ?_
  refine ml_callvV (pc := 7) (rest := []) X [.ref (base + (p1 : Int).toNat), .ref (base + (p2 : Int).toNat), .int (Int32.ofInt x3)] (by decide) rfl (ml_c19 hn) (c_X9_beBoth l base D cA n hn σ 19 p1 p2 (ml_c19 hn) hp_p1 hp_p2 x3 h_x3 _ hw) cv_X4_89 ⟨rfl, rfl⟩ ⟨by decide, by decide⟩ rfl rfl hl (Nat.le_of_ble_eq_true rfl) ⟨Nat.zero_le _, Nat.zero_le _⟩ dX4_comesBack_7 (fun σ1 hw => ?_)
  refine ml_aload_n (pc := 10) X hl 0 rfl rfl dX4_comesBack_10 ?_
  refine gf_X4_39 (pc := 11) X (ml_c8 hn) dX4_comesBack_11 ?_
  refine ml_iload_n (pc := 14) X hl 3 rfl rfl dX4_comesBack_14 ?_
  refine ml_callvV (pc := 15) (rest := []) X [.int (Int32.ofInt x3)] (by decide) rfl (ml_c22 hn) (c_X9_beStraight l base D cA n hn σ1 22 (ml_c22 hn) x3 h_x3 _ hw) cv_X4_42 ⟨rfl, rfl⟩ ⟨by decide, by decide⟩ rfl rfl hl (Nat.le_of_ble_eq_true rfl) ⟨Nat.zero_le _, Nat.zero_le _⟩ dX4_comesBack_15 (fun σ2 hw => ?_)
  refine ml_aload_n (pc := 18) X hl 0 rfl rfl dX4_comesBack_18 ?_
  refine gf_X4_36 (pc := 19) X (ml_c8 hn) dX4_comesBack_19 ?_
  refine ml_aload_n (pc := 22) X hl 0 rfl rfl dX4_comesBack_22 ?_
  refine gf_X4_39 (pc := 23) X (ml_c8 hn) dX4_comesBack_23 ?_
  refine ml_iload_n (pc := 26) X hl 3 rfl rfl dX4_comesBack_26 ?_
  refine ml_callzV (pc := 27) (rest := []) X [.ref (base + (22 : Int).toNat), .int (Int32.ofInt x3)] (by decide) rfl (ml_c19 hn) (c_X9_isAlike l base D cA n hn σ2 19 22 (ml_c19 hn) (ml_c22 hn) x3 h_x3 _ hw) cv_X4_93 ⟨rfl, rfl⟩ ⟨by decide, by decide⟩ rfl rfl hl (Nat.le_of_ble_eq_true rfl) ⟨Nat.zero_le _, Nat.zero_le _⟩ dX4_comesBack_27 (fun r3 σ3 t3 hw => ?_)
  have hw := hw t3
  exact ml_zret (pc := 30) X t3 hw dX4_comesBack_30
set_option maxRecDepth 100000 in
theorem c_X4_comesBack (l : Launch) (base : Nat) (D : va_G) (cA : Nat → ClassId) (n : Nat) (hn : 214 ≤ n) (σ : ml_St) (p1 : Int) (p2 : Int) (hp_p1 : ml_at n p1 (19, 8)) (hp_p2 : ml_at n p2 (19, 8)) (x3 : Int) (h_x3 : I32 x3) (Q : Int → ml_St → Prop) (hw : f_X4_comesBack σ p1 p2 x3 Q) : Met l yX4_comesBack (Cond.code yX4_comesBack cX4_comesBack 4 (some .boolean) :: ml_T) rm_X4_comesBack (va_Pc [.ref (base + (8 : Int).toNat), .ref (base + (p1 : Int).toNat), .ref (base + (p2 : Int).toNat), .int (Int32.ofInt x3)] (ml_U base D cA n σ)) (ml_Qi ml_B base D cA n Q) 0 0 (ml_A base) := by
  refine Met.ofW (cc := cX4_comesBack) (maxL := 4) (ret := (some .boolean)) (by decide) rfl ?_
  intro p e s m args below meth c s₁ B hml hv
  obtain ⟨rfl, hP, hK, hok, hro⟩ := hv
  have X : ml_X p s m c meth _ D cA cX4_comesBack 4 RX4 (some .boolean) := ⟨B.exec, B.bytes, hml, findClass_of_methodNamed B.named, fun w hw => atoms_spec (ws := Cond.code yX4_comesBack cX4_comesBack 4 (some .boolean) :: ml_T) B.pre w (List.mem_cons_of_mem _ hw), hK, B.notSynchronized, B.returns⟩
  have hl := lv_entry [.ref (base + (8 : Int).toNat), .ref (base + (p1 : Int).toNat), .ref (base + (p2 : Int).toNat), .int (Int32.ofInt x3)] (n := 4) (Nat.le_of_ble_eq_true rfl)
  rw [lg_entry_eq]
  generalize (lg_sl [.ref (base + (8 : Int).toNat), .ref (base + (p1 : Int).toNat), .ref (base + (p2 : Int).toNat), .int (Int32.ofInt x3)] ++ List.replicate (4 - (lg_sl [.ref (base + (8 : Int).toNat), .ref (base + (p1 : Int).toNat), .ref (base + (p2 : Int).toNat), .int (Int32.ofInt x3)]).length) Slot.unset).toArray = ls at hl ⊢
  have hl : lv_has ls 4 [(0, .ref (base + (8 : Int).toNat)), (1, .ref (base + (p1 : Int).toNat)), (2, .ref (base + (p2 : Int).toNat)), (3, .int (Int32.ofInt x3))] := hl
  unfold f_X4_comesBack at hw
  exact u_X4_comesBack_0 X hn hp_p1 hp_p2 σ x3 h_x3 _ (lv_sub hl [0, 1, 2, 3] rfl) hw s.heap [] hP va_S.rf hok hro
theorem dX4_takesUp_0 : decode cX4_takesUp 0 = .ok (.aload_n 0, 1) := by decide +kernel
theorem dX4_takesUp_1 : decode cX4_takesUp 1 = .ok (.getfield 36, 3) := by decide +kernel
theorem dX4_takesUp_4 : decode cX4_takesUp 4 = .ok (.aload_n 1, 1) := by decide +kernel
theorem dX4_takesUp_5 : decode cX4_takesUp 5 = .ok (.aload_n 2, 1) := by decide +kernel
theorem dX4_takesUp_6 : decode cX4_takesUp 6 = .ok (.iload_n 3, 1) := by decide +kernel
theorem dX4_takesUp_7 : decode cX4_takesUp 7 = .ok (.invokevirtual 89, 3) := by decide +kernel
theorem dX4_takesUp_10 : decode cX4_takesUp 10 = .ok (.aload_n 0, 1) := by decide +kernel
theorem dX4_takesUp_11 : decode cX4_takesUp 11 = .ok (.getfield 36, 3) := by decide +kernel
theorem dX4_takesUp_14 : decode cX4_takesUp 14 = .ok (.aload_n 1, 1) := by decide +kernel
theorem dX4_takesUp_15 : decode cX4_takesUp 15 = .ok (.iload_n 3, 1) := by decide +kernel
theorem dX4_takesUp_16 : decode cX4_takesUp 16 = .ok (.invokevirtual 93, 3) := by decide +kernel
theorem dX4_takesUp_19 : decode cX4_takesUp 19 = .ok (.ireturn, 1) := by decide +kernel
def f_X4_takesUp_u0 (Q : Int → ml_St → Prop) (p1 : Int) (p2 : Int) (σ : ml_St) (x3 : Int) : Prop :=
f_X9_beBoth σ 19 p1 p2 x3 (fun σ1 =>
f_X9_isAlike σ1 19 p1 x3 (fun r2 σ2 => ∀ _ : ml_B r2,
Q r2 σ2))
def f_X4_takesUp (σ : ml_St) (p1 : Int) (p2 : Int) (x3 : Int) (Q : Int → ml_St → Prop) : Prop := f_X4_takesUp_u0 Q p1 p2 σ x3
def rm_X4_takesUp : Room := { frames := 3, cells := 0, slots := 0, locals := 115 }
set_option maxRecDepth 100000 in
set_option maxHeartbeats 4000000 in
theorem u_X4_takesUp_0 {p : Program} {e : Env} {s : State} {m : MethodId} {args : Array Value} {below : List Frame} {meth : Method} {c : Code} {base : Nat} {D : va_G} {cA : Nat → ClassId} {n : Nat} {l : Launch} {p1 : Int} {p2 : Int} {Q : Int → ml_St → Prop} (X : ml_X p s m c meth args D cA cX4_takesUp 4 RX4 (some .boolean)) (hn : 214 ≤ n) (hp_p1 : ml_at n p1 (19, 8)) (hp_p2 : ml_at n p2 (19, 8)) (σ : ml_St) (x3 : Int) (h_x3 : I32 x3) (ls : Array Slot) (hl : lv_has ls 4 [(0, .ref (base + (8 : Int).toNat)), (1, .ref (base + (p1 : Int).toNat)), (2, .ref (base + (p2 : Int).toNat)), (3, .int (Int32.ofInt x3))]) (hw : f_X4_takesUp_u0 Q p1 p2 σ x3) : ml_V p l e rm_X4_takesUp s m args below meth c (MQ below (ml_Qi ml_B base D cA n Q) args s 0 0 (ml_A base)) base D cA 0 0 n n σ (F0 m 0 ls []) := by
  unfold f_X4_takesUp_u0 at hw
  refine ml_aload_n (pc := 0) X hl 0 rfl rfl dX4_takesUp_0 ?_
  refine gf_X4_36 (pc := 1) X (ml_c8 hn) dX4_takesUp_1 ?_
  refine ml_aload_n (pc := 4) X hl 1 rfl rfl dX4_takesUp_4 ?_
  refine ml_aload_n (pc := 5) X hl 2 rfl rfl dX4_takesUp_5 ?_
  refine ml_iload_n (pc := 6) X hl 3 rfl rfl dX4_takesUp_6 ?_
  refine ml_callvV (pc := 7) (rest := []) X [.ref (base + (p1 : Int).toNat), .ref (base + (p2 : Int).toNat), .int (Int32.ofInt x3)] (by decide) rfl (ml_c19 hn) (c_X9_beBoth l base D cA n hn σ 19 p1 p2 (ml_c19 hn) hp_p1 hp_p2 x3 h_x3 _ hw) cv_X4_89 ⟨rfl, rfl⟩ ⟨by decide, by decide⟩ rfl rfl hl (Nat.le_of_ble_eq_true rfl) ⟨Nat.zero_le _, Nat.zero_le _⟩ dX4_takesUp_7 (fun σ1 hw => ?_)
  refine ml_aload_n (pc := 10) X hl 0 rfl rfl dX4_takesUp_10 ?_
  refine gf_X4_36 (pc := 11) X (ml_c8 hn) dX4_takesUp_11 ?_
  refine ml_aload_n (pc := 14) X hl 1 rfl rfl dX4_takesUp_14 ?_
  refine ml_iload_n (pc := 15) X hl 3 rfl rfl dX4_takesUp_15 ?_
  refine ml_callzV (pc := 16) (rest := []) X [.ref (base + (p1 : Int).toNat), .int (Int32.ofInt x3)] (by decide) rfl (ml_c19 hn) (c_X9_isAlike l base D cA n hn σ1 19 p1 (ml_c19 hn) hp_p1 x3 h_x3 _ hw) cv_X4_93 ⟨rfl, rfl⟩ ⟨by decide, by decide⟩ rfl rfl hl (Nat.le_of_ble_eq_true rfl) ⟨Nat.zero_le _, Nat.zero_le _⟩ dX4_takesUp_16 (fun r2 σ2 t2 hw => ?_)
  have hw := hw t2
  exact ml_zret (pc := 19) X t2 hw dX4_takesUp_19
set_option maxRecDepth 100000 in
theorem c_X4_takesUp (l : Launch) (base : Nat) (D : va_G) (cA : Nat → ClassId) (n : Nat) (hn : 214 ≤ n) (σ : ml_St) (p1 : Int) (p2 : Int) (hp_p1 : ml_at n p1 (19, 8)) (hp_p2 : ml_at n p2 (19, 8)) (x3 : Int) (h_x3 : I32 x3) (Q : Int → ml_St → Prop) (hw : f_X4_takesUp σ p1 p2 x3 Q) : Met l yX4_takesUp (Cond.code yX4_takesUp cX4_takesUp 4 (some .boolean) :: ml_T) rm_X4_takesUp (va_Pc [.ref (base + (8 : Int).toNat), .ref (base + (p1 : Int).toNat), .ref (base + (p2 : Int).toNat), .int (Int32.ofInt x3)] (ml_U base D cA n σ)) (ml_Qi ml_B base D cA n Q) 0 0 (ml_A base) := by
  refine Met.ofW (cc := cX4_takesUp) (maxL := 4) (ret := (some .boolean)) (by decide) rfl ?_
  intro p e s m args below meth c s₁ B hml hv
  obtain ⟨rfl, hP, hK, hok, hro⟩ := hv
  have X : ml_X p s m c meth _ D cA cX4_takesUp 4 RX4 (some .boolean) := ⟨B.exec, B.bytes, hml, findClass_of_methodNamed B.named, fun w hw => atoms_spec (ws := Cond.code yX4_takesUp cX4_takesUp 4 (some .boolean) :: ml_T) B.pre w (List.mem_cons_of_mem _ hw), hK, B.notSynchronized, B.returns⟩
  have hl := lv_entry [.ref (base + (8 : Int).toNat), .ref (base + (p1 : Int).toNat), .ref (base + (p2 : Int).toNat), .int (Int32.ofInt x3)] (n := 4) (Nat.le_of_ble_eq_true rfl)
  rw [lg_entry_eq]
  generalize (lg_sl [.ref (base + (8 : Int).toNat), .ref (base + (p1 : Int).toNat), .ref (base + (p2 : Int).toNat), .int (Int32.ofInt x3)] ++ List.replicate (4 - (lg_sl [.ref (base + (8 : Int).toNat), .ref (base + (p1 : Int).toNat), .ref (base + (p2 : Int).toNat), .int (Int32.ofInt x3)]).length) Slot.unset).toArray = ls at hl ⊢
  have hl : lv_has ls 4 [(0, .ref (base + (8 : Int).toNat)), (1, .ref (base + (p1 : Int).toNat)), (2, .ref (base + (p2 : Int).toNat)), (3, .int (Int32.ofInt x3))] := hl
  unfold f_X4_takesUp at hw
  exact u_X4_takesUp_0 X hn hp_p1 hp_p2 σ x3 h_x3 _ (lv_sub hl [0, 1, 2, 3] rfl) hw s.heap [] hP va_S.rf hok hro
theorem dX11_both_0 : decode cX11_both 0 = .ok (.aload_n 0, 1) := by decide +kernel
theorem dX11_both_1 : decode cX11_both 1 = .ok (.iload_n 1, 1) := by decide +kernel
theorem dX11_both_2 : decode cX11_both 2 = .ok (.invokevirtual 121, 3) := by decide +kernel
theorem dX11_both_5 : decode cX11_both 5 = .ok (.ifCond .eq 11, 3) := by decide +kernel
theorem dX11_both_8 : decode cX11_both 8 = .ok (.aload_n 0, 1) := by decide +kernel
theorem dX11_both_9 : decode cX11_both 9 = .ok (.iload_n 2, 1) := by decide +kernel
theorem dX11_both_10 : decode cX11_both 10 = .ok (.invokevirtual 121, 3) := by decide +kernel
theorem dX11_both_13 : decode cX11_both 13 = .ok (.ifCond .ne 5, 3) := by decide +kernel
theorem dX11_both_16 : decode cX11_both 16 = .ok (.iconst (-1), 1) := by decide +kernel
theorem dX11_both_17 : decode cX11_both 17 = .ok (.ireturn, 1) := by decide +kernel
theorem dX11_both_18 : decode cX11_both 18 = .ok (.aload_n 0, 1) := by decide +kernel
theorem dX11_both_19 : decode cX11_both 19 = .ok (.getfield 67, 3) := by decide +kernel
theorem dX11_both_22 : decode cX11_both 22 = .ok (.iload_n 1, 1) := by decide +kernel
theorem dX11_both_23 : decode cX11_both 23 = .ok (.aaload, 1) := by decide +kernel
theorem dX11_both_24 : decode cX11_both 24 = .ok (.getfield 112, 3) := by decide +kernel
theorem dX11_both_27 : decode cX11_both 27 = .ok (.astore 4, 2) := by decide +kernel
theorem dX11_both_29 : decode cX11_both 29 = .ok (.aload_n 0, 1) := by decide +kernel
theorem dX11_both_30 : decode cX11_both 30 = .ok (.getfield 67, 3) := by decide +kernel
theorem dX11_both_33 : decode cX11_both 33 = .ok (.iload_n 2, 1) := by decide +kernel
theorem dX11_both_34 : decode cX11_both 34 = .ok (.aaload, 1) := by decide +kernel
theorem dX11_both_35 : decode cX11_both 35 = .ok (.getfield 112, 3) := by decide +kernel
theorem dX11_both_38 : decode cX11_both 38 = .ok (.astore 5, 2) := by decide +kernel
theorem dX11_both_40 : decode cX11_both 40 = .ok (.iload_n 3, 1) := by decide +kernel
theorem dX11_both_41 : decode cX11_both 41 = .ok (.tableswitch 123 0 3 #[31, 51, 75, 99], 31) := by decide +kernel
theorem dX11_both_72 : decode cX11_both 72 = .ok (.aload 4, 2) := by decide +kernel
theorem dX11_both_74 : decode cX11_both 74 = .ok (.aload 5, 2) := by decide +kernel
theorem dX11_both_76 : decode cX11_both 76 = .ok (.aload_n 0, 1) := by decide +kernel
theorem dX11_both_77 : decode cX11_both 77 = .ok (.getfield 82, 3) := by decide +kernel
theorem dX11_both_80 : decode cX11_both 80 = .ok (.invokevirtual 191, 3) := by decide +kernel
theorem dX11_both_83 : decode cX11_both 83 = .ok (.ifCond .eq 7, 3) := by decide +kernel
theorem dX11_both_86 : decode cX11_both 86 = .ok (.iconst 1, 1) := by decide +kernel
theorem dX11_both_87 : decode cX11_both 87 = .ok (.goto 4, 3) := by decide +kernel
theorem dX11_both_90 : decode cX11_both 90 = .ok (.iconst 0, 1) := by decide +kernel
theorem dX11_both_91 : decode cX11_both 91 = .ok (.ireturn, 1) := by decide +kernel
theorem dX11_both_92 : decode cX11_both 92 = .ok (.aload_n 0, 1) := by decide +kernel
theorem dX11_both_93 : decode cX11_both 93 = .ok (.getfield 33, 3) := by decide +kernel
theorem dX11_both_96 : decode cX11_both 96 = .ok (.aload 4, 2) := by decide +kernel
theorem dX11_both_98 : decode cX11_both 98 = .ok (.aload 5, 2) := by decide +kernel
theorem dX11_both_100 : decode cX11_both 100 = .ok (.aload_n 0, 1) := by decide +kernel
theorem dX11_both_101 : decode cX11_both 101 = .ok (.getfield 82, 3) := by decide +kernel
theorem dX11_both_104 : decode cX11_both 104 = .ok (.invokevirtual 195, 3) := by decide +kernel
theorem dX11_both_107 : decode cX11_both 107 = .ok (.ifCond .eq 7, 3) := by decide +kernel
theorem dX11_both_110 : decode cX11_both 110 = .ok (.iconst 1, 1) := by decide +kernel
theorem dX11_both_111 : decode cX11_both 111 = .ok (.goto 4, 3) := by decide +kernel
theorem dX11_both_114 : decode cX11_both 114 = .ok (.iconst 0, 1) := by decide +kernel
theorem dX11_both_115 : decode cX11_both 115 = .ok (.ireturn, 1) := by decide +kernel
theorem dX11_both_116 : decode cX11_both 116 = .ok (.aload_n 0, 1) := by decide +kernel
theorem dX11_both_117 : decode cX11_both 117 = .ok (.getfield 33, 3) := by decide +kernel
theorem dX11_both_120 : decode cX11_both 120 = .ok (.aload 4, 2) := by decide +kernel
theorem dX11_both_122 : decode cX11_both 122 = .ok (.aload 5, 2) := by decide +kernel
theorem dX11_both_124 : decode cX11_both 124 = .ok (.aload_n 0, 1) := by decide +kernel
theorem dX11_both_125 : decode cX11_both 125 = .ok (.getfield 82, 3) := by decide +kernel
theorem dX11_both_128 : decode cX11_both 128 = .ok (.invokevirtual 199, 3) := by decide +kernel
theorem dX11_both_131 : decode cX11_both 131 = .ok (.ifCond .eq 7, 3) := by decide +kernel
theorem dX11_both_134 : decode cX11_both 134 = .ok (.iconst 1, 1) := by decide +kernel
theorem dX11_both_135 : decode cX11_both 135 = .ok (.goto 4, 3) := by decide +kernel
theorem dX11_both_138 : decode cX11_both 138 = .ok (.iconst 0, 1) := by decide +kernel
theorem dX11_both_139 : decode cX11_both 139 = .ok (.ireturn, 1) := by decide +kernel
theorem dX11_both_140 : decode cX11_both 140 = .ok (.aload_n 0, 1) := by decide +kernel
theorem dX11_both_141 : decode cX11_both 141 = .ok (.getfield 33, 3) := by decide +kernel
theorem dX11_both_144 : decode cX11_both 144 = .ok (.aload 4, 2) := by decide +kernel
theorem dX11_both_146 : decode cX11_both 146 = .ok (.aload 5, 2) := by decide +kernel
theorem dX11_both_148 : decode cX11_both 148 = .ok (.aload_n 0, 1) := by decide +kernel
theorem dX11_both_149 : decode cX11_both 149 = .ok (.getfield 82, 3) := by decide +kernel
theorem dX11_both_152 : decode cX11_both 152 = .ok (.invokevirtual 202, 3) := by decide +kernel
theorem dX11_both_155 : decode cX11_both 155 = .ok (.ifCond .eq 7, 3) := by decide +kernel
theorem dX11_both_158 : decode cX11_both 158 = .ok (.iconst 1, 1) := by decide +kernel
theorem dX11_both_159 : decode cX11_both 159 = .ok (.goto 4, 3) := by decide +kernel
theorem dX11_both_162 : decode cX11_both 162 = .ok (.iconst 0, 1) := by decide +kernel
theorem dX11_both_163 : decode cX11_both 163 = .ok (.ireturn, 1) := by decide +kernel
theorem dX11_both_164 : decode cX11_both 164 = .ok (.iconst (-1), 1) := by decide +kernel
theorem dX11_both_165 : decode cX11_both 165 = .ok (.ireturn, 1) := by decide +kernel
def f_X11_both_u16 (Q : Int → ml_St → Prop) (σ : ml_St) : Prop :=
Q (-1) σ
def f_X11_both_u91 (Q : Int → ml_St → Prop) (σ : ml_St) (s0 : Int) : Prop :=
Q s0 σ
def f_X11_both_u115 (Q : Int → ml_St → Prop) (σ : ml_St) (s0 : Int) : Prop :=
Q s0 σ
def f_X11_both_u139 (Q : Int → ml_St → Prop) (σ : ml_St) (s0 : Int) : Prop :=
Q s0 σ
def f_X11_both_u163 (Q : Int → ml_St → Prop) (σ : ml_St) (s0 : Int) : Prop :=
Q s0 σ
def f_X11_both_u0 (Q : Int → ml_St → Prop) (σ : ml_St) (x1 : Int) (x2 : Int) (x3 : Int) : Prop :=
f_X11_isMade σ x1 (fun r1 σ1 => ∀ _ : ml_B r1,
(r1 = 0 →
f_X11_both_u16 Q σ1) ∧
(r1 ≠ 0 →
f_X11_isMade σ1 x2 (fun r3 σ3 => ∀ _ : ml_B r3,
(r3 ≠ 0 →
(0 : Int) ≤ x1 ∧ (x1 : Int) < 16 ∧
(0 : Int) ≤ x2 ∧ (x2 : Int) < 16 ∧
(x3 = 0 →
∀ _ : I32 (σ3 1 11),
f_X9_isAlike σ3 ((119 + 6 * x1) + 2) ((119 + 6 * x2) + 2) (σ3 1 11) (fun r9 σ9 => ∀ _ : ml_B r9,
(r9 = 0 →
f_X11_both_u91 Q σ9 0) ∧
(r9 ≠ 0 →
f_X11_both_u91 Q σ9 1))) ∧
(x3 = 1 →
∀ _ : I32 (σ3 1 11),
f_X4_changePlaces σ3 ((119 + 6 * x1) + 2) ((119 + 6 * x2) + 2) (σ3 1 11) (fun r12 σ12 => ∀ _ : ml_B r12,
(r12 = 0 →
f_X11_both_u115 Q σ12 0) ∧
(r12 ≠ 0 →
f_X11_both_u115 Q σ12 1))) ∧
(x3 = 2 →
∀ _ : I32 (σ3 1 11),
f_X4_takesUp σ3 ((119 + 6 * x1) + 2) ((119 + 6 * x2) + 2) (σ3 1 11) (fun r15 σ15 => ∀ _ : ml_B r15,
(r15 = 0 →
f_X11_both_u139 Q σ15 0) ∧
(r15 ≠ 0 →
f_X11_both_u139 Q σ15 1))) ∧
(x3 = 3 →
∀ _ : I32 (σ3 1 11),
f_X4_comesBack σ3 ((119 + 6 * x1) + 2) ((119 + 6 * x2) + 2) (σ3 1 11) (fun r18 σ18 => ∀ _ : ml_B r18,
(r18 = 0 →
f_X11_both_u163 Q σ18 0) ∧
(r18 ≠ 0 →
f_X11_both_u163 Q σ18 1))) ∧
(x3 < 0 ∨ 3 < x3 →
Q (-1) σ3)) ∧
(r3 = 0 →
f_X11_both_u16 Q σ3))))
def f_X11_both (σ : ml_St) (x1 : Int) (x2 : Int) (x3 : Int) (Q : Int → ml_St → Prop) : Prop := f_X11_both_u0 Q σ x1 x2 x3
def rm_X11_both : Room := { frames := 4, cells := 0, slots := 0, locals := 138 }
set_option maxRecDepth 100000 in
set_option maxHeartbeats 4000000 in
theorem u_X11_both_16 {p : Program} {e : Env} {s : State} {m : MethodId} {args : Array Value} {below : List Frame} {meth : Method} {c : Code} {base : Nat} {D : va_G} {cA : Nat → ClassId} {n : Nat} {l : Launch} {Q : Int → ml_St → Prop} (X : ml_X p s m c meth args D cA cX11_both 6 RX11 (some .int)) (hn : 214 ≤ n) (σ : ml_St) (ls : Array Slot) (hl : lv_has ls 6 []) (hw : f_X11_both_u16 Q σ) : ml_V p l e rm_X11_both s m args below meth c (MQ below (ml_Qi I32 base D cA n Q) args s 0 0 (ml_A base)) base D cA 0 0 n n σ (F0 m 16 ls []) := by
  unfold f_X11_both_u16 at hw
  refine ml_iconst (pc := 16) X dX11_both_16 ?_
  exact ml_iret (pc := 17) X ⟨by decide, by decide⟩ hw dX11_both_17
set_option maxRecDepth 100000 in
set_option maxHeartbeats 4000000 in
theorem u_X11_both_91 {p : Program} {e : Env} {s : State} {m : MethodId} {args : Array Value} {below : List Frame} {meth : Method} {c : Code} {base : Nat} {D : va_G} {cA : Nat → ClassId} {n : Nat} {l : Launch} {Q : Int → ml_St → Prop} (X : ml_X p s m c meth args D cA cX11_both 6 RX11 (some .int)) (hn : 214 ≤ n) (σ : ml_St) (s0 : Int) (h_s0 : ml_B s0) (ls : Array Slot) (hl : lv_has ls 6 []) (hw : f_X11_both_u91 Q σ s0) : ml_V p l e rm_X11_both s m args below meth c (MQ below (ml_Qi I32 base D cA n Q) args s 0 0 (ml_A base)) base D cA 0 0 n n σ (F0 m 91 ls [.int (Int32.ofInt s0)]) := by
  unfold f_X11_both_u91 at hw
  exact ml_iret (pc := 91) X h_s0.i hw dX11_both_91
set_option maxRecDepth 100000 in
set_option maxHeartbeats 4000000 in
theorem u_X11_both_115 {p : Program} {e : Env} {s : State} {m : MethodId} {args : Array Value} {below : List Frame} {meth : Method} {c : Code} {base : Nat} {D : va_G} {cA : Nat → ClassId} {n : Nat} {l : Launch} {Q : Int → ml_St → Prop} (X : ml_X p s m c meth args D cA cX11_both 6 RX11 (some .int)) (hn : 214 ≤ n) (σ : ml_St) (s0 : Int) (h_s0 : ml_B s0) (ls : Array Slot) (hl : lv_has ls 6 []) (hw : f_X11_both_u115 Q σ s0) : ml_V p l e rm_X11_both s m args below meth c (MQ below (ml_Qi I32 base D cA n Q) args s 0 0 (ml_A base)) base D cA 0 0 n n σ (F0 m 115 ls [.int (Int32.ofInt s0)]) := by
  unfold f_X11_both_u115 at hw
  exact ml_iret (pc := 115) X h_s0.i hw dX11_both_115
set_option maxRecDepth 100000 in
set_option maxHeartbeats 4000000 in
theorem u_X11_both_139 {p : Program} {e : Env} {s : State} {m : MethodId} {args : Array Value} {below : List Frame} {meth : Method} {c : Code} {base : Nat} {D : va_G} {cA : Nat → ClassId} {n : Nat} {l : Launch} {Q : Int → ml_St → Prop} (X : ml_X p s m c meth args D cA cX11_both 6 RX11 (some .int)) (hn : 214 ≤ n) (σ : ml_St) (s0 : Int) (h_s0 : ml_B s0) (ls : Array Slot) (hl : lv_has ls 6 []) (hw : f_X11_both_u139 Q σ s0) : ml_V p l e rm_X11_both s m args below meth c (MQ below (ml_Qi I32 base D cA n Q) args s 0 0 (ml_A base)) base D cA 0 0 n n σ (F0 m 139 ls [.int (Int32.ofInt s0)]) := by
  unfold f_X11_both_u139 at hw
  exact ml_iret (pc := 139) X h_s0.i hw dX11_both_139
set_option maxRecDepth 100000 in
set_option maxHeartbeats 4000000 in
theorem u_X11_both_163 {p : Program} {e : Env} {s : State} {m : MethodId} {args : Array Value} {below : List Frame} {meth : Method} {c : Code} {base : Nat} {D : va_G} {cA : Nat → ClassId} {n : Nat} {l : Launch} {Q : Int → ml_St → Prop} (X : ml_X p s m c meth args D cA cX11_both 6 RX11 (some .int)) (hn : 214 ≤ n) (σ : ml_St) (s0 : Int) (h_s0 : ml_B s0) (ls : Array Slot) (hl : lv_has ls 6 []) (hw : f_X11_both_u163 Q σ s0) : ml_V p l e rm_X11_both s m args below meth c (MQ below (ml_Qi I32 base D cA n Q) args s 0 0 (ml_A base)) base D cA 0 0 n n σ (F0 m 163 ls [.int (Int32.ofInt s0)]) := by
  unfold f_X11_both_u163 at hw
  exact ml_iret (pc := 163) X h_s0.i hw dX11_both_163
set_option maxRecDepth 100000 in
set_option maxHeartbeats 4000000 in
theorem u_X11_both_0 {p : Program} {e : Env} {s : State} {m : MethodId} {args : Array Value} {below : List Frame} {meth : Method} {c : Code} {base : Nat} {D : va_G} {cA : Nat → ClassId} {n : Nat} {l : Launch} {Q : Int → ml_St → Prop} (X : ml_X p s m c meth args D cA cX11_both 6 RX11 (some .int)) (hn : 214 ≤ n) (σ : ml_St) (x1 : Int) (x2 : Int) (x3 : Int) (h_x1 : I32 x1) (h_x2 : I32 x2) (h_x3 : I32 x3) (ls : Array Slot) (hl : lv_has ls 6 [(0, .ref (base + (1 : Int).toNat)), (1, .int (Int32.ofInt x1)), (2, .int (Int32.ofInt x2)), (3, .int (Int32.ofInt x3))]) (hw : f_X11_both_u0 Q σ x1 x2 x3) : ml_V p l e rm_X11_both s m args below meth c (MQ below (ml_Qi I32 base D cA n Q) args s 0 0 (ml_A base)) base D cA 0 0 n n σ (F0 m 0 ls []) := by
  unfold f_X11_both_u0 at hw
  refine ml_aload_n (pc := 0) X hl 0 rfl rfl dX11_both_0 ?_
  refine ml_iload_n (pc := 1) X hl 1 rfl rfl dX11_both_1 ?_
  refine ml_callzV (pc := 2) (rest := []) X [.int (Int32.ofInt x1)] (by decide) rfl (ml_c1 hn) (c_X11_isMade l base D cA n hn σ x1 h_x1 _ hw) cv_X11_121 ⟨rfl, rfl⟩ ⟨by decide, by decide⟩ rfl rfl hl (Nat.le_of_ble_eq_true rfl) ⟨Nat.zero_le _, Nat.zero_le _⟩ dX11_both_2 (fun r1 σ1 t1 hw => ?_)
  have hw := hw t1
  refine ml_if_eq (pc := 5) (tgt := 16) X t1.i dX11_both_5 (by decide) (fun c2 => ?_) (fun c2 => ?_)
  · have hw := hw.1 c2
    exact u_X11_both_16 X hn σ1   _ (lv_sub hl [] rfl) hw
  · have hw := hw.2 c2
    refine ml_aload_n (pc := 8) X hl 0 rfl rfl dX11_both_8 ?_
    refine ml_iload_n (pc := 9) X hl 2 rfl rfl dX11_both_9 ?_
    refine ml_callzV (pc := 10) (rest := []) X [.int (Int32.ofInt x2)] (by decide) rfl (ml_c1 hn) (c_X11_isMade l base D cA n hn σ1 x2 h_x2 _ hw) cv_X11_121 ⟨rfl, rfl⟩ ⟨by decide, by decide⟩ rfl rfl hl (Nat.le_of_ble_eq_true rfl) ⟨Nat.zero_le _, Nat.zero_le _⟩ dX11_both_10 (fun r3 σ3 t3 hw => ?_)
    have hw := hw t3
    refine ml_if_ne (pc := 13) (tgt := 18) X t3.i dX11_both_13 (by decide) (fun c4 => ?_) (fun c4 => ?_)
    · have hw := hw.1 c4
      refine ml_aload_n (pc := 18) X hl 0 rfl rfl dX11_both_18 ?_
      refine gf_X11_67 (pc := 19) X (ml_c1 hn) dX11_both_19 ?_
      refine ml_iload_n (pc := 22) X hl 1 rfl rfl dX11_both_22 ?_
      obtain ⟨a5, b5, hw⟩ := hw
      refine ml_aald_words (pc := 23) X hn a5 b5 dX11_both_23 ?_
      refine gf_X11_112 (pc := 24) X (ml_at_words hn a5 b5) dX11_both_24 ?_
      refine ml_astore (pc := 27) X hl (by decide) (lst' := [(4, .ref (base + (((119 + 6 * x1) + 2) : Int).toNat)), (0, .ref (base + (1 : Int).toNat)), (1, .int (Int32.ofInt x1)), (2, .int (Int32.ofInt x2)), (3, .int (Int32.ofInt x3))]) rfl dX11_both_27 (fun ls hl => ?_)
      refine ml_aload_n (pc := 29) X hl 1 rfl rfl dX11_both_29 ?_
      refine gf_X11_67 (pc := 30) X (ml_c1 hn) dX11_both_30 ?_
      refine ml_iload_n (pc := 33) X hl 3 rfl rfl dX11_both_33 ?_
      obtain ⟨a6, b6, hw⟩ := hw
      refine ml_aald_words (pc := 34) X hn a6 b6 dX11_both_34 ?_
      refine gf_X11_112 (pc := 35) X (ml_at_words hn a6 b6) dX11_both_35 ?_
      refine ml_astore (pc := 38) X hl (by decide) (lst' := [(5, .ref (base + (((119 + 6 * x2) + 2) : Int).toNat)), (4, .ref (base + (((119 + 6 * x1) + 2) : Int).toNat)), (0, .ref (base + (1 : Int).toNat)), (1, .int (Int32.ofInt x1)), (2, .int (Int32.ofInt x2)), (3, .int (Int32.ofInt x3))]) rfl dX11_both_38 (fun ls hl => ?_)
      refine ml_iload_n (pc := 40) X hl 5 rfl rfl dX11_both_40 ?_
      rcases (show x3 = 0 ∨ x3 = 1 ∨ x3 = 2 ∨ x3 = 3 ∨ (x3 < 0 ∨ 3 < x3) by omega) with c7 | c7 | c7 | c7 | c7
      · have hw := hw.1 c7
        refine ml_tIn (pc := 41) (off := 31) (tgt := 72) X c7 dX11_both_41 (by decide) (by decide) (by decide +kernel) (by decide) ?_
        refine ml_aload (pc := 72) X hl 1 rfl dX11_both_72 ?_
        refine ml_aload (pc := 74) X hl 0 rfl dX11_both_74 ?_
        refine ml_aload_n (pc := 76) X hl 2 rfl rfl dX11_both_76 ?_
        refine gf_X11_82 (pc := 77) X (ml_c1 hn) dX11_both_77 (fun r8 => ?_)
        have hw := hw r8
        refine ml_callzV (pc := 80) (rest := []) X [.ref (base + (((119 + 6 * x2) + 2) : Int).toNat), .int (Int32.ofInt (σ3 1 11))] (by decide) rfl (ml_r20_2 hn (ml_at_words hn a5 b5)) (c_X9_isAlike l base D cA n hn σ3 ((119 + 6 * x1) + 2) ((119 + 6 * x2) + 2) (ml_r20_2 hn (ml_at_words hn a5 b5)) (ml_r20_2 hn (ml_at_words hn a6 b6)) (σ3 1 11) r8 _ hw) cv_X11_191 ⟨rfl, rfl⟩ ⟨by decide, by decide⟩ rfl rfl hl (Nat.le_of_ble_eq_true rfl) ⟨Nat.zero_le _, Nat.zero_le _⟩ dX11_both_80 (fun r9 σ9 t9 hw => ?_)
        have hw := hw t9
        refine ml_if_eq (pc := 83) (tgt := 90) X t9.i dX11_both_83 (by decide) (fun c10 => ?_) (fun c10 => ?_)
        · have hw := hw.1 c10
          refine ml_iconst (pc := 90) X dX11_both_90 ?_
          exact u_X11_both_91 X hn σ9 0 ⟨by decide, by decide⟩ _ (lv_sub hl [] rfl) hw
        · have hw := hw.2 c10
          refine ml_iconst (pc := 86) X dX11_both_86 ?_
          refine ml_goto (pc := 87) (tgt := 91) X dX11_both_87 (by decide) ?_
          exact u_X11_both_91 X hn σ9 1 ⟨by decide, by decide⟩ _ (lv_sub hl [] rfl) hw
      · have hw := hw.2.1 c7
        refine ml_tIn (pc := 41) (off := 51) (tgt := 92) X c7 dX11_both_41 (by decide) (by decide) (by decide +kernel) (by decide) ?_
        refine ml_aload_n (pc := 92) X hl 2 rfl rfl dX11_both_92 ?_
        refine gf_X11_33 (pc := 93) X (ml_c1 hn) dX11_both_93 ?_
        refine ml_aload (pc := 96) X hl 1 rfl dX11_both_96 ?_
        refine ml_aload (pc := 98) X hl 0 rfl dX11_both_98 ?_
        refine ml_aload_n (pc := 100) X hl 2 rfl rfl dX11_both_100 ?_
        refine gf_X11_82 (pc := 101) X (ml_c1 hn) dX11_both_101 (fun r11 => ?_)
        have hw := hw r11
        refine ml_callzV (pc := 104) (rest := []) X [.ref (base + (((119 + 6 * x1) + 2) : Int).toNat), .ref (base + (((119 + 6 * x2) + 2) : Int).toNat), .int (Int32.ofInt (σ3 1 11))] (by decide) rfl (ml_c8 hn) (c_X4_changePlaces l base D cA n hn σ3 ((119 + 6 * x1) + 2) ((119 + 6 * x2) + 2) (ml_r20_2 hn (ml_at_words hn a5 b5)) (ml_r20_2 hn (ml_at_words hn a6 b6)) (σ3 1 11) r11 _ hw) cv_X11_195 ⟨rfl, rfl⟩ ⟨by decide, by decide⟩ rfl rfl hl (Nat.le_of_ble_eq_true rfl) ⟨Nat.zero_le _, Nat.zero_le _⟩ dX11_both_104 (fun r12 σ12 t12 hw => ?_)
        have hw := hw t12
        refine ml_if_eq (pc := 107) (tgt := 114) X t12.i dX11_both_107 (by decide) (fun c13 => ?_) (fun c13 => ?_)
        · have hw := hw.1 c13
          refine ml_iconst (pc := 114) X dX11_both_114 ?_
          exact u_X11_both_115 X hn σ12 0 ⟨by decide, by decide⟩ _ (lv_sub hl [] rfl) hw
        · have hw := hw.2 c13
          refine ml_iconst (pc := 110) X dX11_both_110 ?_
          refine ml_goto (pc := 111) (tgt := 115) X dX11_both_111 (by decide) ?_
          exact u_X11_both_115 X hn σ12 1 ⟨by decide, by decide⟩ _ (lv_sub hl [] rfl) hw
      · have hw := hw.2.2.1 c7
        refine ml_tIn (pc := 41) (off := 75) (tgt := 116) X c7 dX11_both_41 (by decide) (by decide) (by decide +kernel) (by decide) ?_
        refine ml_aload_n (pc := 116) X hl 2 rfl rfl dX11_both_116 ?_
        refine gf_X11_33 (pc := 117) X (ml_c1 hn) dX11_both_117 ?_
        refine ml_aload (pc := 120) X hl 1 rfl dX11_both_120 ?_
        refine ml_aload (pc := 122) X hl 0 rfl dX11_both_122 ?_
        refine ml_aload_n (pc := 124) X hl 2 rfl rfl dX11_both_124 ?_
        refine gf_X11_82 (pc := 125) X (ml_c1 hn) dX11_both_125 (fun r14 => ?_)
        have hw := hw r14
        refine ml_callzV (pc := 128) (rest := []) X [.ref (base + (((119 + 6 * x1) + 2) : Int).toNat), .ref (base + (((119 + 6 * x2) + 2) : Int).toNat), .int (Int32.ofInt (σ3 1 11))] (by decide) rfl (ml_c8 hn) (c_X4_takesUp l base D cA n hn σ3 ((119 + 6 * x1) + 2) ((119 + 6 * x2) + 2) (ml_r20_2 hn (ml_at_words hn a5 b5)) (ml_r20_2 hn (ml_at_words hn a6 b6)) (σ3 1 11) r14 _ hw) cv_X11_199 ⟨rfl, rfl⟩ ⟨by decide, by decide⟩ rfl rfl hl (Nat.le_of_ble_eq_true rfl) ⟨Nat.zero_le _, Nat.zero_le _⟩ dX11_both_128 (fun r15 σ15 t15 hw => ?_)
        have hw := hw t15
        refine ml_if_eq (pc := 131) (tgt := 138) X t15.i dX11_both_131 (by decide) (fun c16 => ?_) (fun c16 => ?_)
        · have hw := hw.1 c16
          refine ml_iconst (pc := 138) X dX11_both_138 ?_
          exact u_X11_both_139 X hn σ15 0 ⟨by decide, by decide⟩ _ (lv_sub hl [] rfl) hw
        · have hw := hw.2 c16
          refine ml_iconst (pc := 134) X dX11_both_134 ?_
          refine ml_goto (pc := 135) (tgt := 139) X dX11_both_135 (by decide) ?_
          exact u_X11_both_139 X hn σ15 1 ⟨by decide, by decide⟩ _ (lv_sub hl [] rfl) hw
      · have hw := hw.2.2.2.1 c7
        refine ml_tIn (pc := 41) (off := 99) (tgt := 140) X c7 dX11_both_41 (by decide) (by decide) (by decide +kernel) (by decide) ?_
        refine ml_aload_n (pc := 140) X hl 2 rfl rfl dX11_both_140 ?_
        refine gf_X11_33 (pc := 141) X (ml_c1 hn) dX11_both_141 ?_
        refine ml_aload (pc := 144) X hl 1 rfl dX11_both_144 ?_
        refine ml_aload (pc := 146) X hl 0 rfl dX11_both_146 ?_
        refine ml_aload_n (pc := 148) X hl 2 rfl rfl dX11_both_148 ?_
        refine gf_X11_82 (pc := 149) X (ml_c1 hn) dX11_both_149 (fun r17 => ?_)
        have hw := hw r17
        refine ml_callzV (pc := 152) (rest := []) X [.ref (base + (((119 + 6 * x1) + 2) : Int).toNat), .ref (base + (((119 + 6 * x2) + 2) : Int).toNat), .int (Int32.ofInt (σ3 1 11))] (by decide) rfl (ml_c8 hn) (c_X4_comesBack l base D cA n hn σ3 ((119 + 6 * x1) + 2) ((119 + 6 * x2) + 2) (ml_r20_2 hn (ml_at_words hn a5 b5)) (ml_r20_2 hn (ml_at_words hn a6 b6)) (σ3 1 11) r17 _ hw) cv_X11_202 ⟨rfl, rfl⟩ ⟨by decide, by decide⟩ rfl rfl hl (Nat.le_of_ble_eq_true rfl) ⟨Nat.zero_le _, Nat.zero_le _⟩ dX11_both_152 (fun r18 σ18 t18 hw => ?_)
        have hw := hw t18
        refine ml_if_eq (pc := 155) (tgt := 162) X t18.i dX11_both_155 (by decide) (fun c19 => ?_) (fun c19 => ?_)
        · have hw := hw.1 c19
          refine ml_iconst (pc := 162) X dX11_both_162 ?_
          exact u_X11_both_163 X hn σ18 0 ⟨by decide, by decide⟩ _ (lv_sub hl [] rfl) hw
        · have hw := hw.2 c19
          refine ml_iconst (pc := 158) X dX11_both_158 ?_
          refine ml_goto (pc := 159) (tgt := 163) X dX11_both_159 (by decide) ?_
          exact u_X11_both_163 X hn σ18 1 ⟨by decide, by decide⟩ _ (lv_sub hl [] rfl) hw
      · have hw := hw.2.2.2.2 c7
        refine ml_tOut (pc := 41) (tgt := 164) X h_x3 dX11_both_41 c7 (by decide) ?_
        refine ml_iconst (pc := 164) X dX11_both_164 ?_
        exact ml_iret (pc := 165) X ⟨by decide, by decide⟩ hw dX11_both_165
    · have hw := hw.2 c4
      exact u_X11_both_16 X hn σ3   _ (lv_sub hl [] rfl) hw
set_option maxRecDepth 100000 in
theorem c_X11_both (l : Launch) (base : Nat) (D : va_G) (cA : Nat → ClassId) (n : Nat) (hn : 214 ≤ n) (σ : ml_St) (x1 : Int) (x2 : Int) (x3 : Int) (h_x1 : I32 x1) (h_x2 : I32 x2) (h_x3 : I32 x3) (Q : Int → ml_St → Prop) (hw : f_X11_both σ x1 x2 x3 Q) : Met l yX11_both (Cond.code yX11_both cX11_both 6 (some .int) :: ml_T) rm_X11_both (va_Pc [.ref (base + (1 : Int).toNat), .int (Int32.ofInt x1), .int (Int32.ofInt x2), .int (Int32.ofInt x3)] (ml_U base D cA n σ)) (ml_Qi I32 base D cA n Q) 0 0 (ml_A base) := by
  refine Met.ofW (cc := cX11_both) (maxL := 6) (ret := (some .int)) (by decide) rfl ?_
  intro p e s m args below meth c s₁ B hml hv
  obtain ⟨rfl, hP, hK, hok, hro⟩ := hv
  have X : ml_X p s m c meth _ D cA cX11_both 6 RX11 (some .int) := ⟨B.exec, B.bytes, hml, findClass_of_methodNamed B.named, fun w hw => atoms_spec (ws := Cond.code yX11_both cX11_both 6 (some .int) :: ml_T) B.pre w (List.mem_cons_of_mem _ hw), hK, B.notSynchronized, B.returns⟩
  have hl := lv_entry [.ref (base + (1 : Int).toNat), .int (Int32.ofInt x1), .int (Int32.ofInt x2), .int (Int32.ofInt x3)] (n := 6) (Nat.le_of_ble_eq_true rfl)
  rw [lg_entry_eq]
  generalize (lg_sl [.ref (base + (1 : Int).toNat), .int (Int32.ofInt x1), .int (Int32.ofInt x2), .int (Int32.ofInt x3)] ++ List.replicate (6 - (lg_sl [.ref (base + (1 : Int).toNat), .int (Int32.ofInt x1), .int (Int32.ofInt x2), .int (Int32.ofInt x3)]).length) Slot.unset).toArray = ls at hl ⊢
  have hl : lv_has ls 6 [(0, .ref (base + (1 : Int).toNat)), (1, .int (Int32.ofInt x1)), (2, .int (Int32.ofInt x2)), (3, .int (Int32.ofInt x3))] := hl
  unfold f_X11_both at hw
  exact u_X11_both_0 X hn σ x1 x2 x3 h_x1 h_x2 h_x3 _ (lv_sub hl [0, 1, 2, 3] rfl) hw s.heap [] hP va_S.rf hok hro
theorem dX11_is_0 : decode cX11_is 0 = .ok (.aload_n 0, 1) := by decide +kernel
theorem dX11_is_1 : decode cX11_is 1 = .ok (.iload_n 1, 1) := by decide +kernel
theorem dX11_is_2 : decode cX11_is 2 = .ok (.invokevirtual 104, 3) := by decide +kernel
theorem dX11_is_5 : decode cX11_is 5 = .ok (.ifCond .ne 5, 3) := by decide +kernel
theorem dX11_is_8 : decode cX11_is 8 = .ok (.iconst (-1), 1) := by decide +kernel
theorem dX11_is_9 : decode cX11_is 9 = .ok (.ireturn, 1) := by decide +kernel
theorem dX11_is_10 : decode cX11_is 10 = .ok (.iload_n 2, 1) := by decide +kernel
theorem dX11_is_11 : decode cX11_is 11 = .ok (.tableswitch 110 0 3 #[29, 50, 71, 89], 29) := by decide +kernel
theorem dX11_is_40 : decode cX11_is 40 = .ok (.aload_n 0, 1) := by decide +kernel
theorem dX11_is_41 : decode cX11_is 41 = .ok (.getfield 67, 3) := by decide +kernel
theorem dX11_is_44 : decode cX11_is 44 = .ok (.iload_n 1, 1) := by decide +kernel
theorem dX11_is_45 : decode cX11_is 45 = .ok (.aaload, 1) := by decide +kernel
theorem dX11_is_46 : decode cX11_is 46 = .ok (.getfield 112, 3) := by decide +kernel
theorem dX11_is_49 : decode cX11_is 49 = .ok (.getfield 205, 3) := by decide +kernel
theorem dX11_is_52 : decode cX11_is 52 = .ok (.ifCond .eq 7, 3) := by decide +kernel
theorem dX11_is_55 : decode cX11_is 55 = .ok (.iconst 0, 1) := by decide +kernel
theorem dX11_is_56 : decode cX11_is 56 = .ok (.goto 4, 3) := by decide +kernel
theorem dX11_is_59 : decode cX11_is 59 = .ok (.iconst 1, 1) := by decide +kernel
theorem dX11_is_60 : decode cX11_is 60 = .ok (.ireturn, 1) := by decide +kernel
theorem dX11_is_61 : decode cX11_is 61 = .ok (.aload_n 0, 1) := by decide +kernel
theorem dX11_is_62 : decode cX11_is 62 = .ok (.getfield 67, 3) := by decide +kernel
theorem dX11_is_65 : decode cX11_is 65 = .ok (.iload_n 1, 1) := by decide +kernel
theorem dX11_is_66 : decode cX11_is 66 = .ok (.aaload, 1) := by decide +kernel
theorem dX11_is_67 : decode cX11_is 67 = .ok (.getfield 112, 3) := by decide +kernel
theorem dX11_is_70 : decode cX11_is 70 = .ok (.getfield 209, 3) := by decide +kernel
theorem dX11_is_73 : decode cX11_is 73 = .ok (.ifCond .eq 7, 3) := by decide +kernel
theorem dX11_is_76 : decode cX11_is 76 = .ok (.iconst 0, 1) := by decide +kernel
theorem dX11_is_77 : decode cX11_is 77 = .ok (.goto 4, 3) := by decide +kernel
theorem dX11_is_80 : decode cX11_is 80 = .ok (.iconst 1, 1) := by decide +kernel
theorem dX11_is_81 : decode cX11_is 81 = .ok (.ireturn, 1) := by decide +kernel
theorem dX11_is_82 : decode cX11_is 82 = .ok (.aload_n 0, 1) := by decide +kernel
theorem dX11_is_83 : decode cX11_is 83 = .ok (.getfield 67, 3) := by decide +kernel
theorem dX11_is_86 : decode cX11_is 86 = .ok (.iload_n 1, 1) := by decide +kernel
theorem dX11_is_87 : decode cX11_is 87 = .ok (.aaload, 1) := by decide +kernel
theorem dX11_is_88 : decode cX11_is 88 = .ok (.getfield 212, 3) := by decide +kernel
theorem dX11_is_91 : decode cX11_is 91 = .ok (.ifCond .eq 7, 3) := by decide +kernel
theorem dX11_is_94 : decode cX11_is 94 = .ok (.iconst 1, 1) := by decide +kernel
theorem dX11_is_95 : decode cX11_is 95 = .ok (.goto 4, 3) := by decide +kernel
theorem dX11_is_98 : decode cX11_is 98 = .ok (.iconst 0, 1) := by decide +kernel
theorem dX11_is_99 : decode cX11_is 99 = .ok (.ireturn, 1) := by decide +kernel
theorem dX11_is_100 : decode cX11_is 100 = .ok (.aload_n 0, 1) := by decide +kernel
theorem dX11_is_101 : decode cX11_is 101 = .ok (.getfield 67, 3) := by decide +kernel
theorem dX11_is_104 : decode cX11_is 104 = .ok (.iload_n 1, 1) := by decide +kernel
theorem dX11_is_105 : decode cX11_is 105 = .ok (.aaload, 1) := by decide +kernel
theorem dX11_is_106 : decode cX11_is 106 = .ok (.getfield 112, 3) := by decide +kernel
theorem dX11_is_109 : decode cX11_is 109 = .ok (.invokevirtual 215, 3) := by decide +kernel
theorem dX11_is_112 : decode cX11_is 112 = .ok (.ifCond .eq 7, 3) := by decide +kernel
theorem dX11_is_115 : decode cX11_is 115 = .ok (.iconst 1, 1) := by decide +kernel
theorem dX11_is_116 : decode cX11_is 116 = .ok (.goto 4, 3) := by decide +kernel
theorem dX11_is_119 : decode cX11_is 119 = .ok (.iconst 0, 1) := by decide +kernel
theorem dX11_is_120 : decode cX11_is 120 = .ok (.ireturn, 1) := by decide +kernel
theorem dX11_is_121 : decode cX11_is 121 = .ok (.iconst (-1), 1) := by decide +kernel
theorem dX11_is_122 : decode cX11_is 122 = .ok (.ireturn, 1) := by decide +kernel
def f_X11_is_u60 (Q : Int → ml_St → Prop) (σ : ml_St) (s0 : Int) : Prop :=
Q s0 σ
def f_X11_is_u81 (Q : Int → ml_St → Prop) (σ : ml_St) (s0 : Int) : Prop :=
Q s0 σ
def f_X11_is_u99 (Q : Int → ml_St → Prop) (σ : ml_St) (s0 : Int) : Prop :=
Q s0 σ
def f_X11_is_u120 (Q : Int → ml_St → Prop) (σ : ml_St) (s0 : Int) : Prop :=
Q s0 σ
def f_X11_is_u0 (Q : Int → ml_St → Prop) (σ : ml_St) (x1 : Int) (x2 : Int) : Prop :=
f_X11_isTold σ x1 (fun r1 σ1 => ∀ _ : ml_B r1,
(r1 ≠ 0 →
(x2 = 0 →
(0 : Int) ≤ x1 ∧ (x1 : Int) < 16 ∧
∀ _ : ml_B (σ1 ((119 + 6 * x1) + 2) 6),
(((σ1 ((119 + 6 * x1) + 2) 6) : Int) = 0 →
f_X11_is_u60 Q σ1 1) ∧
((σ1 ((119 + 6 * x1) + 2) 6) ≠ 0 →
f_X11_is_u60 Q σ1 0)) ∧
(x2 = 1 →
(0 : Int) ≤ x1 ∧ (x1 : Int) < 16 ∧
∀ _ : ml_B (σ1 ((119 + 6 * x1) + 2) 7),
(((σ1 ((119 + 6 * x1) + 2) 7) : Int) = 0 →
f_X11_is_u81 Q σ1 1) ∧
((σ1 ((119 + 6 * x1) + 2) 7) ≠ 0 →
f_X11_is_u81 Q σ1 0)) ∧
(x2 = 2 →
(0 : Int) ≤ x1 ∧ (x1 : Int) < 16 ∧
∀ _ : ml_B (σ1 (119 + 6 * x1) 2),
(((σ1 (119 + 6 * x1) 2) : Int) = 0 →
f_X11_is_u99 Q σ1 0) ∧
((σ1 (119 + 6 * x1) 2) ≠ 0 →
f_X11_is_u99 Q σ1 1)) ∧
(x2 = 3 →
(0 : Int) ≤ x1 ∧ (x1 : Int) < 16 ∧
f_X9_isTooLong σ1 ((119 + 6 * x1) + 2) (fun r14 σ14 => ∀ _ : ml_B r14,
(r14 = 0 →
f_X11_is_u120 Q σ14 0) ∧
(r14 ≠ 0 →
f_X11_is_u120 Q σ14 1))) ∧
(x2 < 0 ∨ 3 < x2 →
Q (-1) σ1)) ∧
(r1 = 0 →
Q (-1) σ1))
def f_X11_is (σ : ml_St) (x1 : Int) (x2 : Int) (Q : Int → ml_St → Prop) : Prop := f_X11_is_u0 Q σ x1 x2
def rm_X11_is : Room := { frames := 1, cells := 0, slots := 0, locals := 21 }
set_option maxRecDepth 100000 in
set_option maxHeartbeats 4000000 in
theorem u_X11_is_60 {p : Program} {e : Env} {s : State} {m : MethodId} {args : Array Value} {below : List Frame} {meth : Method} {c : Code} {base : Nat} {D : va_G} {cA : Nat → ClassId} {n : Nat} {l : Launch} {Q : Int → ml_St → Prop} (X : ml_X p s m c meth args D cA cX11_is 3 RX11 (some .int)) (hn : 214 ≤ n) (σ : ml_St) (s0 : Int) (h_s0 : ml_B s0) (ls : Array Slot) (hl : lv_has ls 3 []) (hw : f_X11_is_u60 Q σ s0) : ml_V p l e rm_X11_is s m args below meth c (MQ below (ml_Qi I32 base D cA n Q) args s 0 0 (ml_A base)) base D cA 0 0 n n σ (F0 m 60 ls [.int (Int32.ofInt s0)]) := by
  unfold f_X11_is_u60 at hw
  exact ml_iret (pc := 60) X h_s0.i hw dX11_is_60
set_option maxRecDepth 100000 in
set_option maxHeartbeats 4000000 in
theorem u_X11_is_81 {p : Program} {e : Env} {s : State} {m : MethodId} {args : Array Value} {below : List Frame} {meth : Method} {c : Code} {base : Nat} {D : va_G} {cA : Nat → ClassId} {n : Nat} {l : Launch} {Q : Int → ml_St → Prop} (X : ml_X p s m c meth args D cA cX11_is 3 RX11 (some .int)) (hn : 214 ≤ n) (σ : ml_St) (s0 : Int) (h_s0 : ml_B s0) (ls : Array Slot) (hl : lv_has ls 3 []) (hw : f_X11_is_u81 Q σ s0) : ml_V p l e rm_X11_is s m args below meth c (MQ below (ml_Qi I32 base D cA n Q) args s 0 0 (ml_A base)) base D cA 0 0 n n σ (F0 m 81 ls [.int (Int32.ofInt s0)]) := by
  unfold f_X11_is_u81 at hw
  exact ml_iret (pc := 81) X h_s0.i hw dX11_is_81
set_option maxRecDepth 100000 in
set_option maxHeartbeats 4000000 in
theorem u_X11_is_99 {p : Program} {e : Env} {s : State} {m : MethodId} {args : Array Value} {below : List Frame} {meth : Method} {c : Code} {base : Nat} {D : va_G} {cA : Nat → ClassId} {n : Nat} {l : Launch} {Q : Int → ml_St → Prop} (X : ml_X p s m c meth args D cA cX11_is 3 RX11 (some .int)) (hn : 214 ≤ n) (σ : ml_St) (s0 : Int) (h_s0 : ml_B s0) (ls : Array Slot) (hl : lv_has ls 3 []) (hw : f_X11_is_u99 Q σ s0) : ml_V p l e rm_X11_is s m args below meth c (MQ below (ml_Qi I32 base D cA n Q) args s 0 0 (ml_A base)) base D cA 0 0 n n σ (F0 m 99 ls [.int (Int32.ofInt s0)]) := by
  unfold f_X11_is_u99 at hw
  exact ml_iret (pc := 99) X h_s0.i hw dX11_is_99
set_option maxRecDepth 100000 in
set_option maxHeartbeats 4000000 in
theorem u_X11_is_120 {p : Program} {e : Env} {s : State} {m : MethodId} {args : Array Value} {below : List Frame} {meth : Method} {c : Code} {base : Nat} {D : va_G} {cA : Nat → ClassId} {n : Nat} {l : Launch} {Q : Int → ml_St → Prop} (X : ml_X p s m c meth args D cA cX11_is 3 RX11 (some .int)) (hn : 214 ≤ n) (σ : ml_St) (s0 : Int) (h_s0 : ml_B s0) (ls : Array Slot) (hl : lv_has ls 3 []) (hw : f_X11_is_u120 Q σ s0) : ml_V p l e rm_X11_is s m args below meth c (MQ below (ml_Qi I32 base D cA n Q) args s 0 0 (ml_A base)) base D cA 0 0 n n σ (F0 m 120 ls [.int (Int32.ofInt s0)]) := by
  unfold f_X11_is_u120 at hw
  exact ml_iret (pc := 120) X h_s0.i hw dX11_is_120
set_option maxRecDepth 100000 in
set_option maxHeartbeats 4000000 in
theorem u_X11_is_0 {p : Program} {e : Env} {s : State} {m : MethodId} {args : Array Value} {below : List Frame} {meth : Method} {c : Code} {base : Nat} {D : va_G} {cA : Nat → ClassId} {n : Nat} {l : Launch} {Q : Int → ml_St → Prop} (X : ml_X p s m c meth args D cA cX11_is 3 RX11 (some .int)) (hn : 214 ≤ n) (σ : ml_St) (x1 : Int) (x2 : Int) (h_x1 : I32 x1) (h_x2 : I32 x2) (ls : Array Slot) (hl : lv_has ls 3 [(0, .ref (base + (1 : Int).toNat)), (1, .int (Int32.ofInt x1)), (2, .int (Int32.ofInt x2))]) (hw : f_X11_is_u0 Q σ x1 x2) : ml_V p l e rm_X11_is s m args below meth c (MQ below (ml_Qi I32 base D cA n Q) args s 0 0 (ml_A base)) base D cA 0 0 n n σ (F0 m 0 ls []) := by
  unfold f_X11_is_u0 at hw
  refine ml_aload_n (pc := 0) X hl 0 rfl rfl dX11_is_0 ?_
  refine ml_iload_n (pc := 1) X hl 1 rfl rfl dX11_is_1 ?_
  refine ml_callzV (pc := 2) (rest := []) X [.int (Int32.ofInt x1)] (by decide) rfl (ml_c1 hn) (c_X11_isTold l base D cA n hn σ x1 h_x1 _ hw) cv_X11_104 ⟨rfl, rfl⟩ ⟨by decide, by decide⟩ rfl rfl hl (Nat.le_of_ble_eq_true rfl) ⟨Nat.zero_le _, Nat.zero_le _⟩ dX11_is_2 (fun r1 σ1 t1 hw => ?_)
  have hw := hw t1
  refine ml_if_ne (pc := 5) (tgt := 10) X t1.i dX11_is_5 (by decide) (fun c2 => ?_) (fun c2 => ?_)
  · have hw := hw.1 c2
    refine ml_iload_n (pc := 10) X hl 2 rfl rfl dX11_is_10 ?_
    rcases (show x2 = 0 ∨ x2 = 1 ∨ x2 = 2 ∨ x2 = 3 ∨ (x2 < 0 ∨ 3 < x2) by omega) with c3 | c3 | c3 | c3 | c3
    · have hw := hw.1 c3
      refine ml_tIn (pc := 11) (off := 29) (tgt := 40) X c3 dX11_is_11 (by decide) (by decide) (by decide +kernel) (by decide) ?_
      refine ml_aload_n (pc := 40) X hl 0 rfl rfl dX11_is_40 ?_
      refine gf_X11_67 (pc := 41) X (ml_c1 hn) dX11_is_41 ?_
      refine ml_iload_n (pc := 44) X hl 1 rfl rfl dX11_is_44 ?_
      obtain ⟨a4, b4, hw⟩ := hw
      refine ml_aald_words (pc := 45) X hn a4 b4 dX11_is_45 ?_
      refine gf_X11_112 (pc := 46) X (ml_at_words hn a4 b4) dX11_is_46 ?_
      refine gf_X11_205 (pc := 49) X (ml_r20_2 hn (ml_at_words hn a4 b4)) dX11_is_49 (fun r5 => ?_)
      have hw := hw r5
      refine ml_if_eq (pc := 52) (tgt := 59) X r5.i dX11_is_52 (by decide) (fun c6 => ?_) (fun c6 => ?_)
      · have hw := hw.1 c6
        refine ml_iconst (pc := 59) X dX11_is_59 ?_
        exact u_X11_is_60 X hn σ1 1 ⟨by decide, by decide⟩ _ (lv_sub hl [] rfl) hw
      · have hw := hw.2 c6
        refine ml_iconst (pc := 55) X dX11_is_55 ?_
        refine ml_goto (pc := 56) (tgt := 60) X dX11_is_56 (by decide) ?_
        exact u_X11_is_60 X hn σ1 0 ⟨by decide, by decide⟩ _ (lv_sub hl [] rfl) hw
    · have hw := hw.2.1 c3
      refine ml_tIn (pc := 11) (off := 50) (tgt := 61) X c3 dX11_is_11 (by decide) (by decide) (by decide +kernel) (by decide) ?_
      refine ml_aload_n (pc := 61) X hl 0 rfl rfl dX11_is_61 ?_
      refine gf_X11_67 (pc := 62) X (ml_c1 hn) dX11_is_62 ?_
      refine ml_iload_n (pc := 65) X hl 1 rfl rfl dX11_is_65 ?_
      obtain ⟨a7, b7, hw⟩ := hw
      refine ml_aald_words (pc := 66) X hn a7 b7 dX11_is_66 ?_
      refine gf_X11_112 (pc := 67) X (ml_at_words hn a7 b7) dX11_is_67 ?_
      refine gf_X11_209 (pc := 70) X (ml_r20_2 hn (ml_at_words hn a7 b7)) dX11_is_70 (fun r8 => ?_)
      have hw := hw r8
      refine ml_if_eq (pc := 73) (tgt := 80) X r8.i dX11_is_73 (by decide) (fun c9 => ?_) (fun c9 => ?_)
      · have hw := hw.1 c9
        refine ml_iconst (pc := 80) X dX11_is_80 ?_
        exact u_X11_is_81 X hn σ1 1 ⟨by decide, by decide⟩ _ (lv_sub hl [] rfl) hw
      · have hw := hw.2 c9
        refine ml_iconst (pc := 76) X dX11_is_76 ?_
        refine ml_goto (pc := 77) (tgt := 81) X dX11_is_77 (by decide) ?_
        exact u_X11_is_81 X hn σ1 0 ⟨by decide, by decide⟩ _ (lv_sub hl [] rfl) hw
    · have hw := hw.2.2.1 c3
      refine ml_tIn (pc := 11) (off := 71) (tgt := 82) X c3 dX11_is_11 (by decide) (by decide) (by decide +kernel) (by decide) ?_
      refine ml_aload_n (pc := 82) X hl 0 rfl rfl dX11_is_82 ?_
      refine gf_X11_67 (pc := 83) X (ml_c1 hn) dX11_is_83 ?_
      refine ml_iload_n (pc := 86) X hl 1 rfl rfl dX11_is_86 ?_
      obtain ⟨a10, b10, hw⟩ := hw
      refine ml_aald_words (pc := 87) X hn a10 b10 dX11_is_87 ?_
      refine gf_X11_212 (pc := 88) X (ml_at_words hn a10 b10) dX11_is_88 (fun r11 => ?_)
      have hw := hw r11
      refine ml_if_eq (pc := 91) (tgt := 98) X r11.i dX11_is_91 (by decide) (fun c12 => ?_) (fun c12 => ?_)
      · have hw := hw.1 c12
        refine ml_iconst (pc := 98) X dX11_is_98 ?_
        exact u_X11_is_99 X hn σ1 0 ⟨by decide, by decide⟩ _ (lv_sub hl [] rfl) hw
      · have hw := hw.2 c12
        refine ml_iconst (pc := 94) X dX11_is_94 ?_
        refine ml_goto (pc := 95) (tgt := 99) X dX11_is_95 (by decide) ?_
        exact u_X11_is_99 X hn σ1 1 ⟨by decide, by decide⟩ _ (lv_sub hl [] rfl) hw
    · have hw := hw.2.2.2.1 c3
      refine ml_tIn (pc := 11) (off := 89) (tgt := 100) X c3 dX11_is_11 (by decide) (by decide) (by decide +kernel) (by decide) ?_
      refine ml_aload_n (pc := 100) X hl 0 rfl rfl dX11_is_100 ?_
      refine gf_X11_67 (pc := 101) X (ml_c1 hn) dX11_is_101 ?_
      refine ml_iload_n (pc := 104) X hl 1 rfl rfl dX11_is_104 ?_
      obtain ⟨a13, b13, hw⟩ := hw
      refine ml_aald_words (pc := 105) X hn a13 b13 dX11_is_105 ?_
      refine gf_X11_112 (pc := 106) X (ml_at_words hn a13 b13) dX11_is_106 ?_
      refine ml_callzV (pc := 109) (rest := []) X [] (by decide) rfl (ml_r20_2 hn (ml_at_words hn a13 b13)) (c_X9_isTooLong l base D cA n hn σ1 ((119 + 6 * x1) + 2) (ml_r20_2 hn (ml_at_words hn a13 b13)) _ hw) cv_X11_215 ⟨rfl, rfl⟩ ⟨by decide, by decide⟩ rfl rfl hl (Nat.le_of_ble_eq_true rfl) ⟨Nat.zero_le _, Nat.zero_le _⟩ dX11_is_109 (fun r14 σ14 t14 hw => ?_)
      have hw := hw t14
      refine ml_if_eq (pc := 112) (tgt := 119) X t14.i dX11_is_112 (by decide) (fun c15 => ?_) (fun c15 => ?_)
      · have hw := hw.1 c15
        refine ml_iconst (pc := 119) X dX11_is_119 ?_
        exact u_X11_is_120 X hn σ14 0 ⟨by decide, by decide⟩ _ (lv_sub hl [] rfl) hw
      · have hw := hw.2 c15
        refine ml_iconst (pc := 115) X dX11_is_115 ?_
        refine ml_goto (pc := 116) (tgt := 120) X dX11_is_116 (by decide) ?_
        exact u_X11_is_120 X hn σ14 1 ⟨by decide, by decide⟩ _ (lv_sub hl [] rfl) hw
    · have hw := hw.2.2.2.2 c3
      refine ml_tOut (pc := 11) (tgt := 121) X h_x2 dX11_is_11 c3 (by decide) ?_
      refine ml_iconst (pc := 121) X dX11_is_121 ?_
      exact ml_iret (pc := 122) X ⟨by decide, by decide⟩ hw dX11_is_122
  · have hw := hw.2 c2
    refine ml_iconst (pc := 8) X dX11_is_8 ?_
    exact ml_iret (pc := 9) X ⟨by decide, by decide⟩ hw dX11_is_9
set_option maxRecDepth 100000 in
theorem c_X11_is (l : Launch) (base : Nat) (D : va_G) (cA : Nat → ClassId) (n : Nat) (hn : 214 ≤ n) (σ : ml_St) (x1 : Int) (x2 : Int) (h_x1 : I32 x1) (h_x2 : I32 x2) (Q : Int → ml_St → Prop) (hw : f_X11_is σ x1 x2 Q) : Met l yX11_is (Cond.code yX11_is cX11_is 3 (some .int) :: ml_T) rm_X11_is (va_Pc [.ref (base + (1 : Int).toNat), .int (Int32.ofInt x1), .int (Int32.ofInt x2)] (ml_U base D cA n σ)) (ml_Qi I32 base D cA n Q) 0 0 (ml_A base) := by
  refine Met.ofW (cc := cX11_is) (maxL := 3) (ret := (some .int)) (by decide) rfl ?_
  intro p e s m args below meth c s₁ B hml hv
  obtain ⟨rfl, hP, hK, hok, hro⟩ := hv
  have X : ml_X p s m c meth _ D cA cX11_is 3 RX11 (some .int) := ⟨B.exec, B.bytes, hml, findClass_of_methodNamed B.named, fun w hw => atoms_spec (ws := Cond.code yX11_is cX11_is 3 (some .int) :: ml_T) B.pre w (List.mem_cons_of_mem _ hw), hK, B.notSynchronized, B.returns⟩
  have hl := lv_entry [.ref (base + (1 : Int).toNat), .int (Int32.ofInt x1), .int (Int32.ofInt x2)] (n := 3) (Nat.le_of_ble_eq_true rfl)
  rw [lg_entry_eq]
  generalize (lg_sl [.ref (base + (1 : Int).toNat), .int (Int32.ofInt x1), .int (Int32.ofInt x2)] ++ List.replicate (3 - (lg_sl [.ref (base + (1 : Int).toNat), .int (Int32.ofInt x1), .int (Int32.ofInt x2)]).length) Slot.unset).toArray = ls at hl ⊢
  have hl : lv_has ls 3 [(0, .ref (base + (1 : Int).toNat)), (1, .int (Int32.ofInt x1)), (2, .int (Int32.ofInt x2))] := hl
  unfold f_X11_is at hw
  exact u_X11_is_0 X hn σ x1 x2 h_x1 h_x2 _ (lv_sub hl [0, 1, 2] rfl) hw s.heap [] hP va_S.rf hok hro
theorem dJ7_fill_53178_0 : decode cJ7_fill_53178 0 = .ok (.iconst 0, 1) := by decide +kernel
theorem dJ7_fill_53178_1 : decode cJ7_fill_53178 1 = .ok (.istore_n 2, 1) := by decide +kernel
theorem dJ7_fill_53178_2 : decode cJ7_fill_53178 2 = .ok (.aload_n 0, 1) := by decide +kernel
theorem dJ7_fill_53178_3 : decode cJ7_fill_53178 3 = .ok (.arraylength, 1) := by decide +kernel
theorem dJ7_fill_53178_4 : decode cJ7_fill_53178 4 = .ok (.istore_n 3, 1) := by decide +kernel
theorem dJ7_fill_53178_5 : decode cJ7_fill_53178 5 = .ok (.iload_n 2, 1) := by decide +kernel
theorem dJ7_fill_53178_6 : decode cJ7_fill_53178 6 = .ok (.iload_n 3, 1) := by decide +kernel
theorem dJ7_fill_53178_7 : decode cJ7_fill_53178 7 = .ok (.if_icmp .ge 13, 3) := by decide +kernel
theorem dJ7_fill_53178_10 : decode cJ7_fill_53178 10 = .ok (.aload_n 0, 1) := by decide +kernel
theorem dJ7_fill_53178_11 : decode cJ7_fill_53178 11 = .ok (.iload_n 2, 1) := by decide +kernel
theorem dJ7_fill_53178_12 : decode cJ7_fill_53178 12 = .ok (.iload_n 1, 1) := by decide +kernel
theorem dJ7_fill_53178_13 : decode cJ7_fill_53178 13 = .ok (.iastore, 1) := by decide +kernel
theorem dJ7_fill_53178_14 : decode cJ7_fill_53178 14 = .ok (.iinc 2 1, 3) := by decide +kernel
theorem dJ7_fill_53178_17 : decode cJ7_fill_53178 17 = .ok (.goto (-12), 3) := by decide +kernel
theorem dJ7_fill_53178_20 : decode cJ7_fill_53178 20 = .ok (.return_, 1) := by decide +kernel
def f_J7_fill_53178_u5 (Q : ml_St → Prop) (K20 : ml_St → Prop) (NL : Nat) (p0 : Int) : Nat → ml_St → Int → Int → Int → Prop
| 0, _, _, _, _ => False
| N + 1, σ, x1, x2, x3 =>
(x3 ≤ x2 →
K20 σ) ∧
(¬ (x3 ≤ x2) →
(0 : Int) ≤ x2 ∧ (x2 : Int) < NL ∧
∀ σ2, σ2 = ml_up σ p0 x2 x1 →
I32 (x2 + 1) ∧
∀ y3 : Int, y3 = x2 + 1 →
f_J7_fill_53178_u5 Q K20 NL p0 N σ2 x1 y3 x3)
def f_J7_fill_53178_u20 (Q : ml_St → Prop) (NL : Nat) (p0 : Int) (σ : ml_St) : Prop :=
Q σ
def f_J7_fill_53178_u0 (Q : ml_St → Prop) (NL : Nat) (p0 : Int) (σ : ml_St) (x1 : Int) : Prop :=
∀ y1 : Int, y1 = (NL : Int) →
∃ N1, f_J7_fill_53178_u5 Q (f_J7_fill_53178_u20 Q NL p0) NL p0 N1 σ x1 0 y1
def f_J7_fill_53178 (σ : ml_St) (NL : Nat) (p0 : Int) (x1 : Int) (Q : ml_St → Prop) : Prop := f_J7_fill_53178_u0 Q NL p0 σ x1
def rm_J7_fill_53178 : Room := { frames := 0, cells := 0, slots := 0, locals := 0 }
set_option maxRecDepth 100000 in
set_option maxHeartbeats 4000000 in
theorem u_J7_fill_53178_5 {p : Program} {e : Env} {s : State} {m : MethodId} {args : Array Value} {below : List Frame} {meth : Method} {c : Code} {base : Nat} {D : va_G} {cA : Nat → ClassId} {n : Nat} {l : Launch} {NL : Nat} {p0 : Int} {Q : ml_St → Prop} {K20 : ml_St → Prop} (X : ml_X p s m c meth args D cA cJ7_fill_53178 4 RJ7 none) (hn : 214 ≤ n) (hp_p0 : ml_at n p0 (1, NL)) (hK20 : ∀ (σ : ml_St) (ls : Array Slot), lv_has ls 4 [] → K20 σ → ml_V p l e rm_J7_fill_53178 s m args below meth c (MQ below (ml_Qv base D cA n Q) args s 0 0 (ml_A base)) base D cA 0 0 n n σ (F0 m 20 ls [])) : ∀ (N : Nat) (σ : ml_St) (x1 : Int) (x2 : Int) (x3 : Int) (h_x1 : I32 x1) (h_x2 : I32 x2) (h_x3 : I32 x3) (ls : Array Slot), lv_has ls 4 [(0, .ref (base + (p0 : Int).toNat)), (1, .int (Int32.ofInt x1)), (2, .int (Int32.ofInt x2)), (3, .int (Int32.ofInt x3))] → f_J7_fill_53178_u5 Q K20 NL p0 N σ x1 x2 x3 → ml_V p l e rm_J7_fill_53178 s m args below meth c (MQ below (ml_Qv base D cA n Q) args s 0 0 (ml_A base)) base D cA 0 0 n n σ (F0 m 5 ls []) := by
  intro N
  induction N with
  | zero => intro σ x1 x2 x3 h_x1 h_x2 h_x3 ls hl hw; exact False.elim hw
  | succ N ih =>
    intro σ x1 x2 x3 h_x1 h_x2 h_x3 ls hl hw
    unfold f_J7_fill_53178_u5 at hw
    refine ml_iload_n (pc := 5) X hl 2 rfl rfl dJ7_fill_53178_5 ?_
    refine ml_iload_n (pc := 6) X hl 3 rfl rfl dJ7_fill_53178_6 ?_
    refine ml_icmp_ge (pc := 7) (tgt := 20) X h_x2 h_x3 dJ7_fill_53178_7 (by decide) (fun c1 => ?_) (fun c1 => ?_)
    · have hw := hw.1 c1
      exact hK20 σ   _ (lv_sub hl [] rfl) hw
    · have hw := hw.2 c1
      refine ml_aload_n (pc := 10) X hl 0 rfl rfl dJ7_fill_53178_10 ?_
      refine ml_iload_n (pc := 11) X hl 2 rfl rfl dJ7_fill_53178_11 ?_
      refine ml_iload_n (pc := 12) X hl 1 rfl rfl dJ7_fill_53178_12 ?_
      obtain ⟨a2, b2, hw⟩ := hw
      refine ml_iast (pc := 13) (N := NL) X hp_p0 a2 b2 h_x1 dJ7_fill_53178_13 (fun σ2 g2 => ?_)
      have hw := hw σ2 g2
      obtain ⟨v3, hw⟩ := hw
      obtain ⟨y3, e3⟩ : ∃ y : Int, y = x2 + 1 := ⟨_, rfl⟩
      have hw := hw y3 e3
      rw [← e3] at v3
      refine ml_iinc (pc := 14) X e3 hl 2 rfl (by decide) (lst' := [(2, .int (Int32.ofInt y3)), (0, .ref (base + (p0 : Int).toNat)), (1, .int (Int32.ofInt x1)), (3, .int (Int32.ofInt x3))]) rfl dJ7_fill_53178_14 (fun ls hl => ?_)
      refine ml_goto (pc := 17) (tgt := 5) X dJ7_fill_53178_17 (by decide) ?_
      exact ih σ2 x1 y3 x3 h_x1 v3 h_x3 _ (lv_sub hl [1, 2, 0, 3] rfl) hw
set_option maxRecDepth 100000 in
set_option maxHeartbeats 4000000 in
theorem u_J7_fill_53178_20 {p : Program} {e : Env} {s : State} {m : MethodId} {args : Array Value} {below : List Frame} {meth : Method} {c : Code} {base : Nat} {D : va_G} {cA : Nat → ClassId} {n : Nat} {l : Launch} {NL : Nat} {p0 : Int} {Q : ml_St → Prop} (X : ml_X p s m c meth args D cA cJ7_fill_53178 4 RJ7 none) (hn : 214 ≤ n) (hp_p0 : ml_at n p0 (1, NL)) (σ : ml_St) (ls : Array Slot) (hl : lv_has ls 4 []) (hw : f_J7_fill_53178_u20 Q NL p0 σ) : ml_V p l e rm_J7_fill_53178 s m args below meth c (MQ below (ml_Qv base D cA n Q) args s 0 0 (ml_A base)) base D cA 0 0 n n σ (F0 m 20 ls []) := by
  unfold f_J7_fill_53178_u20 at hw
  exact ml_vret (pc := 20) X hw dJ7_fill_53178_20
set_option maxRecDepth 100000 in
set_option maxHeartbeats 4000000 in
theorem u_J7_fill_53178_0 {p : Program} {e : Env} {s : State} {m : MethodId} {args : Array Value} {below : List Frame} {meth : Method} {c : Code} {base : Nat} {D : va_G} {cA : Nat → ClassId} {n : Nat} {l : Launch} {NL : Nat} {p0 : Int} {Q : ml_St → Prop} (X : ml_X p s m c meth args D cA cJ7_fill_53178 4 RJ7 none) (hn : 214 ≤ n) (hp_p0 : ml_at n p0 (1, NL)) (σ : ml_St) (x1 : Int) (h_x1 : I32 x1) (ls : Array Slot) (hl : lv_has ls 4 [(0, .ref (base + (p0 : Int).toNat)), (1, .int (Int32.ofInt x1))]) (hw : f_J7_fill_53178_u0 Q NL p0 σ x1) : ml_V p l e rm_J7_fill_53178 s m args below meth c (MQ below (ml_Qv base D cA n Q) args s 0 0 (ml_A base)) base D cA 0 0 n n σ (F0 m 0 ls []) := by
  unfold f_J7_fill_53178_u0 at hw
  refine ml_iconst (pc := 0) X dJ7_fill_53178_0 ?_
  refine ml_istore_n (pc := 1) X rfl hl (by decide) (lst' := [(2, .int (Int32.ofInt 0)), (0, .ref (base + (p0 : Int).toNat)), (1, .int (Int32.ofInt x1))]) rfl dJ7_fill_53178_1 (fun ls hl => ?_)
  refine ml_aload_n (pc := 2) X hl 1 rfl rfl dJ7_fill_53178_2 ?_
  refine ml_alen (pc := 3) X hp_p0 (Or.inl rfl) dJ7_fill_53178_3 ?_
  refine ml_topI (pc := 4) (fun y1 e1 => ?_)
  have hw := hw y1 e1
  have q1 : I32 y1 := by rw [e1]; exact (ml_lenr hp_p0)
  refine ml_istore_n (pc := 4) X rfl hl (by decide) (lst' := [(3, .int (Int32.ofInt y1)), (2, .int (Int32.ofInt 0)), (0, .ref (base + (p0 : Int).toNat)), (1, .int (Int32.ofInt x1))]) rfl dJ7_fill_53178_4 (fun ls hl => ?_)
  obtain ⟨N0, hw⟩ := hw
  exact u_J7_fill_53178_5 X hn hp_p0 (fun σ   ls hl hw => u_J7_fill_53178_20 X hn hp_p0 σ   ls hl hw) N0 σ x1 0 y1 h_x1 ⟨by decide, by decide⟩ q1 _ (lv_sub hl [2, 3, 1, 0] rfl) hw
set_option maxRecDepth 100000 in
theorem c_J7_fill_53178 (l : Launch) (base : Nat) (D : va_G) (cA : Nat → ClassId) (n : Nat) (hn : 214 ≤ n) (σ : ml_St) (NL : Nat) (p0 : Int) (hp_p0 : ml_at n p0 (1, NL)) (x1 : Int) (h_x1 : I32 x1) (Q : ml_St → Prop) (hw : f_J7_fill_53178 σ NL p0 x1 Q) : Met l yJ7_fill_53178 (Cond.code yJ7_fill_53178 cJ7_fill_53178 4 none :: ml_T) rm_J7_fill_53178 (va_Pc [.ref (base + (p0 : Int).toNat), .int (Int32.ofInt x1)] (ml_U base D cA n σ)) (ml_Qv base D cA n Q) 0 0 (ml_A base) := by
  refine Met.ofW (cc := cJ7_fill_53178) (maxL := 4) (ret := none) (by decide) rfl ?_
  intro p e s m args below meth c s₁ B hml hv
  obtain ⟨rfl, hP, hK, hok, hro⟩ := hv
  have X : ml_X p s m c meth _ D cA cJ7_fill_53178 4 RJ7 none := ⟨B.exec, B.bytes, hml, findClass_of_methodNamed B.named, fun w hw => atoms_spec (ws := Cond.code yJ7_fill_53178 cJ7_fill_53178 4 none :: ml_T) B.pre w (List.mem_cons_of_mem _ hw), hK, B.notSynchronized, B.returns⟩
  have hl := lv_entry [.ref (base + (p0 : Int).toNat), .int (Int32.ofInt x1)] (n := 4) (Nat.le_of_ble_eq_true rfl)
  rw [lg_entry_eq]
  generalize (lg_sl [.ref (base + (p0 : Int).toNat), .int (Int32.ofInt x1)] ++ List.replicate (4 - (lg_sl [.ref (base + (p0 : Int).toNat), .int (Int32.ofInt x1)]).length) Slot.unset).toArray = ls at hl ⊢
  have hl : lv_has ls 4 [(0, .ref (base + (p0 : Int).toNat)), (1, .int (Int32.ofInt x1))] := hl
  unfold f_J7_fill_53178 at hw
  exact u_J7_fill_53178_0 X hn hp_p0 σ x1 h_x1 _ (lv_sub hl [0, 1] rfl) hw s.heap [] hP va_S.rf hok hro
theorem dX7_keep_0 : decode cX7_keep 0 = .ok (.aload_n 1, 1) := by decide +kernel
theorem dX7_keep_1 : decode cX7_keep 1 = .ok (.getfield 81, 3) := by decide +kernel
theorem dX7_keep_4 : decode cX7_keep 4 = .ok (.iconst 0, 1) := by decide +kernel
theorem dX7_keep_5 : decode cX7_keep 5 = .ok (.aload_n 0, 1) := by decide +kernel
theorem dX7_keep_6 : decode cX7_keep 6 = .ok (.getfield 37, 3) := by decide +kernel
theorem dX7_keep_9 : decode cX7_keep 9 = .ok (.aload_n 0, 1) := by decide +kernel
theorem dX7_keep_10 : decode cX7_keep 10 = .ok (.getfield 18, 3) := by decide +kernel
theorem dX7_keep_13 : decode cX7_keep 13 = .ok (.bipush 10, 2) := by decide +kernel
theorem dX7_keep_15 : decode cX7_keep 15 = .ok (.imul, 1) := by decide +kernel
theorem dX7_keep_16 : decode cX7_keep 16 = .ok (.bipush 10, 2) := by decide +kernel
theorem dX7_keep_18 : decode cX7_keep 18 = .ok (.invokestatic 84, 3) := by decide +kernel
theorem dX7_keep_21 : decode cX7_keep 21 = .ok (.aload_n 0, 1) := by decide +kernel
theorem dX7_keep_22 : decode cX7_keep 22 = .ok (.dup, 1) := by decide +kernel
theorem dX7_keep_23 : decode cX7_keep 23 = .ok (.getfield 18, 3) := by decide +kernel
theorem dX7_keep_26 : decode cX7_keep 26 = .ok (.iconst 1, 1) := by decide +kernel
theorem dX7_keep_27 : decode cX7_keep 27 = .ok (.iadd, 1) := by decide +kernel
theorem dX7_keep_28 : decode cX7_keep 28 = .ok (.putfield 18, 3) := by decide +kernel
theorem dX7_keep_31 : decode cX7_keep 31 = .ok (.return_, 1) := by decide +kernel
def f_X7_keep_u0 (Q : ml_St → Prop) (p1 : Int) (σ : ml_St) : Prop :=
∀ _ : I32 (σ 55 2),
I32 ((σ 55 2) * 10) ∧
(0 : Int) ≤ 0 ∧ (0 : Int) ≤ ((σ 55 2) * 10) ∧ (0 : Int) ≤ 10 ∧ (0 + 10 : Int) ≤ 10 ∧ (((σ 55 2) * 10) + 10 : Int) ≤ 9460 ∧
∀ σ3, σ3 = ml_cpy σ (p1 + 1) 0 61 ((σ 55 2) * 10) 10 →
∀ _ : I32 (σ3 55 2),
I32 ((σ3 55 2) + 1) ∧
∀ σ6, σ6 = ml_up σ3 55 2 ((σ3 55 2) + 1) →
Q σ6
def f_X7_keep (σ : ml_St) (p1 : Int) (Q : ml_St → Prop) : Prop := f_X7_keep_u0 Q p1 σ
def rm_X7_keep : Room := { frames := 1, cells := 0, slots := 0, locals := 60 }
set_option maxRecDepth 100000 in
set_option maxHeartbeats 4000000 in
theorem u_X7_keep_0 {p : Program} {e : Env} {s : State} {m : MethodId} {args : Array Value} {below : List Frame} {meth : Method} {c : Code} {base : Nat} {D : va_G} {cA : Nat → ClassId} {n : Nat} {l : Launch} {p1 : Int} {Q : ml_St → Prop} (X : ml_X p s m c meth args D cA cX7_keep 2 RX7 none) (hn : 214 ≤ n) (hp_p1 : ml_at n p1 (19, 8)) (σ : ml_St) (ls : Array Slot) (hl : lv_has ls 2 [(0, .ref (base + (55 : Int).toNat)), (1, .ref (base + (p1 : Int).toNat))]) (hw : f_X7_keep_u0 Q p1 σ) : ml_V p l e rm_X7_keep s m args below meth c (MQ below (ml_Qv base D cA n Q) args s 0 0 (ml_A base)) base D cA 0 0 n n σ (F0 m 0 ls []) := by
  unfold f_X7_keep_u0 at hw
  refine ml_aload_n (pc := 0) X hl 1 rfl rfl dX7_keep_0 ?_
  refine gf_X7_81 (pc := 1) X hp_p1 dX7_keep_1 ?_
  refine ml_iconst (pc := 4) X dX7_keep_4 ?_
  refine ml_aload_n (pc := 5) X hl 0 rfl rfl dX7_keep_5 ?_
  refine gf_X7_37 (pc := 6) X (ml_c55 hn) dX7_keep_6 ?_
  refine ml_aload_n (pc := 9) X hl 0 rfl rfl dX7_keep_9 ?_
  refine gf_X7_18 (pc := 10) X (ml_c55 hn) dX7_keep_10 (fun r1 => ?_)
  have hw := hw r1
  refine ml_bipush (pc := 13) X dX7_keep_13 (by decide) ?_
  obtain ⟨v2, hw⟩ := hw
  refine ml_imul (pc := 15) X dX7_keep_15 ?_
  refine ml_bipush (pc := 16) X dX7_keep_16 (by decide) ?_
  obtain ⟨a3, b3, c3, f3, h3, hw⟩ := hw
  refine ml_cpi (pc := 18) (n0 := 10) (n1 := 9460) X ⟨tw_4_40, tw_3_43, tw_3_42, tw_1_15⟩ (ml_r19_1 hn hp_p1) (ml_c61 hn) ⟨by decide, by decide⟩ v2 ⟨by decide, by decide⟩ a3 b3 c3 f3 h3 hl (Nat.le_of_ble_eq_true rfl) ⟨by decide, by decide⟩ dX7_keep_18 (fun σ3 g3 => ?_)
  have hw := hw σ3 g3
  refine ml_aload_n (pc := 21) X hl 0 rfl rfl dX7_keep_21 ?_
  refine ml_dup (pc := 22) X dX7_keep_22 rfl ?_
  refine gf_X7_18 (pc := 23) X (ml_c55 hn) dX7_keep_23 (fun r4 => ?_)
  have hw := hw r4
  refine ml_iconst (pc := 26) X dX7_keep_26 ?_
  obtain ⟨v5, hw⟩ := hw
  refine ml_iadd (pc := 27) X dX7_keep_27 ?_
  refine pf_X7_18 (pc := 28) X (ml_c55 hn) v5 dX7_keep_28 (fun σ6 g6 => ?_)
  have hw := hw σ6 g6
  exact ml_vret (pc := 31) X hw dX7_keep_31
set_option maxRecDepth 100000 in
theorem c_X7_keep (l : Launch) (base : Nat) (D : va_G) (cA : Nat → ClassId) (n : Nat) (hn : 214 ≤ n) (σ : ml_St) (p1 : Int) (hp_p1 : ml_at n p1 (19, 8)) (Q : ml_St → Prop) (hw : f_X7_keep σ p1 Q) : Met l yX7_keep (Cond.code yX7_keep cX7_keep 2 none :: ml_T) rm_X7_keep (va_Pc [.ref (base + (55 : Int).toNat), .ref (base + (p1 : Int).toNat)] (ml_U base D cA n σ)) (ml_Qv base D cA n Q) 0 0 (ml_A base) := by
  refine Met.ofW (cc := cX7_keep) (maxL := 2) (ret := none) (by decide) rfl ?_
  intro p e s m args below meth c s₁ B hml hv
  obtain ⟨rfl, hP, hK, hok, hro⟩ := hv
  have X : ml_X p s m c meth _ D cA cX7_keep 2 RX7 none := ⟨B.exec, B.bytes, hml, findClass_of_methodNamed B.named, fun w hw => atoms_spec (ws := Cond.code yX7_keep cX7_keep 2 none :: ml_T) B.pre w (List.mem_cons_of_mem _ hw), hK, B.notSynchronized, B.returns⟩
  have hl := lv_entry [.ref (base + (55 : Int).toNat), .ref (base + (p1 : Int).toNat)] (n := 2) (Nat.le_of_ble_eq_true rfl)
  rw [lg_entry_eq]
  generalize (lg_sl [.ref (base + (55 : Int).toNat), .ref (base + (p1 : Int).toNat)] ++ List.replicate (2 - (lg_sl [.ref (base + (55 : Int).toNat), .ref (base + (p1 : Int).toNat)]).length) Slot.unset).toArray = ls at hl ⊢
  have hl : lv_has ls 2 [(0, .ref (base + (55 : Int).toNat)), (1, .ref (base + (p1 : Int).toNat))] := hl
  unfold f_X7_keep at hw
  exact u_X7_keep_0 X hn hp_p1 σ  _ (lv_sub hl [0, 1] rfl) hw s.heap [] hP va_S.rf hok hro
theorem dX7_leadOn_0 : decode cX7_leadOn 0 = .ok (.iconst 0, 1) := by decide +kernel
theorem dX7_leadOn_1 : decode cX7_leadOn 1 = .ok (.istore 4, 2) := by decide +kernel
theorem dX7_leadOn_3 : decode cX7_leadOn 3 = .ok (.iload 4, 2) := by decide +kernel
theorem dX7_leadOn_5 : decode cX7_leadOn 5 = .ok (.aload_n 0, 1) := by decide +kernel
theorem dX7_leadOn_6 : decode cX7_leadOn 6 = .ok (.getfield 15, 3) := by decide +kernel
theorem dX7_leadOn_9 : decode cX7_leadOn 9 = .ok (.if_icmp .ge 139, 3) := by decide +kernel
theorem dX7_leadOn_12 : decode cX7_leadOn 12 = .ok (.aload_n 0, 1) := by decide +kernel
theorem dX7_leadOn_13 : decode cX7_leadOn 13 = .ok (.getfield 37, 3) := by decide +kernel
theorem dX7_leadOn_16 : decode cX7_leadOn 16 = .ok (.iload_n 1, 1) := by decide +kernel
theorem dX7_leadOn_17 : decode cX7_leadOn 17 = .ok (.bipush 10, 2) := by decide +kernel
theorem dX7_leadOn_19 : decode cX7_leadOn 19 = .ok (.imul, 1) := by decide +kernel
theorem dX7_leadOn_20 : decode cX7_leadOn 20 = .ok (.aload_n 0, 1) := by decide +kernel
theorem dX7_leadOn_21 : decode cX7_leadOn 21 = .ok (.getfield 53, 3) := by decide +kernel
theorem dX7_leadOn_24 : decode cX7_leadOn 24 = .ok (.getfield 81, 3) := by decide +kernel
theorem dX7_leadOn_27 : decode cX7_leadOn 27 = .ok (.iconst 0, 1) := by decide +kernel
theorem dX7_leadOn_28 : decode cX7_leadOn 28 = .ok (.bipush 10, 2) := by decide +kernel
theorem dX7_leadOn_30 : decode cX7_leadOn 30 = .ok (.invokestatic 84, 3) := by decide +kernel
theorem dX7_leadOn_33 : decode cX7_leadOn 33 = .ok (.aload_n 0, 1) := by decide +kernel
theorem dX7_leadOn_34 : decode cX7_leadOn 34 = .ok (.getfield 57, 3) := by decide +kernel
theorem dX7_leadOn_37 : decode cX7_leadOn 37 = .ok (.aload_n 0, 1) := by decide +kernel
theorem dX7_leadOn_38 : decode cX7_leadOn 38 = .ok (.getfield 53, 3) := by decide +kernel
theorem dX7_leadOn_41 : decode cX7_leadOn 41 = .ok (.aload_n 2, 1) := by decide +kernel
theorem dX7_leadOn_42 : decode cX7_leadOn 42 = .ok (.aload_n 0, 1) := by decide +kernel
theorem dX7_leadOn_43 : decode cX7_leadOn 43 = .ok (.getfield 21, 3) := by decide +kernel
theorem dX7_leadOn_46 : decode cX7_leadOn 46 = .ok (.iload 4, 2) := by decide +kernel
theorem dX7_leadOn_48 : decode cX7_leadOn 48 = .ok (.iaload, 1) := by decide +kernel
theorem dX7_leadOn_49 : decode cX7_leadOn 49 = .ok (.aaload, 1) := by decide +kernel
theorem dX7_leadOn_50 : decode cX7_leadOn 50 = .ok (.getfield 90, 3) := by decide +kernel
theorem dX7_leadOn_53 : decode cX7_leadOn 53 = .ok (.iload_n 3, 1) := by decide +kernel
theorem dX7_leadOn_54 : decode cX7_leadOn 54 = .ok (.invokevirtual 95, 3) := by decide +kernel
theorem dX7_leadOn_57 : decode cX7_leadOn 57 = .ok (.aload_n 0, 1) := by decide +kernel
theorem dX7_leadOn_58 : decode cX7_leadOn 58 = .ok (.getfield 57, 3) := by decide +kernel
theorem dX7_leadOn_61 : decode cX7_leadOn 61 = .ok (.iload_n 3, 1) := by decide +kernel
theorem dX7_leadOn_62 : decode cX7_leadOn 62 = .ok (.invokevirtual 99, 3) := by decide +kernel
theorem dX7_leadOn_65 : decode cX7_leadOn 65 = .ok (.istore 5, 2) := by decide +kernel
theorem dX7_leadOn_67 : decode cX7_leadOn 67 = .ok (.aload_n 0, 1) := by decide +kernel
theorem dX7_leadOn_68 : decode cX7_leadOn 68 = .ok (.getfield 25, 3) := by decide +kernel
theorem dX7_leadOn_71 : decode cX7_leadOn 71 = .ok (.iload 5, 2) := by decide +kernel
theorem dX7_leadOn_73 : decode cX7_leadOn 73 = .ok (.iaload, 1) := by decide +kernel
theorem dX7_leadOn_74 : decode cX7_leadOn 74 = .ok (.iconst (-1), 1) := by decide +kernel
theorem dX7_leadOn_75 : decode cX7_leadOn 75 = .ok (.if_icmp .ne 22, 3) := by decide +kernel
theorem dX7_leadOn_78 : decode cX7_leadOn 78 = .ok (.aload_n 0, 1) := by decide +kernel
theorem dX7_leadOn_79 : decode cX7_leadOn 79 = .ok (.getfield 25, 3) := by decide +kernel
theorem dX7_leadOn_82 : decode cX7_leadOn 82 = .ok (.iload 5, 2) := by decide +kernel
theorem dX7_leadOn_84 : decode cX7_leadOn 84 = .ok (.aload_n 0, 1) := by decide +kernel
theorem dX7_leadOn_85 : decode cX7_leadOn 85 = .ok (.getfield 18, 3) := by decide +kernel
theorem dX7_leadOn_88 : decode cX7_leadOn 88 = .ok (.iastore, 1) := by decide +kernel
theorem dX7_leadOn_89 : decode cX7_leadOn 89 = .ok (.aload_n 0, 1) := by decide +kernel
theorem dX7_leadOn_90 : decode cX7_leadOn 90 = .ok (.aload_n 0, 1) := by decide +kernel
theorem dX7_leadOn_91 : decode cX7_leadOn 91 = .ok (.getfield 57, 3) := by decide +kernel
theorem dX7_leadOn_94 : decode cX7_leadOn 94 = .ok (.invokevirtual 70, 3) := by decide +kernel
theorem dX7_leadOn_97 : decode cX7_leadOn 97 = .ok (.aload_n 0, 1) := by decide +kernel
theorem dX7_leadOn_98 : decode cX7_leadOn 98 = .ok (.getfield 28, 3) := by decide +kernel
theorem dX7_leadOn_101 : decode cX7_leadOn 101 = .ok (.iload_n 1, 1) := by decide +kernel
theorem dX7_leadOn_102 : decode cX7_leadOn 102 = .ok (.bipush 6, 2) := by decide +kernel
theorem dX7_leadOn_104 : decode cX7_leadOn 104 = .ok (.imul, 1) := by decide +kernel
theorem dX7_leadOn_105 : decode cX7_leadOn 105 = .ok (.iload 4, 2) := by decide +kernel
theorem dX7_leadOn_107 : decode cX7_leadOn 107 = .ok (.iadd, 1) := by decide +kernel
theorem dX7_leadOn_108 : decode cX7_leadOn 108 = .ok (.aload_n 0, 1) := by decide +kernel
theorem dX7_leadOn_109 : decode cX7_leadOn 109 = .ok (.getfield 25, 3) := by decide +kernel
theorem dX7_leadOn_112 : decode cX7_leadOn 112 = .ok (.iload 5, 2) := by decide +kernel
theorem dX7_leadOn_114 : decode cX7_leadOn 114 = .ok (.iaload, 1) := by decide +kernel
theorem dX7_leadOn_115 : decode cX7_leadOn 115 = .ok (.iastore, 1) := by decide +kernel
theorem dX7_leadOn_116 : decode cX7_leadOn 116 = .ok (.aload_n 0, 1) := by decide +kernel
theorem dX7_leadOn_117 : decode cX7_leadOn 117 = .ok (.getfield 31, 3) := by decide +kernel
theorem dX7_leadOn_120 : decode cX7_leadOn 120 = .ok (.iload_n 1, 1) := by decide +kernel
theorem dX7_leadOn_121 : decode cX7_leadOn 121 = .ok (.bipush 6, 2) := by decide +kernel
theorem dX7_leadOn_123 : decode cX7_leadOn 123 = .ok (.imul, 1) := by decide +kernel
theorem dX7_leadOn_124 : decode cX7_leadOn 124 = .ok (.iload 4, 2) := by decide +kernel
theorem dX7_leadOn_126 : decode cX7_leadOn 126 = .ok (.iadd, 1) := by decide +kernel
theorem dX7_leadOn_127 : decode cX7_leadOn 127 = .ok (.aload_n 0, 1) := by decide +kernel
theorem dX7_leadOn_128 : decode cX7_leadOn 128 = .ok (.getfield 57, 3) := by decide +kernel
theorem dX7_leadOn_131 : decode cX7_leadOn 131 = .ok (.getfield 103, 3) := by decide +kernel
theorem dX7_leadOn_134 : decode cX7_leadOn 134 = .ok (.ldc2_w 107, 3) := by decide +kernel
theorem dX7_leadOn_137 : decode cX7_leadOn 137 = .ok (.invokestatic 109, 3) := by decide +kernel
theorem dX7_leadOn_140 : decode cX7_leadOn 140 = .ok (.l2i, 1) := by decide +kernel
theorem dX7_leadOn_141 : decode cX7_leadOn 141 = .ok (.iastore, 1) := by decide +kernel
theorem dX7_leadOn_142 : decode cX7_leadOn 142 = .ok (.iinc 4 1, 3) := by decide +kernel
theorem dX7_leadOn_145 : decode cX7_leadOn 145 = .ok (.goto (-142), 3) := by decide +kernel
theorem dX7_leadOn_148 : decode cX7_leadOn 148 = .ok (.return_, 1) := by decide +kernel
def f_X7_leadOn_u97 (Q : ml_St → Prop) (K3 : ml_St → Int → Int → Int → Prop) (σ : ml_St) (x1 : Int) (x3 : Int) (x4 : Int) (x5 : Int) : Prop :=
I32 (x1 * 6) ∧
I32 ((x1 * 6) + x4) ∧
(0 : Int) ≤ x5 ∧ (x5 : Int) < 945 ∧
∀ _ : I32 (σ 57 x5),
(0 : Int) ≤ ((x1 * 6) + x4) ∧ (((x1 * 6) + x4) : Int) < 5676 ∧
∀ σ4, σ4 = ml_up σ 58 ((x1 * 6) + x4) (σ 57 x5) →
I32 (x1 * 6) ∧
I32 ((x1 * 6) + x4) ∧
∀ _ : I64 (σ4 67 2),
(0 : Int) ≤ ((x1 * 6) + x4) ∧ (((x1 * 6) + x4) : Int) < 5676 ∧
∀ σ8, σ8 = ml_up σ4 59 ((x1 * 6) + x4) (b_l2i (min (σ4 67 2) 3)) →
I32 (x4 + 1) ∧
∀ y9 : Int, y9 = x4 + 1 →
K3 σ8 x1 x3 y9
def f_X7_leadOn_u3 (Q : ml_St → Prop) (K148 : ml_St → Prop) : Nat → ml_St → Int → Int → Int → Prop
| 0, _, _, _, _ => False
| N + 1, σ, x1, x3, x4 =>
∀ _ : I32 (σ 55 1),
((σ 55 1) ≤ x4 →
K148 σ) ∧
(¬ ((σ 55 1) ≤ x4) →
I32 (x1 * 10) ∧
(0 : Int) ≤ (x1 * 10) ∧ (0 : Int) ≤ 0 ∧ (0 : Int) ≤ 10 ∧ ((x1 * 10) + 10 : Int) ≤ 9460 ∧ (0 + 10 : Int) ≤ 10 ∧
∀ σ4, σ4 = ml_cpy σ 61 (x1 * 10) 65 0 10 →
(0 : Int) ≤ x4 ∧ (x4 : Int) < 6 ∧
∀ _ : I32 (σ4 56 x4),
(0 : Int) ≤ (σ4 56 x4) ∧ ((σ4 56 x4) : Int) < 16 ∧
f_X9_beBoth σ4 67 64 ((119 + 6 * (σ4 56 x4)) + 2) x3 (fun σ7 =>
f_X9_number σ7 67 x3 (fun r8 σ8 => ∀ _ : I32 r8,
(0 : Int) ≤ r8 ∧ (r8 : Int) < 945 ∧
∀ _ : I32 (σ8 57 r8),
(((σ8 57 r8) : Int) ≠ (-1) →
f_X7_leadOn_u97 Q (f_X7_leadOn_u3 Q K148 N) σ8 x1 x3 x4 r8) ∧
((σ8 57 r8) = (-1) →
∀ _ : I32 (σ8 55 2),
(0 : Int) ≤ r8 ∧ (r8 : Int) < 945 ∧
∀ σ12, σ12 = ml_up σ8 57 r8 (σ8 55 2) →
f_X7_keep σ12 67 (fun σ13 =>
f_X7_leadOn_u97 Q (f_X7_leadOn_u3 Q K148 N) σ13 x1 x3 x4 r8)))))
def f_X7_leadOn_u148 (Q : ml_St → Prop) (σ : ml_St) : Prop :=
Q σ
def f_X7_leadOn_u0 (Q : ml_St → Prop) (σ : ml_St) (x1 : Int) (x3 : Int) : Prop :=
∃ N1, f_X7_leadOn_u3 Q (f_X7_leadOn_u148 Q) N1 σ x1 x3 0
def f_X7_leadOn (σ : ml_St) (x1 : Int) (x3 : Int) (Q : ml_St → Prop) : Prop := f_X7_leadOn_u0 Q σ x1 x3
def rm_X7_leadOn : Room := { frames := 3, cells := 0, slots := 0, locals := 115 }
set_option maxRecDepth 100000 in
set_option maxHeartbeats 4000000 in
theorem u_X7_leadOn_97 {p : Program} {e : Env} {s : State} {m : MethodId} {args : Array Value} {below : List Frame} {meth : Method} {c : Code} {base : Nat} {D : va_G} {cA : Nat → ClassId} {n : Nat} {l : Launch} {Q : ml_St → Prop} {K3 : ml_St → Int → Int → Int → Prop} (X : ml_X p s m c meth args D cA cX7_leadOn 6 RX7 none) (hn : 214 ≤ n) (hK3 : ∀ (σ : ml_St) (x1 : Int) (x3 : Int) (x4 : Int) (h_x1 : I32 x1) (h_x3 : I32 x3) (h_x4 : I32 x4) (ls : Array Slot), lv_has ls 6 [(0, .ref (base + (55 : Int).toNat)), (1, .int (Int32.ofInt x1)), (2, .ref (base + (114 : Int).toNat)), (3, .int (Int32.ofInt x3)), (4, .int (Int32.ofInt x4))] → K3 σ x1 x3 x4 → ml_V p l e rm_X7_leadOn s m args below meth c (MQ below (ml_Qv base D cA n Q) args s 0 0 (ml_A base)) base D cA 0 0 n n σ (F0 m 3 ls [])) (σ : ml_St) (x1 : Int) (x3 : Int) (x4 : Int) (x5 : Int) (h_x1 : I32 x1) (h_x3 : I32 x3) (h_x4 : I32 x4) (h_x5 : I32 x5) (ls : Array Slot) (hl : lv_has ls 6 [(0, .ref (base + (55 : Int).toNat)), (1, .int (Int32.ofInt x1)), (2, .ref (base + (114 : Int).toNat)), (3, .int (Int32.ofInt x3)), (4, .int (Int32.ofInt x4)), (5, .int (Int32.ofInt x5))]) (hw : f_X7_leadOn_u97 Q K3 σ x1 x3 x4 x5) : ml_V p l e rm_X7_leadOn s m args below meth c (MQ below (ml_Qv base D cA n Q) args s 0 0 (ml_A base)) base D cA 0 0 n n σ (F0 m 97 ls []) := by
  unfold f_X7_leadOn_u97 at hw
  refine ml_aload_n (pc := 97) X hl 0 rfl rfl dX7_leadOn_97 ?_
  refine gf_X7_28 (pc := 98) X (ml_c55 hn) dX7_leadOn_98 ?_
  refine ml_iload_n (pc := 101) X hl 1 rfl rfl dX7_leadOn_101 ?_
  refine ml_bipush (pc := 102) X dX7_leadOn_102 (by decide) ?_
  obtain ⟨v1, hw⟩ := hw
  refine ml_imul (pc := 104) X dX7_leadOn_104 ?_
  refine ml_iload (pc := 105) X hl 4 rfl dX7_leadOn_105 ?_
  obtain ⟨v2, hw⟩ := hw
  refine ml_iadd (pc := 107) X dX7_leadOn_107 ?_
  refine ml_aload_n (pc := 108) X hl 0 rfl rfl dX7_leadOn_108 ?_
  refine gf_X7_25 (pc := 109) X (ml_c55 hn) dX7_leadOn_109 ?_
  refine ml_iload (pc := 112) X hl 5 rfl dX7_leadOn_112 ?_
  obtain ⟨a3, b3, hw⟩ := hw
  refine ml_iald (pc := 114) (N := 945) X (ml_c57 hn) a3 b3 dX7_leadOn_114 (fun r3 => ?_)
  have hw := hw r3
  obtain ⟨a4, b4, hw⟩ := hw
  refine ml_iast (pc := 115) (N := 5676) X (ml_c58 hn) a4 b4 r3 dX7_leadOn_115 (fun σ4 g4 => ?_)
  have hw := hw σ4 g4
  refine ml_aload_n (pc := 116) X hl 0 rfl rfl dX7_leadOn_116 ?_
  refine gf_X7_31 (pc := 117) X (ml_c55 hn) dX7_leadOn_117 ?_
  refine ml_iload_n (pc := 120) X hl 1 rfl rfl dX7_leadOn_120 ?_
  refine ml_bipush (pc := 121) X dX7_leadOn_121 (by decide) ?_
  obtain ⟨v5, hw⟩ := hw
  refine ml_imul (pc := 123) X dX7_leadOn_123 ?_
  refine ml_iload (pc := 124) X hl 4 rfl dX7_leadOn_124 ?_
  obtain ⟨v6, hw⟩ := hw
  refine ml_iadd (pc := 126) X dX7_leadOn_126 ?_
  refine ml_aload_n (pc := 127) X hl 0 rfl rfl dX7_leadOn_127 ?_
  refine gf_X7_57 (pc := 128) X (ml_c55 hn) dX7_leadOn_128 ?_
  refine gf_X7_103 (pc := 131) X (ml_c67 hn) dX7_leadOn_131 (fun r7 => ?_)
  have hw := hw r7
  refine ml_ldc2 (pc := 134) (v := 3) X dX7_leadOn_134 tc_4_47 ?_
  refine ml_mminL (pc := 137) X ⟨tw_4_48, tw_3_69, tw_1_14, tw_3_70⟩ r7 ⟨by decide, by decide⟩ ⟨Nat.zero_le _, Nat.zero_le _⟩ hl (Nat.le_of_ble_eq_true rfl) ⟨by decide, by decide⟩ dX7_leadOn_137 ?_
  refine ml_l2i (pc := 140) X dX7_leadOn_140 ?_
  obtain ⟨a8, b8, hw⟩ := hw
  refine ml_iast (pc := 141) (N := 5676) X (ml_c59 hn) a8 b8 (b_l2i_r _) dX7_leadOn_141 (fun σ8 g8 => ?_)
  have hw := hw σ8 g8
  obtain ⟨v9, hw⟩ := hw
  obtain ⟨y9, e9⟩ : ∃ y : Int, y = x4 + 1 := ⟨_, rfl⟩
  have hw := hw y9 e9
  rw [← e9] at v9
  refine ml_iinc (pc := 142) X e9 hl 4 rfl (by decide) (lst' := [(4, .int (Int32.ofInt y9)), (0, .ref (base + (55 : Int).toNat)), (1, .int (Int32.ofInt x1)), (2, .ref (base + (114 : Int).toNat)), (3, .int (Int32.ofInt x3)), (5, .int (Int32.ofInt x5))]) rfl dX7_leadOn_142 (fun ls hl => ?_)
  refine ml_goto (pc := 145) (tgt := 3) X dX7_leadOn_145 (by decide) ?_
  exact hK3 σ8 x1 x3 y9 h_x1 h_x3 v9 _ (lv_sub hl [1, 2, 3, 4, 0] rfl) hw
set_option maxRecDepth 100000 in
set_option maxHeartbeats 4000000 in
theorem u_X7_leadOn_3 {p : Program} {e : Env} {s : State} {m : MethodId} {args : Array Value} {below : List Frame} {meth : Method} {c : Code} {base : Nat} {D : va_G} {cA : Nat → ClassId} {n : Nat} {l : Launch} {Q : ml_St → Prop} {K148 : ml_St → Prop} (X : ml_X p s m c meth args D cA cX7_leadOn 6 RX7 none) (hn : 214 ≤ n) (hK148 : ∀ (σ : ml_St) (ls : Array Slot), lv_has ls 6 [] → K148 σ → ml_V p l e rm_X7_leadOn s m args below meth c (MQ below (ml_Qv base D cA n Q) args s 0 0 (ml_A base)) base D cA 0 0 n n σ (F0 m 148 ls [])) : ∀ (N : Nat) (σ : ml_St) (x1 : Int) (x3 : Int) (x4 : Int) (h_x1 : I32 x1) (h_x3 : I32 x3) (h_x4 : I32 x4) (ls : Array Slot), lv_has ls 6 [(0, .ref (base + (55 : Int).toNat)), (1, .int (Int32.ofInt x1)), (2, .ref (base + (114 : Int).toNat)), (3, .int (Int32.ofInt x3)), (4, .int (Int32.ofInt x4))] → f_X7_leadOn_u3 Q K148 N σ x1 x3 x4 → ml_V p l e rm_X7_leadOn s m args below meth c (MQ below (ml_Qv base D cA n Q) args s 0 0 (ml_A base)) base D cA 0 0 n n σ (F0 m 3 ls []) := by
  intro N
  induction N with
  | zero => intro σ x1 x3 x4 h_x1 h_x3 h_x4 ls hl hw; exact False.elim hw
  | succ N ih =>
    intro σ x1 x3 x4 h_x1 h_x3 h_x4 ls hl hw
    unfold f_X7_leadOn_u3 at hw
    refine ml_iload (pc := 3) X hl 4 rfl dX7_leadOn_3 ?_
    refine ml_aload_n (pc := 5) X hl 0 rfl rfl dX7_leadOn_5 ?_
    refine gf_X7_15 (pc := 6) X (ml_c55 hn) dX7_leadOn_6 (fun r1 => ?_)
    have hw := hw r1
    refine ml_icmp_ge (pc := 9) (tgt := 148) X h_x4 r1 dX7_leadOn_9 (by decide) (fun c2 => ?_) (fun c2 => ?_)
    · have hw := hw.1 c2
      exact hK148 σ   _ (lv_sub hl [] rfl) hw
    · have hw := hw.2 c2
      refine ml_aload_n (pc := 12) X hl 0 rfl rfl dX7_leadOn_12 ?_
      refine gf_X7_37 (pc := 13) X (ml_c55 hn) dX7_leadOn_13 ?_
      refine ml_iload_n (pc := 16) X hl 1 rfl rfl dX7_leadOn_16 ?_
      refine ml_bipush (pc := 17) X dX7_leadOn_17 (by decide) ?_
      obtain ⟨v3, hw⟩ := hw
      refine ml_imul (pc := 19) X dX7_leadOn_19 ?_
      refine ml_aload_n (pc := 20) X hl 0 rfl rfl dX7_leadOn_20 ?_
      refine gf_X7_53 (pc := 21) X (ml_c55 hn) dX7_leadOn_21 ?_
      refine gf_X7_81 (pc := 24) X (ml_c64 hn) dX7_leadOn_24 ?_
      refine ml_iconst (pc := 27) X dX7_leadOn_27 ?_
      refine ml_bipush (pc := 28) X dX7_leadOn_28 (by decide) ?_
      obtain ⟨a4, b4, c4, f4, h4, hw⟩ := hw
      refine ml_cpi (pc := 30) (n0 := 9460) (n1 := 10) X ⟨tw_4_40, tw_3_43, tw_3_42, tw_1_15⟩ (ml_c61 hn) (ml_r19_1 hn (ml_c64 hn)) v3 ⟨by decide, by decide⟩ ⟨by decide, by decide⟩ a4 b4 c4 f4 h4 hl (Nat.le_of_ble_eq_true rfl) ⟨by decide, by decide⟩ dX7_leadOn_30 (fun σ4 g4 => ?_)
      have hw := hw σ4 g4
      refine ml_aload_n (pc := 33) X hl 0 rfl rfl dX7_leadOn_33 ?_
      refine gf_X7_57 (pc := 34) X (ml_c55 hn) dX7_leadOn_34 ?_
      refine ml_aload_n (pc := 37) X hl 0 rfl rfl dX7_leadOn_37 ?_
      refine gf_X7_53 (pc := 38) X (ml_c55 hn) dX7_leadOn_38 ?_
      refine ml_aload_n (pc := 41) X hl 2 rfl rfl dX7_leadOn_41 ?_
      refine ml_aload_n (pc := 42) X hl 0 rfl rfl dX7_leadOn_42 ?_
      refine gf_X7_21 (pc := 43) X (ml_c55 hn) dX7_leadOn_43 ?_
      refine ml_iload (pc := 46) X hl 4 rfl dX7_leadOn_46 ?_
      obtain ⟨a5, b5, hw⟩ := hw
      refine ml_iald (pc := 48) (N := 6) X (ml_c56 hn) a5 b5 dX7_leadOn_48 (fun r5 => ?_)
      have hw := hw r5
      obtain ⟨a6, b6, hw⟩ := hw
      refine ml_aald_words (pc := 49) X hn a6 b6 dX7_leadOn_49 ?_
      refine gf_X7_90 (pc := 50) X (ml_at_words hn a6 b6) dX7_leadOn_50 ?_
      refine ml_iload_n (pc := 53) X hl 3 rfl rfl dX7_leadOn_53 ?_
      refine ml_callvV (pc := 54) (rest := []) X [.ref (base + (64 : Int).toNat), .ref (base + (((119 + 6 * (σ4 56 x4)) + 2) : Int).toNat), .int (Int32.ofInt x3)] (by decide) rfl (ml_c67 hn) (c_X9_beBoth l base D cA n hn σ4 67 64 ((119 + 6 * (σ4 56 x4)) + 2) (ml_c67 hn) (ml_c64 hn) (ml_r20_2 hn (ml_at_words hn a6 b6)) x3 h_x3 _ hw) cv_X7_95 ⟨rfl, rfl⟩ ⟨by decide, by decide⟩ rfl rfl hl (Nat.le_of_ble_eq_true rfl) ⟨Nat.zero_le _, Nat.zero_le _⟩ dX7_leadOn_54 (fun σ7 hw => ?_)
      refine ml_aload_n (pc := 57) X hl 0 rfl rfl dX7_leadOn_57 ?_
      refine gf_X7_57 (pc := 58) X (ml_c55 hn) dX7_leadOn_58 ?_
      refine ml_iload_n (pc := 61) X hl 3 rfl rfl dX7_leadOn_61 ?_
      refine ml_calliV (pc := 62) (rest := []) X [.int (Int32.ofInt x3)] (by decide) rfl (ml_c67 hn) (c_X9_number l base D cA n hn σ7 67 (ml_c67 hn) x3 h_x3 _ hw) cv_X7_99 ⟨rfl, rfl⟩ ⟨by decide, by decide⟩ rfl rfl hl (Nat.le_of_ble_eq_true rfl) ⟨Nat.zero_le _, Nat.zero_le _⟩ dX7_leadOn_62 (fun r8 σ8 t8 hw => ?_)
      have hw := hw t8
      refine ml_istore (pc := 65) X hl (by decide) (lst' := [(5, .int (Int32.ofInt r8)), (0, .ref (base + (55 : Int).toNat)), (1, .int (Int32.ofInt x1)), (2, .ref (base + (114 : Int).toNat)), (3, .int (Int32.ofInt x3)), (4, .int (Int32.ofInt x4))]) rfl dX7_leadOn_65 (fun ls hl => ?_)
      refine ml_aload_n (pc := 67) X hl 1 rfl rfl dX7_leadOn_67 ?_
      refine gf_X7_25 (pc := 68) X (ml_c55 hn) dX7_leadOn_68 ?_
      refine ml_iload (pc := 71) X hl 0 rfl dX7_leadOn_71 ?_
      obtain ⟨a9, b9, hw⟩ := hw
      refine ml_iald (pc := 73) (N := 945) X (ml_c57 hn) a9 b9 dX7_leadOn_73 (fun r9 => ?_)
      have hw := hw r9
      refine ml_iconst (pc := 74) X dX7_leadOn_74 ?_
      refine ml_icmp_ne (pc := 75) (tgt := 97) X r9 ⟨by decide, by decide⟩ dX7_leadOn_75 (by decide) (fun c10 => ?_) (fun c10 => ?_)
      · have hw := hw.1 c10
        exact u_X7_leadOn_97 X hn ih σ8 x1 x3 x4 r8 h_x1 h_x3 h_x4 t8 _ (lv_sub hl [1, 2, 3, 4, 5, 0] rfl) hw
      · have hw := hw.2 c10
        refine ml_aload_n (pc := 78) X hl 1 rfl rfl dX7_leadOn_78 ?_
        refine gf_X7_25 (pc := 79) X (ml_c55 hn) dX7_leadOn_79 ?_
        refine ml_iload (pc := 82) X hl 0 rfl dX7_leadOn_82 ?_
        refine ml_aload_n (pc := 84) X hl 1 rfl rfl dX7_leadOn_84 ?_
        refine gf_X7_18 (pc := 85) X (ml_c55 hn) dX7_leadOn_85 (fun r11 => ?_)
        have hw := hw r11
        obtain ⟨a12, b12, hw⟩ := hw
        refine ml_iast (pc := 88) (N := 945) X (ml_c57 hn) a12 b12 r11 dX7_leadOn_88 (fun σ12 g12 => ?_)
        have hw := hw σ12 g12
        refine ml_aload_n (pc := 89) X hl 1 rfl rfl dX7_leadOn_89 ?_
        refine ml_aload_n (pc := 90) X hl 1 rfl rfl dX7_leadOn_90 ?_
        refine gf_X7_57 (pc := 91) X (ml_c55 hn) dX7_leadOn_91 ?_
        refine ml_callvV (pc := 94) (rest := []) X [.ref (base + (67 : Int).toNat)] (by decide) rfl (ml_c55 hn) (c_X7_keep l base D cA n hn σ12 67 (ml_c67 hn) _ hw) cv_X7_70 ⟨rfl, rfl⟩ ⟨by decide, by decide⟩ rfl rfl hl (Nat.le_of_ble_eq_true rfl) ⟨Nat.zero_le _, Nat.zero_le _⟩ dX7_leadOn_94 (fun σ13 hw => ?_)
        exact u_X7_leadOn_97 X hn ih σ13 x1 x3 x4 r8 h_x1 h_x3 h_x4 t8 _ (lv_sub hl [1, 2, 3, 4, 5, 0] rfl) hw
set_option maxRecDepth 100000 in
set_option maxHeartbeats 4000000 in
theorem u_X7_leadOn_148 {p : Program} {e : Env} {s : State} {m : MethodId} {args : Array Value} {below : List Frame} {meth : Method} {c : Code} {base : Nat} {D : va_G} {cA : Nat → ClassId} {n : Nat} {l : Launch} {Q : ml_St → Prop} (X : ml_X p s m c meth args D cA cX7_leadOn 6 RX7 none) (hn : 214 ≤ n) (σ : ml_St) (ls : Array Slot) (hl : lv_has ls 6 []) (hw : f_X7_leadOn_u148 Q σ) : ml_V p l e rm_X7_leadOn s m args below meth c (MQ below (ml_Qv base D cA n Q) args s 0 0 (ml_A base)) base D cA 0 0 n n σ (F0 m 148 ls []) := by
  unfold f_X7_leadOn_u148 at hw
  exact ml_vret (pc := 148) X hw dX7_leadOn_148
set_option maxRecDepth 100000 in
set_option maxHeartbeats 4000000 in
theorem u_X7_leadOn_0 {p : Program} {e : Env} {s : State} {m : MethodId} {args : Array Value} {below : List Frame} {meth : Method} {c : Code} {base : Nat} {D : va_G} {cA : Nat → ClassId} {n : Nat} {l : Launch} {Q : ml_St → Prop} (X : ml_X p s m c meth args D cA cX7_leadOn 6 RX7 none) (hn : 214 ≤ n) (σ : ml_St) (x1 : Int) (x3 : Int) (h_x1 : I32 x1) (h_x3 : I32 x3) (ls : Array Slot) (hl : lv_has ls 6 [(0, .ref (base + (55 : Int).toNat)), (1, .int (Int32.ofInt x1)), (2, .ref (base + (114 : Int).toNat)), (3, .int (Int32.ofInt x3))]) (hw : f_X7_leadOn_u0 Q σ x1 x3) : ml_V p l e rm_X7_leadOn s m args below meth c (MQ below (ml_Qv base D cA n Q) args s 0 0 (ml_A base)) base D cA 0 0 n n σ (F0 m 0 ls []) := by
  unfold f_X7_leadOn_u0 at hw
  refine ml_iconst (pc := 0) X dX7_leadOn_0 ?_
  refine ml_istore (pc := 1) X hl (by decide) (lst' := [(4, .int (Int32.ofInt 0)), (0, .ref (base + (55 : Int).toNat)), (1, .int (Int32.ofInt x1)), (2, .ref (base + (114 : Int).toNat)), (3, .int (Int32.ofInt x3))]) rfl dX7_leadOn_1 (fun ls hl => ?_)
  obtain ⟨N0, hw⟩ := hw
  exact u_X7_leadOn_3 X hn (fun σ   ls hl hw => u_X7_leadOn_148 X hn σ   ls hl hw) N0 σ x1 x3 0 h_x1 h_x3 ⟨by decide, by decide⟩ _ (lv_sub hl [1, 2, 3, 4, 0] rfl) hw
set_option maxRecDepth 100000 in
theorem c_X7_leadOn (l : Launch) (base : Nat) (D : va_G) (cA : Nat → ClassId) (n : Nat) (hn : 214 ≤ n) (σ : ml_St) (x1 : Int) (x3 : Int) (h_x1 : I32 x1) (h_x3 : I32 x3) (Q : ml_St → Prop) (hw : f_X7_leadOn σ x1 x3 Q) : Met l yX7_leadOn (Cond.code yX7_leadOn cX7_leadOn 6 none :: ml_T) rm_X7_leadOn (va_Pc [.ref (base + (55 : Int).toNat), .int (Int32.ofInt x1), .ref (base + (114 : Int).toNat), .int (Int32.ofInt x3)] (ml_U base D cA n σ)) (ml_Qv base D cA n Q) 0 0 (ml_A base) := by
  refine Met.ofW (cc := cX7_leadOn) (maxL := 6) (ret := none) (by decide) rfl ?_
  intro p e s m args below meth c s₁ B hml hv
  obtain ⟨rfl, hP, hK, hok, hro⟩ := hv
  have X : ml_X p s m c meth _ D cA cX7_leadOn 6 RX7 none := ⟨B.exec, B.bytes, hml, findClass_of_methodNamed B.named, fun w hw => atoms_spec (ws := Cond.code yX7_leadOn cX7_leadOn 6 none :: ml_T) B.pre w (List.mem_cons_of_mem _ hw), hK, B.notSynchronized, B.returns⟩
  have hl := lv_entry [.ref (base + (55 : Int).toNat), .int (Int32.ofInt x1), .ref (base + (114 : Int).toNat), .int (Int32.ofInt x3)] (n := 6) (Nat.le_of_ble_eq_true rfl)
  rw [lg_entry_eq]
  generalize (lg_sl [.ref (base + (55 : Int).toNat), .int (Int32.ofInt x1), .ref (base + (114 : Int).toNat), .int (Int32.ofInt x3)] ++ List.replicate (6 - (lg_sl [.ref (base + (55 : Int).toNat), .int (Int32.ofInt x1), .ref (base + (114 : Int).toNat), .int (Int32.ofInt x3)]).length) Slot.unset).toArray = ls at hl ⊢
  have hl : lv_has ls 6 [(0, .ref (base + (55 : Int).toNat)), (1, .int (Int32.ofInt x1)), (2, .ref (base + (114 : Int).toNat)), (3, .int (Int32.ofInt x3))] := hl
  unfold f_X7_leadOn at hw
  exact u_X7_leadOn_0 X hn σ x1 x3 h_x1 h_x3 _ (lv_sub hl [0, 1, 2, 3] rfl) hw s.heap [] hP va_S.rf hok hro
theorem dJ7_fill_d0a16_0 : decode cJ7_fill_d0a16 0 = .ok (.iconst 0, 1) := by decide +kernel
theorem dJ7_fill_d0a16_1 : decode cJ7_fill_d0a16 1 = .ok (.istore_n 3, 1) := by decide +kernel
theorem dJ7_fill_d0a16_2 : decode cJ7_fill_d0a16 2 = .ok (.aload_n 0, 1) := by decide +kernel
theorem dJ7_fill_d0a16_3 : decode cJ7_fill_d0a16 3 = .ok (.arraylength, 1) := by decide +kernel
theorem dJ7_fill_d0a16_4 : decode cJ7_fill_d0a16 4 = .ok (.istore 4, 2) := by decide +kernel
theorem dJ7_fill_d0a16_6 : decode cJ7_fill_d0a16 6 = .ok (.iload_n 3, 1) := by decide +kernel
theorem dJ7_fill_d0a16_7 : decode cJ7_fill_d0a16 7 = .ok (.iload 4, 2) := by decide +kernel
theorem dJ7_fill_d0a16_9 : decode cJ7_fill_d0a16 9 = .ok (.if_icmp .ge 13, 3) := by decide +kernel
theorem dJ7_fill_d0a16_12 : decode cJ7_fill_d0a16 12 = .ok (.aload_n 0, 1) := by decide +kernel
theorem dJ7_fill_d0a16_13 : decode cJ7_fill_d0a16 13 = .ok (.iload_n 3, 1) := by decide +kernel
theorem dJ7_fill_d0a16_14 : decode cJ7_fill_d0a16 14 = .ok (.lload_n 1, 1) := by decide +kernel
theorem dJ7_fill_d0a16_15 : decode cJ7_fill_d0a16 15 = .ok (.lastore, 1) := by decide +kernel
theorem dJ7_fill_d0a16_16 : decode cJ7_fill_d0a16 16 = .ok (.iinc 3 1, 3) := by decide +kernel
theorem dJ7_fill_d0a16_19 : decode cJ7_fill_d0a16 19 = .ok (.goto (-13), 3) := by decide +kernel
theorem dJ7_fill_d0a16_22 : decode cJ7_fill_d0a16 22 = .ok (.return_, 1) := by decide +kernel
def f_J7_fill_d0a16_u6 (Q : ml_St → Prop) (K22 : ml_St → Prop) (NL : Nat) (p0 : Int) : Nat → ml_St → Int → Int → Int → Prop
| 0, _, _, _, _ => False
| N + 1, σ, x1, x3, x4 =>
(x4 ≤ x3 →
K22 σ) ∧
(¬ (x4 ≤ x3) →
(0 : Int) ≤ x3 ∧ (x3 : Int) < NL ∧
∀ σ2, σ2 = ml_up σ p0 x3 x1 →
I32 (x3 + 1) ∧
∀ y3 : Int, y3 = x3 + 1 →
f_J7_fill_d0a16_u6 Q K22 NL p0 N σ2 x1 y3 x4)
def f_J7_fill_d0a16_u22 (Q : ml_St → Prop) (NL : Nat) (p0 : Int) (σ : ml_St) : Prop :=
Q σ
def f_J7_fill_d0a16_u0 (Q : ml_St → Prop) (NL : Nat) (p0 : Int) (σ : ml_St) (x1 : Int) : Prop :=
∀ y1 : Int, y1 = (NL : Int) →
∃ N1, f_J7_fill_d0a16_u6 Q (f_J7_fill_d0a16_u22 Q NL p0) NL p0 N1 σ x1 0 y1
def f_J7_fill_d0a16 (σ : ml_St) (NL : Nat) (p0 : Int) (x1 : Int) (Q : ml_St → Prop) : Prop := f_J7_fill_d0a16_u0 Q NL p0 σ x1
def rm_J7_fill_d0a16 : Room := { frames := 0, cells := 0, slots := 0, locals := 0 }
set_option maxRecDepth 100000 in
set_option maxHeartbeats 4000000 in
theorem u_J7_fill_d0a16_6 {p : Program} {e : Env} {s : State} {m : MethodId} {args : Array Value} {below : List Frame} {meth : Method} {c : Code} {base : Nat} {D : va_G} {cA : Nat → ClassId} {n : Nat} {l : Launch} {NL : Nat} {p0 : Int} {Q : ml_St → Prop} {K22 : ml_St → Prop} (X : ml_X p s m c meth args D cA cJ7_fill_d0a16 5 RJ7 none) (hn : 214 ≤ n) (hp_p0 : ml_at n p0 (4, NL)) (hK22 : ∀ (σ : ml_St) (ls : Array Slot), lv_has ls 5 [] → K22 σ → ml_V p l e rm_J7_fill_d0a16 s m args below meth c (MQ below (ml_Qv base D cA n Q) args s 0 0 (ml_A base)) base D cA 0 0 n n σ (F0 m 22 ls [])) : ∀ (N : Nat) (σ : ml_St) (x1 : Int) (x3 : Int) (x4 : Int) (h_x1 : I64 x1) (h_x3 : I32 x3) (h_x4 : I32 x4) (ls : Array Slot), lv_has ls 5 [(0, .ref (base + (p0 : Int).toNat)), (1, .long (Int64.ofInt x1)), (3, .int (Int32.ofInt x3)), (4, .int (Int32.ofInt x4))] → f_J7_fill_d0a16_u6 Q K22 NL p0 N σ x1 x3 x4 → ml_V p l e rm_J7_fill_d0a16 s m args below meth c (MQ below (ml_Qv base D cA n Q) args s 0 0 (ml_A base)) base D cA 0 0 n n σ (F0 m 6 ls []) := by
  intro N
  induction N with
  | zero => intro σ x1 x3 x4 h_x1 h_x3 h_x4 ls hl hw; exact False.elim hw
  | succ N ih =>
    intro σ x1 x3 x4 h_x1 h_x3 h_x4 ls hl hw
    unfold f_J7_fill_d0a16_u6 at hw
    refine ml_iload_n (pc := 6) X hl 2 rfl rfl dJ7_fill_d0a16_6 ?_
    refine ml_iload (pc := 7) X hl 3 rfl dJ7_fill_d0a16_7 ?_
    refine ml_icmp_ge (pc := 9) (tgt := 22) X h_x3 h_x4 dJ7_fill_d0a16_9 (by decide) (fun c1 => ?_) (fun c1 => ?_)
    · have hw := hw.1 c1
      exact hK22 σ   _ (lv_sub hl [] rfl) hw
    · have hw := hw.2 c1
      refine ml_aload_n (pc := 12) X hl 0 rfl rfl dJ7_fill_d0a16_12 ?_
      refine ml_iload_n (pc := 13) X hl 2 rfl rfl dJ7_fill_d0a16_13 ?_
      refine ml_lload_n (pc := 14) X hl 1 rfl rfl dJ7_fill_d0a16_14 ?_
      obtain ⟨a2, b2, hw⟩ := hw
      refine ml_last (pc := 15) (N := NL) X hp_p0 a2 b2 h_x1 dJ7_fill_d0a16_15 (fun σ2 g2 => ?_)
      have hw := hw σ2 g2
      obtain ⟨v3, hw⟩ := hw
      obtain ⟨y3, e3⟩ : ∃ y : Int, y = x3 + 1 := ⟨_, rfl⟩
      have hw := hw y3 e3
      rw [← e3] at v3
      refine ml_iinc (pc := 16) X e3 hl 2 rfl (by decide) (lst' := [(3, .int (Int32.ofInt y3)), (0, .ref (base + (p0 : Int).toNat)), (1, .long (Int64.ofInt x1)), (4, .int (Int32.ofInt x4))]) rfl dJ7_fill_d0a16_16 (fun ls hl => ?_)
      refine ml_goto (pc := 19) (tgt := 6) X dJ7_fill_d0a16_19 (by decide) ?_
      exact ih σ2 x1 y3 x4 h_x1 v3 h_x4 _ (lv_sub hl [1, 2, 0, 3] rfl) hw
set_option maxRecDepth 100000 in
set_option maxHeartbeats 4000000 in
theorem u_J7_fill_d0a16_22 {p : Program} {e : Env} {s : State} {m : MethodId} {args : Array Value} {below : List Frame} {meth : Method} {c : Code} {base : Nat} {D : va_G} {cA : Nat → ClassId} {n : Nat} {l : Launch} {NL : Nat} {p0 : Int} {Q : ml_St → Prop} (X : ml_X p s m c meth args D cA cJ7_fill_d0a16 5 RJ7 none) (hn : 214 ≤ n) (hp_p0 : ml_at n p0 (4, NL)) (σ : ml_St) (ls : Array Slot) (hl : lv_has ls 5 []) (hw : f_J7_fill_d0a16_u22 Q NL p0 σ) : ml_V p l e rm_J7_fill_d0a16 s m args below meth c (MQ below (ml_Qv base D cA n Q) args s 0 0 (ml_A base)) base D cA 0 0 n n σ (F0 m 22 ls []) := by
  unfold f_J7_fill_d0a16_u22 at hw
  exact ml_vret (pc := 22) X hw dJ7_fill_d0a16_22
set_option maxRecDepth 100000 in
set_option maxHeartbeats 4000000 in
theorem u_J7_fill_d0a16_0 {p : Program} {e : Env} {s : State} {m : MethodId} {args : Array Value} {below : List Frame} {meth : Method} {c : Code} {base : Nat} {D : va_G} {cA : Nat → ClassId} {n : Nat} {l : Launch} {NL : Nat} {p0 : Int} {Q : ml_St → Prop} (X : ml_X p s m c meth args D cA cJ7_fill_d0a16 5 RJ7 none) (hn : 214 ≤ n) (hp_p0 : ml_at n p0 (4, NL)) (σ : ml_St) (x1 : Int) (h_x1 : I64 x1) (ls : Array Slot) (hl : lv_has ls 5 [(0, .ref (base + (p0 : Int).toNat)), (1, .long (Int64.ofInt x1))]) (hw : f_J7_fill_d0a16_u0 Q NL p0 σ x1) : ml_V p l e rm_J7_fill_d0a16 s m args below meth c (MQ below (ml_Qv base D cA n Q) args s 0 0 (ml_A base)) base D cA 0 0 n n σ (F0 m 0 ls []) := by
  unfold f_J7_fill_d0a16_u0 at hw
  refine ml_iconst (pc := 0) X dJ7_fill_d0a16_0 ?_
  refine ml_istore_n (pc := 1) X rfl hl (by decide) (lst' := [(3, .int (Int32.ofInt 0)), (0, .ref (base + (p0 : Int).toNat)), (1, .long (Int64.ofInt x1))]) rfl dJ7_fill_d0a16_1 (fun ls hl => ?_)
  refine ml_aload_n (pc := 2) X hl 1 rfl rfl dJ7_fill_d0a16_2 ?_
  refine ml_alen (pc := 3) X hp_p0 (Or.inr rfl) dJ7_fill_d0a16_3 ?_
  refine ml_topI (pc := 4) (fun y1 e1 => ?_)
  have hw := hw y1 e1
  have q1 : I32 y1 := by rw [e1]; exact (ml_lenr hp_p0)
  refine ml_istore (pc := 4) X hl (by decide) (lst' := [(4, .int (Int32.ofInt y1)), (3, .int (Int32.ofInt 0)), (0, .ref (base + (p0 : Int).toNat)), (1, .long (Int64.ofInt x1))]) rfl dJ7_fill_d0a16_4 (fun ls hl => ?_)
  obtain ⟨N0, hw⟩ := hw
  exact u_J7_fill_d0a16_6 X hn hp_p0 (fun σ   ls hl hw => u_J7_fill_d0a16_22 X hn hp_p0 σ   ls hl hw) N0 σ x1 0 y1 h_x1 ⟨by decide, by decide⟩ q1 _ (lv_sub hl [2, 3, 1, 0] rfl) hw
set_option maxRecDepth 100000 in
theorem c_J7_fill_d0a16 (l : Launch) (base : Nat) (D : va_G) (cA : Nat → ClassId) (n : Nat) (hn : 214 ≤ n) (σ : ml_St) (NL : Nat) (p0 : Int) (hp_p0 : ml_at n p0 (4, NL)) (x1 : Int) (h_x1 : I64 x1) (Q : ml_St → Prop) (hw : f_J7_fill_d0a16 σ NL p0 x1 Q) : Met l yJ7_fill_d0a16 (Cond.code yJ7_fill_d0a16 cJ7_fill_d0a16 5 none :: ml_T) rm_J7_fill_d0a16 (va_Pc [.ref (base + (p0 : Int).toNat), .long (Int64.ofInt x1)] (ml_U base D cA n σ)) (ml_Qv base D cA n Q) 0 0 (ml_A base) := by
  refine Met.ofW (cc := cJ7_fill_d0a16) (maxL := 5) (ret := none) (by decide) rfl ?_
  intro p e s m args below meth c s₁ B hml hv
  obtain ⟨rfl, hP, hK, hok, hro⟩ := hv
  have X : ml_X p s m c meth _ D cA cJ7_fill_d0a16 5 RJ7 none := ⟨B.exec, B.bytes, hml, findClass_of_methodNamed B.named, fun w hw => atoms_spec (ws := Cond.code yJ7_fill_d0a16 cJ7_fill_d0a16 5 none :: ml_T) B.pre w (List.mem_cons_of_mem _ hw), hK, B.notSynchronized, B.returns⟩
  have hl := lv_entry [.ref (base + (p0 : Int).toNat), .long (Int64.ofInt x1)] (n := 5) (Nat.le_of_ble_eq_true rfl)
  rw [lg_entry_eq]
  generalize (lg_sl [.ref (base + (p0 : Int).toNat), .long (Int64.ofInt x1)] ++ List.replicate (5 - (lg_sl [.ref (base + (p0 : Int).toNat), .long (Int64.ofInt x1)]).length) Slot.unset).toArray = ls at hl ⊢
  have hl : lv_has ls 5 [(0, .ref (base + (p0 : Int).toNat)), (1, .long (Int64.ofInt x1))] := hl
  unfold f_J7_fill_d0a16 at hw
  exact u_J7_fill_d0a16_0 X hn hp_p0 σ x1 h_x1 _ (lv_sub hl [0, 1] rfl) hw s.heap [] hP va_S.rf hok hro
theorem dX7_startRow_0 : decode cX7_startRow 0 = .ok (.aload_n 0, 1) := by decide +kernel
theorem dX7_startRow_1 : decode cX7_startRow 1 = .ok (.getfield 40, 3) := by decide +kernel
theorem dX7_startRow_4 : decode cX7_startRow 4 = .ok (.lconst 0, 1) := by decide +kernel
theorem dX7_startRow_5 : decode cX7_startRow 5 = .ok (.invokestatic 121, 3) := by decide +kernel
theorem dX7_startRow_8 : decode cX7_startRow 8 = .ok (.aload_n 0, 1) := by decide +kernel
theorem dX7_startRow_9 : decode cX7_startRow 9 = .ok (.getfield 40, 3) := by decide +kernel
theorem dX7_startRow_12 : decode cX7_startRow 12 = .ok (.iconst 0, 1) := by decide +kernel
theorem dX7_startRow_13 : decode cX7_startRow 13 = .ok (.lconst 1, 1) := by decide +kernel
theorem dX7_startRow_14 : decode cX7_startRow 14 = .ok (.lastore, 1) := by decide +kernel
theorem dX7_startRow_15 : decode cX7_startRow 15 = .ok (.aload_n 0, 1) := by decide +kernel
theorem dX7_startRow_16 : decode cX7_startRow 16 = .ok (.iconst 0, 1) := by decide +kernel
theorem dX7_startRow_17 : decode cX7_startRow 17 = .ok (.putfield 47, 3) := by decide +kernel
theorem dX7_startRow_20 : decode cX7_startRow 20 = .ok (.return_, 1) := by decide +kernel
def f_X7_startRow_u0 (Q : ml_St → Prop) (σ : ml_St) : Prop :=
f_J7_fill_d0a16 σ 2838 62 0 (fun σ1 =>
(0 : Int) ≤ 0 ∧ (0 : Int) < 2838 ∧
∀ σ2, σ2 = ml_up σ1 62 0 1 →
∀ σ3, σ3 = ml_up σ2 55 11 0 →
Q σ3)
def f_X7_startRow (σ : ml_St) (Q : ml_St → Prop) : Prop := f_X7_startRow_u0 Q σ
def rm_X7_startRow : Room := { frames := 1, cells := 0, slots := 0, locals := 24 }
set_option maxRecDepth 100000 in
set_option maxHeartbeats 4000000 in
theorem u_X7_startRow_0 {p : Program} {e : Env} {s : State} {m : MethodId} {args : Array Value} {below : List Frame} {meth : Method} {c : Code} {base : Nat} {D : va_G} {cA : Nat → ClassId} {n : Nat} {l : Launch} {Q : ml_St → Prop} (X : ml_X p s m c meth args D cA cX7_startRow 1 RX7 none) (hn : 214 ≤ n) (σ : ml_St) (ls : Array Slot) (hl : lv_has ls 1 [(0, .ref (base + (55 : Int).toNat))]) (hw : f_X7_startRow_u0 Q σ) : ml_V p l e rm_X7_startRow s m args below meth c (MQ below (ml_Qv base D cA n Q) args s 0 0 (ml_A base)) base D cA 0 0 n n σ (F0 m 0 ls []) := by
  unfold f_X7_startRow_u0 at hw
  refine ml_aload_n (pc := 0) X hl 0 rfl rfl dX7_startRow_0 ?_
  refine gf_X7_40 (pc := 1) X (ml_c55 hn) dX7_startRow_1 ?_
  refine ml_lconst0 (pc := 4) X dX7_startRow_4 ?_
  refine ml_callvS (pc := 5) (rest := []) X [.ref (base + (62 : Int).toNat), .long (Int64.ofInt 0)] (c_J7_fill_d0a16 l base D cA n hn σ 2838 62 (ml_c62 hn) 0 ⟨by decide, by decide⟩ _ hw) cv_X7_121 ⟨rfl, rfl⟩ ⟨by decide, by decide⟩ rfl rfl hl (Nat.le_of_ble_eq_true rfl) ⟨Nat.zero_le _, Nat.zero_le _⟩ dX7_startRow_5 (fun σ1 hw => ?_)
  refine ml_aload_n (pc := 8) X hl 0 rfl rfl dX7_startRow_8 ?_
  refine gf_X7_40 (pc := 9) X (ml_c55 hn) dX7_startRow_9 ?_
  refine ml_iconst (pc := 12) X dX7_startRow_12 ?_
  refine ml_lconst1 (pc := 13) X dX7_startRow_13 ?_
  obtain ⟨a2, b2, hw⟩ := hw
  refine ml_last (pc := 14) (N := 2838) X (ml_c62 hn) a2 b2 ⟨by decide, by decide⟩ dX7_startRow_14 (fun σ2 g2 => ?_)
  have hw := hw σ2 g2
  refine ml_aload_n (pc := 15) X hl 0 rfl rfl dX7_startRow_15 ?_
  refine ml_iconst (pc := 16) X dX7_startRow_16 ?_
  refine pf_X7_47 (pc := 17) X (ml_c55 hn) ⟨by decide, by decide⟩ dX7_startRow_17 (fun σ3 g3 => ?_)
  have hw := hw σ3 g3
  exact ml_vret (pc := 20) X hw dX7_startRow_20
set_option maxRecDepth 100000 in
theorem c_X7_startRow (l : Launch) (base : Nat) (D : va_G) (cA : Nat → ClassId) (n : Nat) (hn : 214 ≤ n) (σ : ml_St) (Q : ml_St → Prop) (hw : f_X7_startRow σ Q) : Met l yX7_startRow (Cond.code yX7_startRow cX7_startRow 1 none :: ml_T) rm_X7_startRow (va_Pc [.ref (base + (55 : Int).toNat)] (ml_U base D cA n σ)) (ml_Qv base D cA n Q) 0 0 (ml_A base) := by
  refine Met.ofW (cc := cX7_startRow) (maxL := 1) (ret := none) (by decide) rfl ?_
  intro p e s m args below meth c s₁ B hml hv
  obtain ⟨rfl, hP, hK, hok, hro⟩ := hv
  have X : ml_X p s m c meth _ D cA cX7_startRow 1 RX7 none := ⟨B.exec, B.bytes, hml, findClass_of_methodNamed B.named, fun w hw => atoms_spec (ws := Cond.code yX7_startRow cX7_startRow 1 none :: ml_T) B.pre w (List.mem_cons_of_mem _ hw), hK, B.notSynchronized, B.returns⟩
  have hl := lv_entry [.ref (base + (55 : Int).toNat)] (n := 1) (Nat.le_of_ble_eq_true rfl)
  rw [lg_entry_eq]
  generalize (lg_sl [.ref (base + (55 : Int).toNat)] ++ List.replicate (1 - (lg_sl [.ref (base + (55 : Int).toNat)]).length) Slot.unset).toArray = ls at hl ⊢
  have hl : lv_has ls 1 [(0, .ref (base + (55 : Int).toNat))] := hl
  unfold f_X7_startRow at hw
  exact u_X7_startRow_0 X hn σ  _ (lv_sub hl [0] rfl) hw s.heap [] hP va_S.rf hok hro
theorem dX7_open_0 : decode cX7_open 0 = .ok (.iload_n 1, 1) := by decide +kernel
theorem dX7_open_1 : decode cX7_open 1 = .ok (.aload_n 0, 1) := by decide +kernel
theorem dX7_open_2 : decode cX7_open 2 = .ok (.getfield 11, 3) := by decide +kernel
theorem dX7_open_5 : decode cX7_open 5 = .ok (.if_icmp .ne 4, 3) := by decide +kernel
theorem dX7_open_8 : decode cX7_open 8 = .ok (.return_, 1) := by decide +kernel
theorem dX7_open_9 : decode cX7_open 9 = .ok (.aload_n 0, 1) := by decide +kernel
theorem dX7_open_10 : decode cX7_open 10 = .ok (.iload_n 1, 1) := by decide +kernel
theorem dX7_open_11 : decode cX7_open 11 = .ok (.putfield 11, 3) := by decide +kernel
theorem dX7_open_14 : decode cX7_open 14 = .ok (.aload_n 0, 1) := by decide +kernel
theorem dX7_open_15 : decode cX7_open 15 = .ok (.iconst 0, 1) := by decide +kernel
theorem dX7_open_16 : decode cX7_open 16 = .ok (.putfield 15, 3) := by decide +kernel
theorem dX7_open_19 : decode cX7_open 19 = .ok (.iconst 0, 1) := by decide +kernel
theorem dX7_open_20 : decode cX7_open 20 = .ok (.istore 4, 2) := by decide +kernel
theorem dX7_open_22 : decode cX7_open 22 = .ok (.iload 4, 2) := by decide +kernel
theorem dX7_open_24 : decode cX7_open 24 = .ok (.bipush 16, 2) := by decide +kernel
theorem dX7_open_26 : decode cX7_open 26 = .ok (.if_icmp .ge 48, 3) := by decide +kernel
theorem dX7_open_29 : decode cX7_open 29 = .ok (.iload_n 1, 1) := by decide +kernel
theorem dX7_open_30 : decode cX7_open 30 = .ok (.iload 4, 2) := by decide +kernel
theorem dX7_open_32 : decode cX7_open 32 = .ok (.ishr, 1) := by decide +kernel
theorem dX7_open_33 : decode cX7_open 33 = .ok (.iconst 1, 1) := by decide +kernel
theorem dX7_open_34 : decode cX7_open 34 = .ok (.iand, 1) := by decide +kernel
theorem dX7_open_35 : decode cX7_open 35 = .ok (.ifCond .eq 33, 3) := by decide +kernel
theorem dX7_open_38 : decode cX7_open 38 = .ok (.aload_n 0, 1) := by decide +kernel
theorem dX7_open_39 : decode cX7_open 39 = .ok (.getfield 15, 3) := by decide +kernel
theorem dX7_open_42 : decode cX7_open 42 = .ok (.bipush 6, 2) := by decide +kernel
theorem dX7_open_44 : decode cX7_open 44 = .ok (.if_icmp .ge 24, 3) := by decide +kernel
theorem dX7_open_47 : decode cX7_open 47 = .ok (.aload_n 0, 1) := by decide +kernel
theorem dX7_open_48 : decode cX7_open 48 = .ok (.getfield 21, 3) := by decide +kernel
theorem dX7_open_51 : decode cX7_open 51 = .ok (.aload_n 0, 1) := by decide +kernel
theorem dX7_open_52 : decode cX7_open 52 = .ok (.getfield 15, 3) := by decide +kernel
theorem dX7_open_55 : decode cX7_open 55 = .ok (.iload 4, 2) := by decide +kernel
theorem dX7_open_57 : decode cX7_open 57 = .ok (.iastore, 1) := by decide +kernel
theorem dX7_open_58 : decode cX7_open 58 = .ok (.aload_n 0, 1) := by decide +kernel
theorem dX7_open_59 : decode cX7_open 59 = .ok (.dup, 1) := by decide +kernel
theorem dX7_open_60 : decode cX7_open 60 = .ok (.getfield 15, 3) := by decide +kernel
theorem dX7_open_63 : decode cX7_open 63 = .ok (.iconst 1, 1) := by decide +kernel
theorem dX7_open_64 : decode cX7_open 64 = .ok (.iadd, 1) := by decide +kernel
theorem dX7_open_65 : decode cX7_open 65 = .ok (.putfield 15, 3) := by decide +kernel
theorem dX7_open_68 : decode cX7_open 68 = .ok (.iinc 4 1, 3) := by decide +kernel
theorem dX7_open_71 : decode cX7_open 71 = .ok (.goto (-49), 3) := by decide +kernel
theorem dX7_open_74 : decode cX7_open 74 = .ok (.aload_n 0, 1) := by decide +kernel
theorem dX7_open_75 : decode cX7_open 75 = .ok (.getfield 25, 3) := by decide +kernel
theorem dX7_open_78 : decode cX7_open 78 = .ok (.iconst (-1), 1) := by decide +kernel
theorem dX7_open_79 : decode cX7_open 79 = .ok (.invokestatic 60, 3) := by decide +kernel
theorem dX7_open_82 : decode cX7_open 82 = .ok (.aload_n 0, 1) := by decide +kernel
theorem dX7_open_83 : decode cX7_open 83 = .ok (.iconst 0, 1) := by decide +kernel
theorem dX7_open_84 : decode cX7_open 84 = .ok (.putfield 18, 3) := by decide +kernel
theorem dX7_open_87 : decode cX7_open 87 = .ok (.aload_n 0, 1) := by decide +kernel
theorem dX7_open_88 : decode cX7_open 88 = .ok (.getfield 53, 3) := by decide +kernel
theorem dX7_open_91 : decode cX7_open 91 = .ok (.iload_n 3, 1) := by decide +kernel
theorem dX7_open_92 : decode cX7_open 92 = .ok (.invokevirtual 66, 3) := by decide +kernel
theorem dX7_open_95 : decode cX7_open 95 = .ok (.aload_n 0, 1) := by decide +kernel
theorem dX7_open_96 : decode cX7_open 96 = .ok (.aload_n 0, 1) := by decide +kernel
theorem dX7_open_97 : decode cX7_open 97 = .ok (.getfield 53, 3) := by decide +kernel
theorem dX7_open_100 : decode cX7_open 100 = .ok (.invokevirtual 70, 3) := by decide +kernel
theorem dX7_open_103 : decode cX7_open 103 = .ok (.iconst 0, 1) := by decide +kernel
theorem dX7_open_104 : decode cX7_open 104 = .ok (.istore 4, 2) := by decide +kernel
theorem dX7_open_106 : decode cX7_open 106 = .ok (.iload 4, 2) := by decide +kernel
theorem dX7_open_108 : decode cX7_open 108 = .ok (.aload_n 0, 1) := by decide +kernel
theorem dX7_open_109 : decode cX7_open 109 = .ok (.getfield 18, 3) := by decide +kernel
theorem dX7_open_112 : decode cX7_open 112 = .ok (.if_icmp .ge 25, 3) := by decide +kernel
theorem dX7_open_115 : decode cX7_open 115 = .ok (.iload 4, 2) := by decide +kernel
theorem dX7_open_117 : decode cX7_open 117 = .ok (.sipush 946, 3) := by decide +kernel
theorem dX7_open_120 : decode cX7_open 120 = .ok (.if_icmp .ge 17, 3) := by decide +kernel
theorem dX7_open_123 : decode cX7_open 123 = .ok (.aload_n 0, 1) := by decide +kernel
theorem dX7_open_124 : decode cX7_open 124 = .ok (.iload 4, 2) := by decide +kernel
theorem dX7_open_126 : decode cX7_open 126 = .ok (.aload_n 2, 1) := by decide +kernel
theorem dX7_open_127 : decode cX7_open 127 = .ok (.iload_n 3, 1) := by decide +kernel
theorem dX7_open_128 : decode cX7_open 128 = .ok (.invokevirtual 74, 3) := by decide +kernel
theorem dX7_open_131 : decode cX7_open 131 = .ok (.iinc 4 1, 3) := by decide +kernel
theorem dX7_open_134 : decode cX7_open 134 = .ok (.goto (-28), 3) := by decide +kernel
theorem dX7_open_137 : decode cX7_open 137 = .ok (.aload_n 0, 1) := by decide +kernel
theorem dX7_open_138 : decode cX7_open 138 = .ok (.invokevirtual 78, 3) := by decide +kernel
theorem dX7_open_141 : decode cX7_open 141 = .ok (.return_, 1) := by decide +kernel
def f_X7_open_u68 (Q : ml_St → Prop) (K22 : ml_St → Int → Int → Int → Prop) (σ : ml_St) (x1 : Int) (x3 : Int) (x4 : Int) : Prop :=
I32 (x4 + 1) ∧
∀ y1 : Int, y1 = x4 + 1 →
K22 σ x1 x3 y1
def f_X7_open_u22 (Q : ml_St → Prop) (K74 : ml_St → Int → Prop) : Nat → ml_St → Int → Int → Int → Prop
| 0, _, _, _, _ => False
| N + 1, σ, x1, x3, x4 =>
(16 ≤ x4 →
K74 σ x3) ∧
(¬ (16 ≤ x4) →
(((b_and (b_shr x1 x4) 1) : Int) = 0 →
f_X7_open_u68 Q (f_X7_open_u22 Q K74 N) σ x1 x3 x4) ∧
((b_and (b_shr x1 x4) 1) ≠ 0 →
∀ _ : I32 (σ 55 1),
(6 ≤ ((σ 55 1) : Int) →
f_X7_open_u68 Q (f_X7_open_u22 Q K74 N) σ x1 x3 x4) ∧
(¬ (6 ≤ ((σ 55 1) : Int)) →
∀ _ : I32 (σ 55 1),
(0 : Int) ≤ (σ 55 1) ∧ ((σ 55 1) : Int) < 6 ∧
∀ σ6, σ6 = ml_up σ 56 (σ 55 1) x4 →
∀ _ : I32 (σ6 55 1),
I32 ((σ6 55 1) + 1) ∧
∀ σ9, σ9 = ml_up σ6 55 1 ((σ6 55 1) + 1) →
f_X7_open_u68 Q (f_X7_open_u22 Q K74 N) σ9 x1 x3 x4)))
def f_X7_open_u106 (Q : ml_St → Prop) (K137 : ml_St → Prop) : Nat → ml_St → Int → Int → Prop
| 0, _, _, _ => False
| N + 1, σ, x3, x4 =>
∀ _ : I32 (σ 55 2),
((σ 55 2) ≤ x4 →
K137 σ) ∧
(¬ ((σ 55 2) ≤ x4) →
(946 ≤ x4 →
K137 σ) ∧
(¬ (946 ≤ x4) →
f_X7_leadOn σ x4 x3 (fun σ4 =>
I32 (x4 + 1) ∧
∀ y5 : Int, y5 = x4 + 1 →
f_X7_open_u106 Q K137 N σ4 x3 y5)))
def f_X7_open_u137 (Q : ml_St → Prop) (σ : ml_St) : Prop :=
f_X7_startRow σ (fun σ1 =>
Q σ1)
def f_X7_open_u74 (Q : ml_St → Prop) (σ : ml_St) (x3 : Int) : Prop :=
f_J7_fill_53178 σ 945 57 (-1) (fun σ1 =>
∀ σ2, σ2 = ml_up σ1 55 2 0 →
f_X9_beStraight σ2 64 x3 (fun σ3 =>
f_X7_keep σ3 64 (fun σ4 =>
∃ N1, f_X7_open_u106 Q (f_X7_open_u137 Q) N1 σ4 x3 0)))
def f_X7_open_u0 (Q : ml_St → Prop) (σ : ml_St) (x1 : Int) (x3 : Int) : Prop :=
∀ _ : I32 (σ 55 0),
(x1 ≠ (σ 55 0) →
∀ σ3, σ3 = ml_up σ 55 0 x1 →
∀ σ4, σ4 = ml_up σ3 55 1 0 →
∃ N1, f_X7_open_u22 Q (f_X7_open_u74 Q) N1 σ4 x1 x3 0) ∧
(x1 = (σ 55 0) →
Q σ)
def f_X7_open (σ : ml_St) (x1 : Int) (x3 : Int) (Q : ml_St → Prop) : Prop := f_X7_open_u0 Q σ x1 x3
def rm_X7_open : Room := { frames := 4, cells := 0, slots := 0, locals := 140 }
set_option maxRecDepth 100000 in
set_option maxHeartbeats 4000000 in
theorem u_X7_open_68 {p : Program} {e : Env} {s : State} {m : MethodId} {args : Array Value} {below : List Frame} {meth : Method} {c : Code} {base : Nat} {D : va_G} {cA : Nat → ClassId} {n : Nat} {l : Launch} {Q : ml_St → Prop} {K22 : ml_St → Int → Int → Int → Prop} (X : ml_X p s m c meth args D cA cX7_open 5 RX7 none) (hn : 214 ≤ n) (hK22 : ∀ (σ : ml_St) (x1 : Int) (x3 : Int) (x4 : Int) (h_x1 : I32 x1) (h_x3 : I32 x3) (h_x4 : I32 x4) (ls : Array Slot), lv_has ls 5 [(0, .ref (base + (55 : Int).toNat)), (1, .int (Int32.ofInt x1)), (2, .ref (base + (114 : Int).toNat)), (3, .int (Int32.ofInt x3)), (4, .int (Int32.ofInt x4))] → K22 σ x1 x3 x4 → ml_V p l e rm_X7_open s m args below meth c (MQ below (ml_Qv base D cA n Q) args s 0 0 (ml_A base)) base D cA 0 0 n n σ (F0 m 22 ls [])) (σ : ml_St) (x1 : Int) (x3 : Int) (x4 : Int) (h_x1 : I32 x1) (h_x3 : I32 x3) (h_x4 : I32 x4) (ls : Array Slot) (hl : lv_has ls 5 [(0, .ref (base + (55 : Int).toNat)), (1, .int (Int32.ofInt x1)), (2, .ref (base + (114 : Int).toNat)), (3, .int (Int32.ofInt x3)), (4, .int (Int32.ofInt x4))]) (hw : f_X7_open_u68 Q K22 σ x1 x3 x4) : ml_V p l e rm_X7_open s m args below meth c (MQ below (ml_Qv base D cA n Q) args s 0 0 (ml_A base)) base D cA 0 0 n n σ (F0 m 68 ls []) := by
  unfold f_X7_open_u68 at hw
  obtain ⟨v1, hw⟩ := hw
  obtain ⟨y1, e1⟩ : ∃ y : Int, y = x4 + 1 := ⟨_, rfl⟩
  have hw := hw y1 e1
  rw [← e1] at v1
  refine ml_iinc (pc := 68) X e1 hl 4 rfl (by decide) (lst' := [(4, .int (Int32.ofInt y1)), (0, .ref (base + (55 : Int).toNat)), (1, .int (Int32.ofInt x1)), (2, .ref (base + (114 : Int).toNat)), (3, .int (Int32.ofInt x3))]) rfl dX7_open_68 (fun ls hl => ?_)
  refine ml_goto (pc := 71) (tgt := 22) X dX7_open_71 (by decide) ?_
  exact hK22 σ x1 x3 y1 h_x1 h_x3 v1 _ (lv_sub hl [1, 2, 3, 4, 0] rfl) hw
set_option maxRecDepth 100000 in
set_option maxHeartbeats 4000000 in
theorem u_X7_open_22 {p : Program} {e : Env} {s : State} {m : MethodId} {args : Array Value} {below : List Frame} {meth : Method} {c : Code} {base : Nat} {D : va_G} {cA : Nat → ClassId} {n : Nat} {l : Launch} {Q : ml_St → Prop} {K74 : ml_St → Int → Prop} (X : ml_X p s m c meth args D cA cX7_open 5 RX7 none) (hn : 214 ≤ n) (hK74 : ∀ (σ : ml_St) (x3 : Int) (h_x3 : I32 x3) (ls : Array Slot), lv_has ls 5 [(0, .ref (base + (55 : Int).toNat)), (2, .ref (base + (114 : Int).toNat)), (3, .int (Int32.ofInt x3))] → K74 σ x3 → ml_V p l e rm_X7_open s m args below meth c (MQ below (ml_Qv base D cA n Q) args s 0 0 (ml_A base)) base D cA 0 0 n n σ (F0 m 74 ls [])) : ∀ (N : Nat) (σ : ml_St) (x1 : Int) (x3 : Int) (x4 : Int) (h_x1 : I32 x1) (h_x3 : I32 x3) (h_x4 : I32 x4) (ls : Array Slot), lv_has ls 5 [(0, .ref (base + (55 : Int).toNat)), (1, .int (Int32.ofInt x1)), (2, .ref (base + (114 : Int).toNat)), (3, .int (Int32.ofInt x3)), (4, .int (Int32.ofInt x4))] → f_X7_open_u22 Q K74 N σ x1 x3 x4 → ml_V p l e rm_X7_open s m args below meth c (MQ below (ml_Qv base D cA n Q) args s 0 0 (ml_A base)) base D cA 0 0 n n σ (F0 m 22 ls []) := by
  intro N
  induction N with
  | zero => intro σ x1 x3 x4 h_x1 h_x3 h_x4 ls hl hw; exact False.elim hw
  | succ N ih =>
    intro σ x1 x3 x4 h_x1 h_x3 h_x4 ls hl hw
    unfold f_X7_open_u22 at hw
    refine ml_iload (pc := 22) X hl 4 rfl dX7_open_22 ?_
    refine ml_bipush (pc := 24) X dX7_open_24 (by decide) ?_
    refine ml_icmp_ge (pc := 26) (tgt := 74) X h_x4 ⟨by decide, by decide⟩ dX7_open_26 (by decide) (fun c1 => ?_) (fun c1 => ?_)
    · have hw := hw.1 c1
      exact hK74 σ x3 h_x3 _ (lv_sub hl [0, 2, 3] rfl) hw
    · have hw := hw.2 c1
      refine ml_iload_n (pc := 29) X hl 1 rfl rfl dX7_open_29 ?_
      refine ml_iload (pc := 30) X hl 4 rfl dX7_open_30 ?_
      refine ml_ishr (pc := 32) X dX7_open_32 ?_
      refine ml_iconst (pc := 33) X dX7_open_33 ?_
      refine ml_iand (pc := 34) X dX7_open_34 ?_
      refine ml_if_eq (pc := 35) (tgt := 68) X (b_and_r _ _) dX7_open_35 (by decide) (fun c2 => ?_) (fun c2 => ?_)
      · have hw := hw.1 c2
        exact u_X7_open_68 X hn ih σ x1 x3 x4 h_x1 h_x3 h_x4 _ (lv_sub hl [0, 1, 2, 3, 4] rfl) hw
      · have hw := hw.2 c2
        refine ml_aload_n (pc := 38) X hl 0 rfl rfl dX7_open_38 ?_
        refine gf_X7_15 (pc := 39) X (ml_c55 hn) dX7_open_39 (fun r3 => ?_)
        have hw := hw r3
        refine ml_bipush (pc := 42) X dX7_open_42 (by decide) ?_
        refine ml_icmp_ge (pc := 44) (tgt := 68) X r3 ⟨by decide, by decide⟩ dX7_open_44 (by decide) (fun c4 => ?_) (fun c4 => ?_)
        · have hw := hw.1 c4
          exact u_X7_open_68 X hn ih σ x1 x3 x4 h_x1 h_x3 h_x4 _ (lv_sub hl [0, 1, 2, 3, 4] rfl) hw
        · have hw := hw.2 c4
          refine ml_aload_n (pc := 47) X hl 0 rfl rfl dX7_open_47 ?_
          refine gf_X7_21 (pc := 48) X (ml_c55 hn) dX7_open_48 ?_
          refine ml_aload_n (pc := 51) X hl 0 rfl rfl dX7_open_51 ?_
          refine gf_X7_15 (pc := 52) X (ml_c55 hn) dX7_open_52 (fun r5 => ?_)
          have hw := hw r5
          refine ml_iload (pc := 55) X hl 4 rfl dX7_open_55 ?_
          obtain ⟨a6, b6, hw⟩ := hw
          refine ml_iast (pc := 57) (N := 6) X (ml_c56 hn) a6 b6 h_x4 dX7_open_57 (fun σ6 g6 => ?_)
          have hw := hw σ6 g6
          refine ml_aload_n (pc := 58) X hl 0 rfl rfl dX7_open_58 ?_
          refine ml_dup (pc := 59) X dX7_open_59 rfl ?_
          refine gf_X7_15 (pc := 60) X (ml_c55 hn) dX7_open_60 (fun r7 => ?_)
          have hw := hw r7
          refine ml_iconst (pc := 63) X dX7_open_63 ?_
          obtain ⟨v8, hw⟩ := hw
          refine ml_iadd (pc := 64) X dX7_open_64 ?_
          refine pf_X7_15 (pc := 65) X (ml_c55 hn) v8 dX7_open_65 (fun σ9 g9 => ?_)
          have hw := hw σ9 g9
          exact u_X7_open_68 X hn ih σ9 x1 x3 x4 h_x1 h_x3 h_x4 _ (lv_sub hl [0, 1, 2, 3, 4] rfl) hw
set_option maxRecDepth 100000 in
set_option maxHeartbeats 4000000 in
theorem u_X7_open_106 {p : Program} {e : Env} {s : State} {m : MethodId} {args : Array Value} {below : List Frame} {meth : Method} {c : Code} {base : Nat} {D : va_G} {cA : Nat → ClassId} {n : Nat} {l : Launch} {Q : ml_St → Prop} {K137 : ml_St → Prop} (X : ml_X p s m c meth args D cA cX7_open 5 RX7 none) (hn : 214 ≤ n) (hK137 : ∀ (σ : ml_St) (ls : Array Slot), lv_has ls 5 [(0, .ref (base + (55 : Int).toNat))] → K137 σ → ml_V p l e rm_X7_open s m args below meth c (MQ below (ml_Qv base D cA n Q) args s 0 0 (ml_A base)) base D cA 0 0 n n σ (F0 m 137 ls [])) : ∀ (N : Nat) (σ : ml_St) (x3 : Int) (x4 : Int) (h_x3 : I32 x3) (h_x4 : I32 x4) (ls : Array Slot), lv_has ls 5 [(0, .ref (base + (55 : Int).toNat)), (2, .ref (base + (114 : Int).toNat)), (3, .int (Int32.ofInt x3)), (4, .int (Int32.ofInt x4))] → f_X7_open_u106 Q K137 N σ x3 x4 → ml_V p l e rm_X7_open s m args below meth c (MQ below (ml_Qv base D cA n Q) args s 0 0 (ml_A base)) base D cA 0 0 n n σ (F0 m 106 ls []) := by
  intro N
  induction N with
  | zero => intro σ x3 x4 h_x3 h_x4 ls hl hw; exact False.elim hw
  | succ N ih =>
    intro σ x3 x4 h_x3 h_x4 ls hl hw
    unfold f_X7_open_u106 at hw
    refine ml_iload (pc := 106) X hl 3 rfl dX7_open_106 ?_
    refine ml_aload_n (pc := 108) X hl 0 rfl rfl dX7_open_108 ?_
    refine gf_X7_18 (pc := 109) X (ml_c55 hn) dX7_open_109 (fun r1 => ?_)
    have hw := hw r1
    refine ml_icmp_ge (pc := 112) (tgt := 137) X h_x4 r1 dX7_open_112 (by decide) (fun c2 => ?_) (fun c2 => ?_)
    · have hw := hw.1 c2
      exact hK137 σ   _ (lv_sub hl [0] rfl) hw
    · have hw := hw.2 c2
      refine ml_iload (pc := 115) X hl 3 rfl dX7_open_115 ?_
      refine ml_sipush (pc := 117) X dX7_open_117 (by decide) ?_
      refine ml_icmp_ge (pc := 120) (tgt := 137) X h_x4 ⟨by decide, by decide⟩ dX7_open_120 (by decide) (fun c3 => ?_) (fun c3 => ?_)
      · have hw := hw.1 c3
        exact hK137 σ   _ (lv_sub hl [0] rfl) hw
      · have hw := hw.2 c3
        refine ml_aload_n (pc := 123) X hl 0 rfl rfl dX7_open_123 ?_
        refine ml_iload (pc := 124) X hl 3 rfl dX7_open_124 ?_
        refine ml_aload_n (pc := 126) X hl 1 rfl rfl dX7_open_126 ?_
        refine ml_iload_n (pc := 127) X hl 2 rfl rfl dX7_open_127 ?_
        refine ml_callvV (pc := 128) (rest := []) X [.int (Int32.ofInt x4), .ref (base + (114 : Int).toNat), .int (Int32.ofInt x3)] (by decide) rfl (ml_c55 hn) (c_X7_leadOn l base D cA n hn σ x4 x3 h_x4 h_x3 _ hw) cv_X7_74 ⟨rfl, rfl⟩ ⟨by decide, by decide⟩ rfl rfl hl (Nat.le_of_ble_eq_true rfl) ⟨Nat.zero_le _, Nat.zero_le _⟩ dX7_open_128 (fun σ4 hw => ?_)
        obtain ⟨v5, hw⟩ := hw
        obtain ⟨y5, e5⟩ : ∃ y : Int, y = x4 + 1 := ⟨_, rfl⟩
        have hw := hw y5 e5
        rw [← e5] at v5
        refine ml_iinc (pc := 131) X e5 hl 3 rfl (by decide) (lst' := [(4, .int (Int32.ofInt y5)), (0, .ref (base + (55 : Int).toNat)), (2, .ref (base + (114 : Int).toNat)), (3, .int (Int32.ofInt x3))]) rfl dX7_open_131 (fun ls hl => ?_)
        refine ml_goto (pc := 134) (tgt := 106) X dX7_open_134 (by decide) ?_
        exact ih σ4 x3 y5 h_x3 v5 _ (lv_sub hl [1, 2, 3, 0] rfl) hw
set_option maxRecDepth 100000 in
set_option maxHeartbeats 4000000 in
theorem u_X7_open_137 {p : Program} {e : Env} {s : State} {m : MethodId} {args : Array Value} {below : List Frame} {meth : Method} {c : Code} {base : Nat} {D : va_G} {cA : Nat → ClassId} {n : Nat} {l : Launch} {Q : ml_St → Prop} (X : ml_X p s m c meth args D cA cX7_open 5 RX7 none) (hn : 214 ≤ n) (σ : ml_St) (ls : Array Slot) (hl : lv_has ls 5 [(0, .ref (base + (55 : Int).toNat))]) (hw : f_X7_open_u137 Q σ) : ml_V p l e rm_X7_open s m args below meth c (MQ below (ml_Qv base D cA n Q) args s 0 0 (ml_A base)) base D cA 0 0 n n σ (F0 m 137 ls []) := by
  unfold f_X7_open_u137 at hw
  refine ml_aload_n (pc := 137) X hl 0 rfl rfl dX7_open_137 ?_
  refine ml_callvV (pc := 138) (rest := []) X [] (by decide) rfl (ml_c55 hn) (c_X7_startRow l base D cA n hn σ _ hw) cv_X7_78 ⟨rfl, rfl⟩ ⟨by decide, by decide⟩ rfl rfl hl (Nat.le_of_ble_eq_true rfl) ⟨Nat.zero_le _, Nat.zero_le _⟩ dX7_open_138 (fun σ1 hw => ?_)
  exact ml_vret (pc := 141) X hw dX7_open_141
set_option maxRecDepth 100000 in
set_option maxHeartbeats 4000000 in
theorem u_X7_open_74 {p : Program} {e : Env} {s : State} {m : MethodId} {args : Array Value} {below : List Frame} {meth : Method} {c : Code} {base : Nat} {D : va_G} {cA : Nat → ClassId} {n : Nat} {l : Launch} {Q : ml_St → Prop} (X : ml_X p s m c meth args D cA cX7_open 5 RX7 none) (hn : 214 ≤ n) (σ : ml_St) (x3 : Int) (h_x3 : I32 x3) (ls : Array Slot) (hl : lv_has ls 5 [(0, .ref (base + (55 : Int).toNat)), (2, .ref (base + (114 : Int).toNat)), (3, .int (Int32.ofInt x3))]) (hw : f_X7_open_u74 Q σ x3) : ml_V p l e rm_X7_open s m args below meth c (MQ below (ml_Qv base D cA n Q) args s 0 0 (ml_A base)) base D cA 0 0 n n σ (F0 m 74 ls []) := by
  unfold f_X7_open_u74 at hw
  refine ml_aload_n (pc := 74) X hl 0 rfl rfl dX7_open_74 ?_
  refine gf_X7_25 (pc := 75) X (ml_c55 hn) dX7_open_75 ?_
  refine ml_iconst (pc := 78) X dX7_open_78 ?_
  refine ml_callvS (pc := 79) (rest := []) X [.ref (base + (57 : Int).toNat), .int (Int32.ofInt (-1))] (c_J7_fill_53178 l base D cA n hn σ 945 57 (ml_c57 hn) (-1) ⟨by decide, by decide⟩ _ hw) cv_X7_60 ⟨rfl, rfl⟩ ⟨by decide, by decide⟩ rfl rfl hl (Nat.le_of_ble_eq_true rfl) ⟨Nat.zero_le _, Nat.zero_le _⟩ dX7_open_79 (fun σ1 hw => ?_)
  refine ml_aload_n (pc := 82) X hl 0 rfl rfl dX7_open_82 ?_
  refine ml_iconst (pc := 83) X dX7_open_83 ?_
  refine pf_X7_18 (pc := 84) X (ml_c55 hn) ⟨by decide, by decide⟩ dX7_open_84 (fun σ2 g2 => ?_)
  have hw := hw σ2 g2
  refine ml_aload_n (pc := 87) X hl 0 rfl rfl dX7_open_87 ?_
  refine gf_X7_53 (pc := 88) X (ml_c55 hn) dX7_open_88 ?_
  refine ml_iload_n (pc := 91) X hl 2 rfl rfl dX7_open_91 ?_
  refine ml_callvV (pc := 92) (rest := []) X [.int (Int32.ofInt x3)] (by decide) rfl (ml_c64 hn) (c_X9_beStraight l base D cA n hn σ2 64 (ml_c64 hn) x3 h_x3 _ hw) cv_X7_66 ⟨rfl, rfl⟩ ⟨by decide, by decide⟩ rfl rfl hl (Nat.le_of_ble_eq_true rfl) ⟨Nat.zero_le _, Nat.zero_le _⟩ dX7_open_92 (fun σ3 hw => ?_)
  refine ml_aload_n (pc := 95) X hl 0 rfl rfl dX7_open_95 ?_
  refine ml_aload_n (pc := 96) X hl 0 rfl rfl dX7_open_96 ?_
  refine gf_X7_53 (pc := 97) X (ml_c55 hn) dX7_open_97 ?_
  refine ml_callvV (pc := 100) (rest := []) X [.ref (base + (64 : Int).toNat)] (by decide) rfl (ml_c55 hn) (c_X7_keep l base D cA n hn σ3 64 (ml_c64 hn) _ hw) cv_X7_70 ⟨rfl, rfl⟩ ⟨by decide, by decide⟩ rfl rfl hl (Nat.le_of_ble_eq_true rfl) ⟨Nat.zero_le _, Nat.zero_le _⟩ dX7_open_100 (fun σ4 hw => ?_)
  refine ml_iconst (pc := 103) X dX7_open_103 ?_
  refine ml_istore (pc := 104) X hl (by decide) (lst' := [(4, .int (Int32.ofInt 0)), (0, .ref (base + (55 : Int).toNat)), (2, .ref (base + (114 : Int).toNat)), (3, .int (Int32.ofInt x3))]) rfl dX7_open_104 (fun ls hl => ?_)
  obtain ⟨N0, hw⟩ := hw
  exact u_X7_open_106 X hn (fun σ   ls hl hw => u_X7_open_137 X hn σ   ls hl hw) N0 σ4 x3 0 h_x3 ⟨by decide, by decide⟩ _ (lv_sub hl [1, 2, 3, 0] rfl) hw
set_option maxRecDepth 100000 in
set_option maxHeartbeats 4000000 in
theorem u_X7_open_0 {p : Program} {e : Env} {s : State} {m : MethodId} {args : Array Value} {below : List Frame} {meth : Method} {c : Code} {base : Nat} {D : va_G} {cA : Nat → ClassId} {n : Nat} {l : Launch} {Q : ml_St → Prop} (X : ml_X p s m c meth args D cA cX7_open 5 RX7 none) (hn : 214 ≤ n) (σ : ml_St) (x1 : Int) (x3 : Int) (h_x1 : I32 x1) (h_x3 : I32 x3) (ls : Array Slot) (hl : lv_has ls 5 [(0, .ref (base + (55 : Int).toNat)), (1, .int (Int32.ofInt x1)), (2, .ref (base + (114 : Int).toNat)), (3, .int (Int32.ofInt x3))]) (hw : f_X7_open_u0 Q σ x1 x3) : ml_V p l e rm_X7_open s m args below meth c (MQ below (ml_Qv base D cA n Q) args s 0 0 (ml_A base)) base D cA 0 0 n n σ (F0 m 0 ls []) := by
  unfold f_X7_open_u0 at hw
  refine ml_iload_n (pc := 0) X hl 1 rfl rfl dX7_open_0 ?_
  refine ml_aload_n (pc := 1) X hl 0 rfl rfl dX7_open_1 ?_
  refine gf_X7_11 (pc := 2) X (ml_c55 hn) dX7_open_2 (fun r1 => ?_)
  have hw := hw r1
  refine ml_icmp_ne (pc := 5) (tgt := 9) X h_x1 r1 dX7_open_5 (by decide) (fun c2 => ?_) (fun c2 => ?_)
  · have hw := hw.1 c2
    refine ml_aload_n (pc := 9) X hl 0 rfl rfl dX7_open_9 ?_
    refine ml_iload_n (pc := 10) X hl 1 rfl rfl dX7_open_10 ?_
    refine pf_X7_11 (pc := 11) X (ml_c55 hn) h_x1 dX7_open_11 (fun σ3 g3 => ?_)
    have hw := hw σ3 g3
    refine ml_aload_n (pc := 14) X hl 0 rfl rfl dX7_open_14 ?_
    refine ml_iconst (pc := 15) X dX7_open_15 ?_
    refine pf_X7_15 (pc := 16) X (ml_c55 hn) ⟨by decide, by decide⟩ dX7_open_16 (fun σ4 g4 => ?_)
    have hw := hw σ4 g4
    refine ml_iconst (pc := 19) X dX7_open_19 ?_
    refine ml_istore (pc := 20) X hl (by decide) (lst' := [(4, .int (Int32.ofInt 0)), (0, .ref (base + (55 : Int).toNat)), (1, .int (Int32.ofInt x1)), (2, .ref (base + (114 : Int).toNat)), (3, .int (Int32.ofInt x3))]) rfl dX7_open_20 (fun ls hl => ?_)
    obtain ⟨N0, hw⟩ := hw
    exact u_X7_open_22 X hn (fun σ x3 h_x3 ls hl hw => u_X7_open_74 X hn σ x3 h_x3 ls hl hw) N0 σ4 x1 x3 0 h_x1 h_x3 ⟨by decide, by decide⟩ _ (lv_sub hl [1, 2, 3, 4, 0] rfl) hw
  · have hw := hw.2 c2
    exact ml_vret (pc := 8) X hw dX7_open_8
set_option maxRecDepth 100000 in
theorem c_X7_open (l : Launch) (base : Nat) (D : va_G) (cA : Nat → ClassId) (n : Nat) (hn : 214 ≤ n) (σ : ml_St) (x1 : Int) (x3 : Int) (h_x1 : I32 x1) (h_x3 : I32 x3) (Q : ml_St → Prop) (hw : f_X7_open σ x1 x3 Q) : Met l yX7_open (Cond.code yX7_open cX7_open 5 none :: ml_T) rm_X7_open (va_Pc [.ref (base + (55 : Int).toNat), .int (Int32.ofInt x1), .ref (base + (114 : Int).toNat), .int (Int32.ofInt x3)] (ml_U base D cA n σ)) (ml_Qv base D cA n Q) 0 0 (ml_A base) := by
  refine Met.ofW (cc := cX7_open) (maxL := 5) (ret := none) (by decide) rfl ?_
  intro p e s m args below meth c s₁ B hml hv
  obtain ⟨rfl, hP, hK, hok, hro⟩ := hv
  have X : ml_X p s m c meth _ D cA cX7_open 5 RX7 none := ⟨B.exec, B.bytes, hml, findClass_of_methodNamed B.named, fun w hw => atoms_spec (ws := Cond.code yX7_open cX7_open 5 none :: ml_T) B.pre w (List.mem_cons_of_mem _ hw), hK, B.notSynchronized, B.returns⟩
  have hl := lv_entry [.ref (base + (55 : Int).toNat), .int (Int32.ofInt x1), .ref (base + (114 : Int).toNat), .int (Int32.ofInt x3)] (n := 5) (Nat.le_of_ble_eq_true rfl)
  rw [lg_entry_eq]
  generalize (lg_sl [.ref (base + (55 : Int).toNat), .int (Int32.ofInt x1), .ref (base + (114 : Int).toNat), .int (Int32.ofInt x3)] ++ List.replicate (5 - (lg_sl [.ref (base + (55 : Int).toNat), .int (Int32.ofInt x1), .ref (base + (114 : Int).toNat), .int (Int32.ofInt x3)]).length) Slot.unset).toArray = ls at hl ⊢
  have hl : lv_has ls 5 [(0, .ref (base + (55 : Int).toNat)), (1, .int (Int32.ofInt x1)), (2, .ref (base + (114 : Int).toNat)), (3, .int (Int32.ofInt x3))] := hl
  unfold f_X7_open at hw
  exact u_X7_open_0 X hn σ x1 x3 h_x1 h_x3 _ (lv_sub hl [0, 1, 2, 3] rfl) hw s.heap [] hP va_S.rf hok hro
