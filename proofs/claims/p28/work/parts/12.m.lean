theorem dX11_caps_0 : decode cX11_caps 0 = .ok (.aload_n 0, 1) := by decide +kernel
theorem dX11_caps_1 : decode cX11_caps 1 = .ok (.getfield 82, 3) := by decide +kernel
theorem dX11_caps_4 : decode cX11_caps 4 = .ok (.iconst 2, 1) := by decide +kernel
theorem dX11_caps_5 : decode cX11_caps 5 = .ok (.irem, 1) := by decide +kernel
theorem dX11_caps_6 : decode cX11_caps 6 = .ok (.ifCond .ne 19, 3) := by decide +kernel
theorem dX11_caps_9 : decode cX11_caps 9 = .ok (.aload_n 0, 1) := by decide +kernel
theorem dX11_caps_10 : decode cX11_caps 10 = .ok (.getfield 10, 3) := by decide +kernel
theorem dX11_caps_13 : decode cX11_caps 13 = .ok (.getfield 94, 3) := by decide +kernel
theorem dX11_caps_16 : decode cX11_caps 16 = .ok (.iconst 2, 1) := by decide +kernel
theorem dX11_caps_17 : decode cX11_caps 17 = .ok (.aload_n 0, 1) := by decide +kernel
theorem dX11_caps_18 : decode cX11_caps 18 = .ok (.getfield 82, 3) := by decide +kernel
theorem dX11_caps_21 : decode cX11_caps 21 = .ok (.imul, 1) := by decide +kernel
theorem dX11_caps_22 : decode cX11_caps 22 = .ok (.if_icmp .ge 5, 3) := by decide +kernel
theorem dX11_caps_25 : decode cX11_caps 25 = .ok (.iconst 0, 1) := by decide +kernel
theorem dX11_caps_26 : decode cX11_caps 26 = .ok (.ireturn, 1) := by decide +kernel
theorem dX11_caps_27 : decode cX11_caps 27 = .ok (.aload_n 0, 1) := by decide +kernel
theorem dX11_caps_28 : decode cX11_caps 28 = .ok (.getfield 19, 3) := by decide +kernel
theorem dX11_caps_31 : decode cX11_caps 31 = .ok (.aload_n 0, 1) := by decide +kernel
theorem dX11_caps_32 : decode cX11_caps 32 = .ok (.getfield 10, 3) := by decide +kernel
theorem dX11_caps_35 : decode cX11_caps 35 = .ok (.aload_n 0, 1) := by decide +kernel
theorem dX11_caps_36 : decode cX11_caps 36 = .ok (.getfield 82, 3) := by decide +kernel
theorem dX11_caps_39 : decode cX11_caps 39 = .ok (.invokevirtual 108, 3) := by decide +kernel
theorem dX11_caps_42 : decode cX11_caps 42 = .ok (.istore_n 1, 1) := by decide +kernel
theorem dX11_caps_43 : decode cX11_caps 43 = .ok (.aload_n 0, 1) := by decide +kernel
theorem dX11_caps_44 : decode cX11_caps 44 = .ok (.getfield 10, 3) := by decide +kernel
theorem dX11_caps_47 : decode cX11_caps 47 = .ok (.iconst 0, 1) := by decide +kernel
theorem dX11_caps_48 : decode cX11_caps 48 = .ok (.putfield 94, 3) := by decide +kernel
theorem dX11_caps_51 : decode cX11_caps 51 = .ok (.iload_n 1, 1) := by decide +kernel
theorem dX11_caps_52 : decode cX11_caps 52 = .ok (.ireturn, 1) := by decide +kernel
def f_X11_caps_u25 (Q : Int → ml_St → Prop) (σ : ml_St) : Prop :=
Q 0 σ
def f_X11_caps_u0 (Q : Int → ml_St → Prop) (σ : ml_St) : Prop :=
∀ _ : I32 (σ 1 11),
(2 : Int) ≠ 0 ∧ I32 (Int.tmod (σ 1 11) 2) ∧
(((Int.tmod (σ 1 11) 2) : Int) ≠ 0 →
f_X11_caps_u25 Q σ) ∧
((Int.tmod (σ 1 11) 2) = 0 →
∀ _ : I32 (σ 2 1),
∀ _ : I32 (σ 1 11),
I32 (2 * (σ 1 11)) ∧
((2 * (σ 1 11)) ≤ ((σ 2 1) : Int) →
∀ _ : I32 (σ 1 11),
f_X0_goByCaps σ (σ 1 11) (fun r9 σ9 => ∀ _ : ml_B r9,
∀ σ10, σ10 = ml_up σ9 2 1 0 →
Q r9 σ10)) ∧
(¬ ((2 * (σ 1 11)) ≤ ((σ 2 1) : Int)) →
f_X11_caps_u25 Q σ))
def f_X11_caps (σ : ml_St) (Q : Int → ml_St → Prop) : Prop := f_X11_caps_u0 Q σ
def rm_X11_caps : Room := { frames := 2, cells := 0, slots := 0, locals := 84 }
set_option maxRecDepth 100000 in
set_option maxHeartbeats 4000000 in
theorem u_X11_caps_25 {p : Program} {e : Env} {s : State} {m : MethodId} {args : Array Value} {below : List Frame} {meth : Method} {c : Code} {base : Nat} {D : va_G} {cA : Nat → ClassId} {n : Nat} {l : Launch} {Q : Int → ml_St → Prop} (X : ml_X p s m c meth args D cA cX11_caps 2 RX11 (some .boolean)) (hn : 214 ≤ n) (σ : ml_St) (ls : Array Slot) (hl : lv_has ls 2 []) (hw : f_X11_caps_u25 Q σ) : ml_V p l e rm_X11_caps s m args below meth c (MQ below (ml_Qi ml_B base D cA n Q) args s 0 0 (ml_A base)) base D cA 0 0 n n σ (F0 m 25 ls []) := by
  unfold f_X11_caps_u25 at hw
  refine ml_iconst (pc := 25) X dX11_caps_25 ?_
  exact ml_zret (pc := 26) X ⟨by decide, by decide⟩ hw dX11_caps_26
set_option maxRecDepth 100000 in
set_option maxHeartbeats 4000000 in
theorem u_X11_caps_0 {p : Program} {e : Env} {s : State} {m : MethodId} {args : Array Value} {below : List Frame} {meth : Method} {c : Code} {base : Nat} {D : va_G} {cA : Nat → ClassId} {n : Nat} {l : Launch} {Q : Int → ml_St → Prop} (X : ml_X p s m c meth args D cA cX11_caps 2 RX11 (some .boolean)) (hn : 214 ≤ n) (σ : ml_St) (ls : Array Slot) (hl : lv_has ls 2 [(0, .ref (base + (1 : Int).toNat))]) (hw : f_X11_caps_u0 Q σ) : ml_V p l e rm_X11_caps s m args below meth c (MQ below (ml_Qi ml_B base D cA n Q) args s 0 0 (ml_A base)) base D cA 0 0 n n σ (F0 m 0 ls []) := by
  unfold f_X11_caps_u0 at hw
  refine ml_aload_n (pc := 0) X hl 0 rfl rfl dX11_caps_0 ?_
  refine gf_X11_82 (pc := 1) X (ml_c1 hn) dX11_caps_1 (fun r1 => ?_)
  have hw := hw r1
  refine ml_iconst (pc := 4) X dX11_caps_4 ?_
  obtain ⟨z2, v2, hw⟩ := hw
  refine ml_irem (pc := 5) X r1 ⟨by decide, by decide⟩ z2 dX11_caps_5 ?_
  refine ml_if_ne (pc := 6) (tgt := 25) X v2 dX11_caps_6 (by decide) (fun c3 => ?_) (fun c3 => ?_)
  · have hw := hw.1 c3
    exact u_X11_caps_25 X hn σ   _ (lv_sub hl [] rfl) hw
  · have hw := hw.2 c3
    refine ml_aload_n (pc := 9) X hl 0 rfl rfl dX11_caps_9 ?_
    refine gf_X11_10 (pc := 10) X (ml_c1 hn) dX11_caps_10 ?_
    refine gf_X11_94 (pc := 13) X (ml_c2 hn) dX11_caps_13 (fun r4 => ?_)
    have hw := hw r4
    refine ml_iconst (pc := 16) X dX11_caps_16 ?_
    refine ml_aload_n (pc := 17) X hl 0 rfl rfl dX11_caps_17 ?_
    refine gf_X11_82 (pc := 18) X (ml_c1 hn) dX11_caps_18 (fun r5 => ?_)
    have hw := hw r5
    obtain ⟨v6, hw⟩ := hw
    refine ml_imul (pc := 21) X dX11_caps_21 ?_
    refine ml_icmp_ge (pc := 22) (tgt := 27) X r4 v6 dX11_caps_22 (by decide) (fun c7 => ?_) (fun c7 => ?_)
    · have hw := hw.1 c7
      refine ml_aload_n (pc := 27) X hl 0 rfl rfl dX11_caps_27 ?_
      refine gf_X11_19 (pc := 28) X (ml_c1 hn) dX11_caps_28 ?_
      refine ml_aload_n (pc := 31) X hl 0 rfl rfl dX11_caps_31 ?_
      refine gf_X11_10 (pc := 32) X (ml_c1 hn) dX11_caps_32 ?_
      refine ml_aload_n (pc := 35) X hl 0 rfl rfl dX11_caps_35 ?_
      refine gf_X11_82 (pc := 36) X (ml_c1 hn) dX11_caps_36 (fun r8 => ?_)
      have hw := hw r8
      refine ml_callzV (pc := 39) (rest := []) X [.ref (base + (2 : Int).toNat), .int (Int32.ofInt (σ 1 11))] (by decide) rfl (ml_c4 hn) (c_X0_goByCaps l base D cA n hn σ (σ 1 11) r8 _ hw) cv_X11_108 ⟨rfl, rfl⟩ ⟨by decide, by decide⟩ rfl rfl hl (Nat.le_of_ble_eq_true rfl) ⟨Nat.zero_le _, Nat.zero_le _⟩ dX11_caps_39 (fun r9 σ9 t9 hw => ?_)
      have hw := hw t9
      refine ml_istore_n (pc := 42) X rfl hl (by decide) (lst' := [(1, .int (Int32.ofInt r9)), (0, .ref (base + (1 : Int).toNat))]) rfl dX11_caps_42 (fun ls hl => ?_)
      refine ml_aload_n (pc := 43) X hl 1 rfl rfl dX11_caps_43 ?_
      refine gf_X11_10 (pc := 44) X (ml_c1 hn) dX11_caps_44 ?_
      refine ml_iconst (pc := 47) X dX11_caps_47 ?_
      refine pf_X11_94 (pc := 48) X (ml_c2 hn) ⟨by decide, by decide⟩ dX11_caps_48 (fun σ10 g10 => ?_)
      have hw := hw σ10 g10
      refine ml_iload_n (pc := 51) X hl 0 rfl rfl dX11_caps_51 ?_
      exact ml_zret (pc := 52) X t9 hw dX11_caps_52
    · have hw := hw.2 c7
      exact u_X11_caps_25 X hn σ   _ (lv_sub hl [] rfl) hw
set_option maxRecDepth 100000 in
theorem c_X11_caps (l : Launch) (base : Nat) (D : va_G) (cA : Nat → ClassId) (n : Nat) (hn : 214 ≤ n) (σ : ml_St) (Q : Int → ml_St → Prop) (hw : f_X11_caps σ Q) : Met l yX11_caps (Cond.code yX11_caps cX11_caps 2 (some .boolean) :: ml_T) rm_X11_caps (va_Pc [.ref (base + (1 : Int).toNat)] (ml_U base D cA n σ)) (ml_Qi ml_B base D cA n Q) 0 0 (ml_A base) := by
  refine Met.ofW (cc := cX11_caps) (maxL := 2) (ret := (some .boolean)) (by decide) rfl ?_
  intro p e s m args below meth c s₁ B hml hv
  obtain ⟨rfl, hP, hK, hok, hro⟩ := hv
  have X : ml_X p s m c meth _ D cA cX11_caps 2 RX11 (some .boolean) := ⟨B.exec, B.bytes, hml, findClass_of_methodNamed B.named, fun w hw => atoms_spec (ws := Cond.code yX11_caps cX11_caps 2 (some .boolean) :: ml_T) B.pre w (List.mem_cons_of_mem _ hw), hK, B.notSynchronized, B.returns⟩
  have hl := lv_entry [.ref (base + (1 : Int).toNat)] (n := 2) (Nat.le_of_ble_eq_true rfl)
  rw [lg_entry_eq]
  generalize (lg_sl [.ref (base + (1 : Int).toNat)] ++ List.replicate (2 - (lg_sl [.ref (base + (1 : Int).toNat)]).length) Slot.unset).toArray = ls at hl ⊢
  have hl : lv_has ls 2 [(0, .ref (base + (1 : Int).toNat))] := hl
  unfold f_X11_caps at hw
  exact u_X11_caps_0 X hn σ  _ (lv_sub hl [0] rfl) hw s.heap [] hP va_S.rf hok hro
theorem dX11_signs_0 : decode cX11_signs 0 = .ok (.aload_n 0, 1) := by decide +kernel
theorem dX11_signs_1 : decode cX11_signs 1 = .ok (.iload_n 1, 1) := by decide +kernel
theorem dX11_signs_2 : decode cX11_signs 2 = .ok (.invokevirtual 104, 3) := by decide +kernel
theorem dX11_signs_5 : decode cX11_signs 5 = .ok (.ifCond .eq 18, 3) := by decide +kernel
theorem dX11_signs_8 : decode cX11_signs 8 = .ok (.aload_n 0, 1) := by decide +kernel
theorem dX11_signs_9 : decode cX11_signs 9 = .ok (.getfield 67, 3) := by decide +kernel
theorem dX11_signs_12 : decode cX11_signs 12 = .ok (.iload_n 1, 1) := by decide +kernel
theorem dX11_signs_13 : decode cX11_signs 13 = .ok (.aaload, 1) := by decide +kernel
theorem dX11_signs_14 : decode cX11_signs 14 = .ok (.getfield 112, 3) := by decide +kernel
theorem dX11_signs_17 : decode cX11_signs 17 = .ok (.getfield 115, 3) := by decide +kernel
theorem dX11_signs_20 : decode cX11_signs 20 = .ok (.goto 6, 3) := by decide +kernel
theorem dX11_signs_23 : decode cX11_signs 23 = .ok (.ldc2_w 119, 3) := by decide +kernel
theorem dX11_signs_26 : decode cX11_signs 26 = .ok (.lreturn, 1) := by decide +kernel
def f_X11_signs_u26 (Q : Int → ml_St → Prop) (σ : ml_St) (s0 : Int) : Prop :=
Q s0 σ
def f_X11_signs_u0 (Q : Int → ml_St → Prop) (σ : ml_St) (x1 : Int) : Prop :=
f_X11_isTold σ x1 (fun r1 σ1 => ∀ _ : ml_B r1,
(r1 = 0 →
f_X11_signs_u26 Q σ1 (-1)) ∧
(r1 ≠ 0 →
(0 : Int) ≤ x1 ∧ (x1 : Int) < 16 ∧
∀ _ : I64 (σ1 ((119 + 6 * x1) + 2) 5),
f_X11_signs_u26 Q σ1 (σ1 ((119 + 6 * x1) + 2) 5)))
def f_X11_signs (σ : ml_St) (x1 : Int) (Q : Int → ml_St → Prop) : Prop := f_X11_signs_u0 Q σ x1
def rm_X11_signs : Room := { frames := 1, cells := 0, slots := 0, locals := 21 }
set_option maxRecDepth 100000 in
set_option maxHeartbeats 4000000 in
theorem u_X11_signs_26 {p : Program} {e : Env} {s : State} {m : MethodId} {args : Array Value} {below : List Frame} {meth : Method} {c : Code} {base : Nat} {D : va_G} {cA : Nat → ClassId} {n : Nat} {l : Launch} {Q : Int → ml_St → Prop} (X : ml_X p s m c meth args D cA cX11_signs 2 RX11 (some .long)) (hn : 214 ≤ n) (σ : ml_St) (s0 : Int) (h_s0 : I64 s0) (ls : Array Slot) (hl : lv_has ls 2 []) (hw : f_X11_signs_u26 Q σ s0) : ml_V p l e rm_X11_signs s m args below meth c (MQ below (ml_Ql base D cA n Q) args s 0 0 (ml_A base)) base D cA 0 0 n n σ (F0 m 26 ls [.long (Int64.ofInt s0)]) := by
  unfold f_X11_signs_u26 at hw
  exact ml_lret (pc := 26) X h_s0 hw dX11_signs_26
set_option maxRecDepth 100000 in
set_option maxHeartbeats 4000000 in
theorem u_X11_signs_0 {p : Program} {e : Env} {s : State} {m : MethodId} {args : Array Value} {below : List Frame} {meth : Method} {c : Code} {base : Nat} {D : va_G} {cA : Nat → ClassId} {n : Nat} {l : Launch} {Q : Int → ml_St → Prop} (X : ml_X p s m c meth args D cA cX11_signs 2 RX11 (some .long)) (hn : 214 ≤ n) (σ : ml_St) (x1 : Int) (h_x1 : I32 x1) (ls : Array Slot) (hl : lv_has ls 2 [(0, .ref (base + (1 : Int).toNat)), (1, .int (Int32.ofInt x1))]) (hw : f_X11_signs_u0 Q σ x1) : ml_V p l e rm_X11_signs s m args below meth c (MQ below (ml_Ql base D cA n Q) args s 0 0 (ml_A base)) base D cA 0 0 n n σ (F0 m 0 ls []) := by
  unfold f_X11_signs_u0 at hw
  refine ml_aload_n (pc := 0) X hl 0 rfl rfl dX11_signs_0 ?_
  refine ml_iload_n (pc := 1) X hl 1 rfl rfl dX11_signs_1 ?_
  refine ml_callzV (pc := 2) (rest := []) X [.int (Int32.ofInt x1)] (by decide) rfl (ml_c1 hn) (c_X11_isTold l base D cA n hn σ x1 h_x1 _ hw) cv_X11_104 ⟨rfl, rfl⟩ ⟨by decide, by decide⟩ rfl rfl hl (Nat.le_of_ble_eq_true rfl) ⟨Nat.zero_le _, Nat.zero_le _⟩ dX11_signs_2 (fun r1 σ1 t1 hw => ?_)
  have hw := hw t1
  refine ml_if_eq (pc := 5) (tgt := 23) X t1.i dX11_signs_5 (by decide) (fun c2 => ?_) (fun c2 => ?_)
  · have hw := hw.1 c2
    refine ml_ldc2 (pc := 23) (v := (-1)) X dX11_signs_23 tc_3_125 ?_
    exact u_X11_signs_26 X hn σ1 (-1) ⟨by decide, by decide⟩ _ (lv_sub hl [] rfl) hw
  · have hw := hw.2 c2
    refine ml_aload_n (pc := 8) X hl 0 rfl rfl dX11_signs_8 ?_
    refine gf_X11_67 (pc := 9) X (ml_c1 hn) dX11_signs_9 ?_
    refine ml_iload_n (pc := 12) X hl 1 rfl rfl dX11_signs_12 ?_
    obtain ⟨a3, b3, hw⟩ := hw
    refine ml_aald_words (pc := 13) X hn a3 b3 dX11_signs_13 ?_
    refine gf_X11_112 (pc := 14) X (ml_at_words hn a3 b3) dX11_signs_14 ?_
    refine gf_X11_115 (pc := 17) X (ml_r20_2 hn (ml_at_words hn a3 b3)) dX11_signs_17 (fun r4 => ?_)
    have hw := hw r4
    refine ml_goto (pc := 20) (tgt := 26) X dX11_signs_20 (by decide) ?_
    exact u_X11_signs_26 X hn σ1 (σ1 ((119 + 6 * x1) + 2) 5) r4 _ (lv_sub hl [] rfl) hw
set_option maxRecDepth 100000 in
theorem c_X11_signs (l : Launch) (base : Nat) (D : va_G) (cA : Nat → ClassId) (n : Nat) (hn : 214 ≤ n) (σ : ml_St) (x1 : Int) (h_x1 : I32 x1) (Q : Int → ml_St → Prop) (hw : f_X11_signs σ x1 Q) : Met l yX11_signs (Cond.code yX11_signs cX11_signs 2 (some .long) :: ml_T) rm_X11_signs (va_Pc [.ref (base + (1 : Int).toNat), .int (Int32.ofInt x1)] (ml_U base D cA n σ)) (ml_Ql base D cA n Q) 0 0 (ml_A base) := by
  refine Met.ofW (cc := cX11_signs) (maxL := 2) (ret := (some .long)) (by decide) rfl ?_
  intro p e s m args below meth c s₁ B hml hv
  obtain ⟨rfl, hP, hK, hok, hro⟩ := hv
  have X : ml_X p s m c meth _ D cA cX11_signs 2 RX11 (some .long) := ⟨B.exec, B.bytes, hml, findClass_of_methodNamed B.named, fun w hw => atoms_spec (ws := Cond.code yX11_signs cX11_signs 2 (some .long) :: ml_T) B.pre w (List.mem_cons_of_mem _ hw), hK, B.notSynchronized, B.returns⟩
  have hl := lv_entry [.ref (base + (1 : Int).toNat), .int (Int32.ofInt x1)] (n := 2) (Nat.le_of_ble_eq_true rfl)
  rw [lg_entry_eq]
  generalize (lg_sl [.ref (base + (1 : Int).toNat), .int (Int32.ofInt x1)] ++ List.replicate (2 - (lg_sl [.ref (base + (1 : Int).toNat), .int (Int32.ofInt x1)]).length) Slot.unset).toArray = ls at hl ⊢
  have hl : lv_has ls 2 [(0, .ref (base + (1 : Int).toNat)), (1, .int (Int32.ofInt x1))] := hl
  unfold f_X11_signs at hw
  exact u_X11_signs_0 X hn σ x1 h_x1 _ (lv_sub hl [0, 1] rfl) hw s.heap [] hP va_S.rf hok hro
theorem dX11_isEnd_0 : decode cX11_isEnd 0 = .ok (.iload_n 1, 1) := by decide +kernel
theorem dX11_isEnd_1 : decode cX11_isEnd 1 = .ok (.ifCond .lt 17, 3) := by decide +kernel
theorem dX11_isEnd_4 : decode cX11_isEnd 4 = .ok (.iload_n 1, 1) := by decide +kernel
theorem dX11_isEnd_5 : decode cX11_isEnd 5 = .ok (.iconst 2, 1) := by decide +kernel
theorem dX11_isEnd_6 : decode cX11_isEnd 6 = .ok (.aload_n 0, 1) := by decide +kernel
theorem dX11_isEnd_7 : decode cX11_isEnd 7 = .ok (.getfield 82, 3) := by decide +kernel
theorem dX11_isEnd_10 : decode cX11_isEnd 10 = .ok (.imul, 1) := by decide +kernel
theorem dX11_isEnd_11 : decode cX11_isEnd 11 = .ok (.if_icmp .ge 7, 3) := by decide +kernel
theorem dX11_isEnd_14 : decode cX11_isEnd 14 = .ok (.iconst 1, 1) := by decide +kernel
theorem dX11_isEnd_15 : decode cX11_isEnd 15 = .ok (.goto 4, 3) := by decide +kernel
theorem dX11_isEnd_18 : decode cX11_isEnd 18 = .ok (.iconst 0, 1) := by decide +kernel
theorem dX11_isEnd_19 : decode cX11_isEnd 19 = .ok (.ireturn, 1) := by decide +kernel
def f_X11_isEnd_u19 (Q : Int → ml_St → Prop) (σ : ml_St) (s0 : Int) : Prop :=
Q s0 σ
def f_X11_isEnd_u18 (Q : Int → ml_St → Prop) (σ : ml_St) : Prop :=
f_X11_isEnd_u19 Q σ 0
def f_X11_isEnd_u0 (Q : Int → ml_St → Prop) (σ : ml_St) (x1 : Int) : Prop :=
(x1 < 0 →
f_X11_isEnd_u18 Q σ) ∧
(¬ (x1 < 0) →
∀ _ : I32 (σ 1 11),
I32 (2 * (σ 1 11)) ∧
((2 * (σ 1 11)) ≤ x1 →
f_X11_isEnd_u18 Q σ) ∧
(¬ ((2 * (σ 1 11)) ≤ x1) →
f_X11_isEnd_u19 Q σ 1))
def f_X11_isEnd (σ : ml_St) (x1 : Int) (Q : Int → ml_St → Prop) : Prop := f_X11_isEnd_u0 Q σ x1
def rm_X11_isEnd : Room := { frames := 0, cells := 0, slots := 0, locals := 0 }
set_option maxRecDepth 100000 in
set_option maxHeartbeats 4000000 in
theorem u_X11_isEnd_19 {p : Program} {e : Env} {s : State} {m : MethodId} {args : Array Value} {below : List Frame} {meth : Method} {c : Code} {base : Nat} {D : va_G} {cA : Nat → ClassId} {n : Nat} {l : Launch} {Q : Int → ml_St → Prop} (X : ml_X p s m c meth args D cA cX11_isEnd 2 RX11 (some .boolean)) (hn : 214 ≤ n) (σ : ml_St) (s0 : Int) (h_s0 : ml_B s0) (ls : Array Slot) (hl : lv_has ls 2 []) (hw : f_X11_isEnd_u19 Q σ s0) : ml_V p l e rm_X11_isEnd s m args below meth c (MQ below (ml_Qi ml_B base D cA n Q) args s 0 0 (ml_A base)) base D cA 0 0 n n σ (F0 m 19 ls [.int (Int32.ofInt s0)]) := by
  unfold f_X11_isEnd_u19 at hw
  exact ml_zret (pc := 19) X h_s0 hw dX11_isEnd_19
set_option maxRecDepth 100000 in
set_option maxHeartbeats 4000000 in
theorem u_X11_isEnd_18 {p : Program} {e : Env} {s : State} {m : MethodId} {args : Array Value} {below : List Frame} {meth : Method} {c : Code} {base : Nat} {D : va_G} {cA : Nat → ClassId} {n : Nat} {l : Launch} {Q : Int → ml_St → Prop} (X : ml_X p s m c meth args D cA cX11_isEnd 2 RX11 (some .boolean)) (hn : 214 ≤ n) (σ : ml_St) (ls : Array Slot) (hl : lv_has ls 2 []) (hw : f_X11_isEnd_u18 Q σ) : ml_V p l e rm_X11_isEnd s m args below meth c (MQ below (ml_Qi ml_B base D cA n Q) args s 0 0 (ml_A base)) base D cA 0 0 n n σ (F0 m 18 ls []) := by
  unfold f_X11_isEnd_u18 at hw
  refine ml_iconst (pc := 18) X dX11_isEnd_18 ?_
  exact u_X11_isEnd_19 X hn σ 0 ⟨by decide, by decide⟩ _ (lv_sub hl [] rfl) hw
set_option maxRecDepth 100000 in
set_option maxHeartbeats 4000000 in
theorem u_X11_isEnd_0 {p : Program} {e : Env} {s : State} {m : MethodId} {args : Array Value} {below : List Frame} {meth : Method} {c : Code} {base : Nat} {D : va_G} {cA : Nat → ClassId} {n : Nat} {l : Launch} {Q : Int → ml_St → Prop} (X : ml_X p s m c meth args D cA cX11_isEnd 2 RX11 (some .boolean)) (hn : 214 ≤ n) (σ : ml_St) (x1 : Int) (h_x1 : I32 x1) (ls : Array Slot) (hl : lv_has ls 2 [(0, .ref (base + (1 : Int).toNat)), (1, .int (Int32.ofInt x1))]) (hw : f_X11_isEnd_u0 Q σ x1) : ml_V p l e rm_X11_isEnd s m args below meth c (MQ below (ml_Qi ml_B base D cA n Q) args s 0 0 (ml_A base)) base D cA 0 0 n n σ (F0 m 0 ls []) := by
  unfold f_X11_isEnd_u0 at hw
  refine ml_iload_n (pc := 0) X hl 1 rfl rfl dX11_isEnd_0 ?_
  refine ml_if_lt (pc := 1) (tgt := 18) X h_x1 dX11_isEnd_1 (by decide) (fun c1 => ?_) (fun c1 => ?_)
  · have hw := hw.1 c1
    exact u_X11_isEnd_18 X hn σ   _ (lv_sub hl [] rfl) hw
  · have hw := hw.2 c1
    refine ml_iload_n (pc := 4) X hl 1 rfl rfl dX11_isEnd_4 ?_
    refine ml_iconst (pc := 5) X dX11_isEnd_5 ?_
    refine ml_aload_n (pc := 6) X hl 0 rfl rfl dX11_isEnd_6 ?_
    refine gf_X11_82 (pc := 7) X (ml_c1 hn) dX11_isEnd_7 (fun r2 => ?_)
    have hw := hw r2
    obtain ⟨v3, hw⟩ := hw
    refine ml_imul (pc := 10) X dX11_isEnd_10 ?_
    refine ml_icmp_ge (pc := 11) (tgt := 18) X h_x1 v3 dX11_isEnd_11 (by decide) (fun c4 => ?_) (fun c4 => ?_)
    · have hw := hw.1 c4
      exact u_X11_isEnd_18 X hn σ   _ (lv_sub hl [] rfl) hw
    · have hw := hw.2 c4
      refine ml_iconst (pc := 14) X dX11_isEnd_14 ?_
      refine ml_goto (pc := 15) (tgt := 19) X dX11_isEnd_15 (by decide) ?_
      exact u_X11_isEnd_19 X hn σ 1 ⟨by decide, by decide⟩ _ (lv_sub hl [] rfl) hw
set_option maxRecDepth 100000 in
theorem c_X11_isEnd (l : Launch) (base : Nat) (D : va_G) (cA : Nat → ClassId) (n : Nat) (hn : 214 ≤ n) (σ : ml_St) (x1 : Int) (h_x1 : I32 x1) (Q : Int → ml_St → Prop) (hw : f_X11_isEnd σ x1 Q) : Met l yX11_isEnd (Cond.code yX11_isEnd cX11_isEnd 2 (some .boolean) :: ml_T) rm_X11_isEnd (va_Pc [.ref (base + (1 : Int).toNat), .int (Int32.ofInt x1)] (ml_U base D cA n σ)) (ml_Qi ml_B base D cA n Q) 0 0 (ml_A base) := by
  refine Met.ofW (cc := cX11_isEnd) (maxL := 2) (ret := (some .boolean)) (by decide) rfl ?_
  intro p e s m args below meth c s₁ B hml hv
  obtain ⟨rfl, hP, hK, hok, hro⟩ := hv
  have X : ml_X p s m c meth _ D cA cX11_isEnd 2 RX11 (some .boolean) := ⟨B.exec, B.bytes, hml, findClass_of_methodNamed B.named, fun w hw => atoms_spec (ws := Cond.code yX11_isEnd cX11_isEnd 2 (some .boolean) :: ml_T) B.pre w (List.mem_cons_of_mem _ hw), hK, B.notSynchronized, B.returns⟩
  have hl := lv_entry [.ref (base + (1 : Int).toNat), .int (Int32.ofInt x1)] (n := 2) (Nat.le_of_ble_eq_true rfl)
  rw [lg_entry_eq]
  generalize (lg_sl [.ref (base + (1 : Int).toNat), .int (Int32.ofInt x1)] ++ List.replicate (2 - (lg_sl [.ref (base + (1 : Int).toNat), .int (Int32.ofInt x1)]).length) Slot.unset).toArray = ls at hl ⊢
  have hl : lv_has ls 2 [(0, .ref (base + (1 : Int).toNat)), (1, .int (Int32.ofInt x1))] := hl
  unfold f_X11_isEnd at hw
  exact u_X11_isEnd_0 X hn σ x1 h_x1 _ (lv_sub hl [0, 1] rfl) hw s.heap [] hP va_S.rf hok hro
theorem dX11_isMade_0 : decode cX11_isMade 0 = .ok (.aload_n 0, 1) := by decide +kernel
theorem dX11_isMade_1 : decode cX11_isMade 1 = .ok (.iload_n 1, 1) := by decide +kernel
theorem dX11_isMade_2 : decode cX11_isMade 2 = .ok (.invokevirtual 104, 3) := by decide +kernel
theorem dX11_isMade_5 : decode cX11_isMade 5 = .ok (.ifCond .eq 22, 3) := by decide +kernel
theorem dX11_isMade_8 : decode cX11_isMade 8 = .ok (.aload_n 0, 1) := by decide +kernel
theorem dX11_isMade_9 : decode cX11_isMade 9 = .ok (.getfield 67, 3) := by decide +kernel
theorem dX11_isMade_12 : decode cX11_isMade 12 = .ok (.iload_n 1, 1) := by decide +kernel
theorem dX11_isMade_13 : decode cX11_isMade 13 = .ok (.aaload, 1) := by decide +kernel
theorem dX11_isMade_14 : decode cX11_isMade 14 = .ok (.getfield 112, 3) := by decide +kernel
theorem dX11_isMade_17 : decode cX11_isMade 17 = .ok (.invokevirtual 215, 3) := by decide +kernel
theorem dX11_isMade_20 : decode cX11_isMade 20 = .ok (.ifCond .ne 7, 3) := by decide +kernel
theorem dX11_isMade_23 : decode cX11_isMade 23 = .ok (.iconst 1, 1) := by decide +kernel
theorem dX11_isMade_24 : decode cX11_isMade 24 = .ok (.goto 4, 3) := by decide +kernel
theorem dX11_isMade_27 : decode cX11_isMade 27 = .ok (.iconst 0, 1) := by decide +kernel
theorem dX11_isMade_28 : decode cX11_isMade 28 = .ok (.ireturn, 1) := by decide +kernel
def f_X11_isMade_u28 (Q : Int → ml_St → Prop) (σ : ml_St) (s0 : Int) : Prop :=
Q s0 σ
def f_X11_isMade_u27 (Q : Int → ml_St → Prop) (σ : ml_St) : Prop :=
f_X11_isMade_u28 Q σ 0
def f_X11_isMade_u0 (Q : Int → ml_St → Prop) (σ : ml_St) (x1 : Int) : Prop :=
f_X11_isTold σ x1 (fun r1 σ1 => ∀ _ : ml_B r1,
(r1 = 0 →
f_X11_isMade_u27 Q σ1) ∧
(r1 ≠ 0 →
(0 : Int) ≤ x1 ∧ (x1 : Int) < 16 ∧
f_X9_isTooLong σ1 ((119 + 6 * x1) + 2) (fun r4 σ4 => ∀ _ : ml_B r4,
(r4 ≠ 0 →
f_X11_isMade_u27 Q σ4) ∧
(r4 = 0 →
f_X11_isMade_u28 Q σ4 1))))
def f_X11_isMade (σ : ml_St) (x1 : Int) (Q : Int → ml_St → Prop) : Prop := f_X11_isMade_u0 Q σ x1
def rm_X11_isMade : Room := { frames := 1, cells := 0, slots := 0, locals := 21 }
set_option maxRecDepth 100000 in
set_option maxHeartbeats 4000000 in
theorem u_X11_isMade_28 {p : Program} {e : Env} {s : State} {m : MethodId} {args : Array Value} {below : List Frame} {meth : Method} {c : Code} {base : Nat} {D : va_G} {cA : Nat → ClassId} {n : Nat} {l : Launch} {Q : Int → ml_St → Prop} (X : ml_X p s m c meth args D cA cX11_isMade 2 RX11 (some .boolean)) (hn : 214 ≤ n) (σ : ml_St) (s0 : Int) (h_s0 : ml_B s0) (ls : Array Slot) (hl : lv_has ls 2 []) (hw : f_X11_isMade_u28 Q σ s0) : ml_V p l e rm_X11_isMade s m args below meth c (MQ below (ml_Qi ml_B base D cA n Q) args s 0 0 (ml_A base)) base D cA 0 0 n n σ (F0 m 28 ls [.int (Int32.ofInt s0)]) := by
  unfold f_X11_isMade_u28 at hw
  exact ml_zret (pc := 28) X h_s0 hw dX11_isMade_28
set_option maxRecDepth 100000 in
set_option maxHeartbeats 4000000 in
theorem u_X11_isMade_27 {p : Program} {e : Env} {s : State} {m : MethodId} {args : Array Value} {below : List Frame} {meth : Method} {c : Code} {base : Nat} {D : va_G} {cA : Nat → ClassId} {n : Nat} {l : Launch} {Q : Int → ml_St → Prop} (X : ml_X p s m c meth args D cA cX11_isMade 2 RX11 (some .boolean)) (hn : 214 ≤ n) (σ : ml_St) (ls : Array Slot) (hl : lv_has ls 2 []) (hw : f_X11_isMade_u27 Q σ) : ml_V p l e rm_X11_isMade s m args below meth c (MQ below (ml_Qi ml_B base D cA n Q) args s 0 0 (ml_A base)) base D cA 0 0 n n σ (F0 m 27 ls []) := by
  unfold f_X11_isMade_u27 at hw
  refine ml_iconst (pc := 27) X dX11_isMade_27 ?_
  exact u_X11_isMade_28 X hn σ 0 ⟨by decide, by decide⟩ _ (lv_sub hl [] rfl) hw
set_option maxRecDepth 100000 in
set_option maxHeartbeats 4000000 in
theorem u_X11_isMade_0 {p : Program} {e : Env} {s : State} {m : MethodId} {args : Array Value} {below : List Frame} {meth : Method} {c : Code} {base : Nat} {D : va_G} {cA : Nat → ClassId} {n : Nat} {l : Launch} {Q : Int → ml_St → Prop} (X : ml_X p s m c meth args D cA cX11_isMade 2 RX11 (some .boolean)) (hn : 214 ≤ n) (σ : ml_St) (x1 : Int) (h_x1 : I32 x1) (ls : Array Slot) (hl : lv_has ls 2 [(0, .ref (base + (1 : Int).toNat)), (1, .int (Int32.ofInt x1))]) (hw : f_X11_isMade_u0 Q σ x1) : ml_V p l e rm_X11_isMade s m args below meth c (MQ below (ml_Qi ml_B base D cA n Q) args s 0 0 (ml_A base)) base D cA 0 0 n n σ (F0 m 0 ls []) := by
  unfold f_X11_isMade_u0 at hw
  refine ml_aload_n (pc := 0) X hl 0 rfl rfl dX11_isMade_0 ?_
  refine ml_iload_n (pc := 1) X hl 1 rfl rfl dX11_isMade_1 ?_
  refine ml_callzV (pc := 2) (rest := []) X [.int (Int32.ofInt x1)] (by decide) rfl (ml_c1 hn) (c_X11_isTold l base D cA n hn σ x1 h_x1 _ hw) cv_X11_104 ⟨rfl, rfl⟩ ⟨by decide, by decide⟩ rfl rfl hl (Nat.le_of_ble_eq_true rfl) ⟨Nat.zero_le _, Nat.zero_le _⟩ dX11_isMade_2 (fun r1 σ1 t1 hw => ?_)
  have hw := hw t1
  refine ml_if_eq (pc := 5) (tgt := 27) X t1.i dX11_isMade_5 (by decide) (fun c2 => ?_) (fun c2 => ?_)
  · have hw := hw.1 c2
    exact u_X11_isMade_27 X hn σ1   _ (lv_sub hl [] rfl) hw
  · have hw := hw.2 c2
    refine ml_aload_n (pc := 8) X hl 0 rfl rfl dX11_isMade_8 ?_
    refine gf_X11_67 (pc := 9) X (ml_c1 hn) dX11_isMade_9 ?_
    refine ml_iload_n (pc := 12) X hl 1 rfl rfl dX11_isMade_12 ?_
    obtain ⟨a3, b3, hw⟩ := hw
    refine ml_aald_words (pc := 13) X hn a3 b3 dX11_isMade_13 ?_
    refine gf_X11_112 (pc := 14) X (ml_at_words hn a3 b3) dX11_isMade_14 ?_
    refine ml_callzV (pc := 17) (rest := []) X [] (by decide) rfl (ml_r20_2 hn (ml_at_words hn a3 b3)) (c_X9_isTooLong l base D cA n hn σ1 ((119 + 6 * x1) + 2) (ml_r20_2 hn (ml_at_words hn a3 b3)) _ hw) cv_X11_215 ⟨rfl, rfl⟩ ⟨by decide, by decide⟩ rfl rfl hl (Nat.le_of_ble_eq_true rfl) ⟨Nat.zero_le _, Nat.zero_le _⟩ dX11_isMade_17 (fun r4 σ4 t4 hw => ?_)
    have hw := hw t4
    refine ml_if_ne (pc := 20) (tgt := 27) X t4.i dX11_isMade_20 (by decide) (fun c5 => ?_) (fun c5 => ?_)
    · have hw := hw.1 c5
      exact u_X11_isMade_27 X hn σ4   _ (lv_sub hl [] rfl) hw
    · have hw := hw.2 c5
      refine ml_iconst (pc := 23) X dX11_isMade_23 ?_
      refine ml_goto (pc := 24) (tgt := 28) X dX11_isMade_24 (by decide) ?_
      exact u_X11_isMade_28 X hn σ4 1 ⟨by decide, by decide⟩ _ (lv_sub hl [] rfl) hw
set_option maxRecDepth 100000 in
theorem c_X11_isMade (l : Launch) (base : Nat) (D : va_G) (cA : Nat → ClassId) (n : Nat) (hn : 214 ≤ n) (σ : ml_St) (x1 : Int) (h_x1 : I32 x1) (Q : Int → ml_St → Prop) (hw : f_X11_isMade σ x1 Q) : Met l yX11_isMade (Cond.code yX11_isMade cX11_isMade 2 (some .boolean) :: ml_T) rm_X11_isMade (va_Pc [.ref (base + (1 : Int).toNat), .int (Int32.ofInt x1)] (ml_U base D cA n σ)) (ml_Qi ml_B base D cA n Q) 0 0 (ml_A base) := by
  refine Met.ofW (cc := cX11_isMade) (maxL := 2) (ret := (some .boolean)) (by decide) rfl ?_
  intro p e s m args below meth c s₁ B hml hv
  obtain ⟨rfl, hP, hK, hok, hro⟩ := hv
  have X : ml_X p s m c meth _ D cA cX11_isMade 2 RX11 (some .boolean) := ⟨B.exec, B.bytes, hml, findClass_of_methodNamed B.named, fun w hw => atoms_spec (ws := Cond.code yX11_isMade cX11_isMade 2 (some .boolean) :: ml_T) B.pre w (List.mem_cons_of_mem _ hw), hK, B.notSynchronized, B.returns⟩
  have hl := lv_entry [.ref (base + (1 : Int).toNat), .int (Int32.ofInt x1)] (n := 2) (Nat.le_of_ble_eq_true rfl)
  rw [lg_entry_eq]
  generalize (lg_sl [.ref (base + (1 : Int).toNat), .int (Int32.ofInt x1)] ++ List.replicate (2 - (lg_sl [.ref (base + (1 : Int).toNat), .int (Int32.ofInt x1)]).length) Slot.unset).toArray = ls at hl ⊢
  have hl : lv_has ls 2 [(0, .ref (base + (1 : Int).toNat)), (1, .int (Int32.ofInt x1))] := hl
  unfold f_X11_isMade at hw
  exact u_X11_isMade_0 X hn σ x1 h_x1 _ (lv_sub hl [0, 1] rfl) hw s.heap [] hP va_S.rf hok hro
theorem dX11_joined_0 : decode cX11_joined 0 = .ok (.aload_n 0, 1) := by decide +kernel
theorem dX11_joined_1 : decode cX11_joined 1 = .ok (.iload_n 1, 1) := by decide +kernel
theorem dX11_joined_2 : decode cX11_joined 2 = .ok (.invokevirtual 121, 3) := by decide +kernel
theorem dX11_joined_5 : decode cX11_joined 5 = .ok (.ifCond .eq 28, 3) := by decide +kernel
theorem dX11_joined_8 : decode cX11_joined 8 = .ok (.aload_n 0, 1) := by decide +kernel
theorem dX11_joined_9 : decode cX11_joined 9 = .ok (.iload_n 2, 1) := by decide +kernel
theorem dX11_joined_10 : decode cX11_joined 10 = .ok (.invokevirtual 124, 3) := by decide +kernel
theorem dX11_joined_13 : decode cX11_joined 13 = .ok (.ifCond .eq 20, 3) := by decide +kernel
theorem dX11_joined_16 : decode cX11_joined 16 = .ok (.aload_n 0, 1) := by decide +kernel
theorem dX11_joined_17 : decode cX11_joined 17 = .ok (.getfield 67, 3) := by decide +kernel
theorem dX11_joined_20 : decode cX11_joined 20 = .ok (.iload_n 1, 1) := by decide +kernel
theorem dX11_joined_21 : decode cX11_joined 21 = .ok (.aaload, 1) := by decide +kernel
theorem dX11_joined_22 : decode cX11_joined 22 = .ok (.getfield 112, 3) := by decide +kernel
theorem dX11_joined_25 : decode cX11_joined 25 = .ok (.getfield 127, 3) := by decide +kernel
theorem dX11_joined_28 : decode cX11_joined 28 = .ok (.iload_n 2, 1) := by decide +kernel
theorem dX11_joined_29 : decode cX11_joined 29 = .ok (.iaload, 1) := by decide +kernel
theorem dX11_joined_30 : decode cX11_joined 30 = .ok (.goto 4, 3) := by decide +kernel
theorem dX11_joined_33 : decode cX11_joined 33 = .ok (.iconst (-1), 1) := by decide +kernel
theorem dX11_joined_34 : decode cX11_joined 34 = .ok (.ireturn, 1) := by decide +kernel
def f_X11_joined_u34 (Q : Int → ml_St → Prop) (σ : ml_St) (s0 : Int) : Prop :=
Q s0 σ
def f_X11_joined_u33 (Q : Int → ml_St → Prop) (σ : ml_St) : Prop :=
f_X11_joined_u34 Q σ (-1)
def f_X11_joined_u0 (Q : Int → ml_St → Prop) (σ : ml_St) (x1 : Int) (x2 : Int) : Prop :=
f_X11_isMade σ x1 (fun r1 σ1 => ∀ _ : ml_B r1,
(r1 = 0 →
f_X11_joined_u33 Q σ1) ∧
(r1 ≠ 0 →
f_X11_isEnd σ1 x2 (fun r3 σ3 => ∀ _ : ml_B r3,
(r3 = 0 →
f_X11_joined_u33 Q σ3) ∧
(r3 ≠ 0 →
(0 : Int) ≤ x1 ∧ (x1 : Int) < 16 ∧
(0 : Int) ≤ x2 ∧ (x2 : Int) < 10 ∧
∀ _ : I32 (σ3 (((119 + 6 * x1) + 2) + 1) x2),
f_X11_joined_u34 Q σ3 (σ3 (((119 + 6 * x1) + 2) + 1) x2)))))
def f_X11_joined (σ : ml_St) (x1 : Int) (x2 : Int) (Q : Int → ml_St → Prop) : Prop := f_X11_joined_u0 Q σ x1 x2
def rm_X11_joined : Room := { frames := 2, cells := 0, slots := 0, locals := 42 }
set_option maxRecDepth 100000 in
set_option maxHeartbeats 4000000 in
theorem u_X11_joined_34 {p : Program} {e : Env} {s : State} {m : MethodId} {args : Array Value} {below : List Frame} {meth : Method} {c : Code} {base : Nat} {D : va_G} {cA : Nat → ClassId} {n : Nat} {l : Launch} {Q : Int → ml_St → Prop} (X : ml_X p s m c meth args D cA cX11_joined 3 RX11 (some .int)) (hn : 214 ≤ n) (σ : ml_St) (s0 : Int) (h_s0 : I32 s0) (ls : Array Slot) (hl : lv_has ls 3 []) (hw : f_X11_joined_u34 Q σ s0) : ml_V p l e rm_X11_joined s m args below meth c (MQ below (ml_Qi I32 base D cA n Q) args s 0 0 (ml_A base)) base D cA 0 0 n n σ (F0 m 34 ls [.int (Int32.ofInt s0)]) := by
  unfold f_X11_joined_u34 at hw
  exact ml_iret (pc := 34) X h_s0 hw dX11_joined_34
set_option maxRecDepth 100000 in
set_option maxHeartbeats 4000000 in
theorem u_X11_joined_33 {p : Program} {e : Env} {s : State} {m : MethodId} {args : Array Value} {below : List Frame} {meth : Method} {c : Code} {base : Nat} {D : va_G} {cA : Nat → ClassId} {n : Nat} {l : Launch} {Q : Int → ml_St → Prop} (X : ml_X p s m c meth args D cA cX11_joined 3 RX11 (some .int)) (hn : 214 ≤ n) (σ : ml_St) (ls : Array Slot) (hl : lv_has ls 3 []) (hw : f_X11_joined_u33 Q σ) : ml_V p l e rm_X11_joined s m args below meth c (MQ below (ml_Qi I32 base D cA n Q) args s 0 0 (ml_A base)) base D cA 0 0 n n σ (F0 m 33 ls []) := by
  unfold f_X11_joined_u33 at hw
  refine ml_iconst (pc := 33) X dX11_joined_33 ?_
  exact u_X11_joined_34 X hn σ (-1) ⟨by decide, by decide⟩ _ (lv_sub hl [] rfl) hw
set_option maxRecDepth 100000 in
set_option maxHeartbeats 4000000 in
theorem u_X11_joined_0 {p : Program} {e : Env} {s : State} {m : MethodId} {args : Array Value} {below : List Frame} {meth : Method} {c : Code} {base : Nat} {D : va_G} {cA : Nat → ClassId} {n : Nat} {l : Launch} {Q : Int → ml_St → Prop} (X : ml_X p s m c meth args D cA cX11_joined 3 RX11 (some .int)) (hn : 214 ≤ n) (σ : ml_St) (x1 : Int) (x2 : Int) (h_x1 : I32 x1) (h_x2 : I32 x2) (ls : Array Slot) (hl : lv_has ls 3 [(0, .ref (base + (1 : Int).toNat)), (1, .int (Int32.ofInt x1)), (2, .int (Int32.ofInt x2))]) (hw : f_X11_joined_u0 Q σ x1 x2) : ml_V p l e rm_X11_joined s m args below meth c (MQ below (ml_Qi I32 base D cA n Q) args s 0 0 (ml_A base)) base D cA 0 0 n n σ (F0 m 0 ls []) := by
  unfold f_X11_joined_u0 at hw
  refine ml_aload_n (pc := 0) X hl 0 rfl rfl dX11_joined_0 ?_
  refine ml_iload_n (pc := 1) X hl 1 rfl rfl dX11_joined_1 ?_
  refine ml_callzV (pc := 2) (rest := []) X [.int (Int32.ofInt x1)] (by decide) rfl (ml_c1 hn) (c_X11_isMade l base D cA n hn σ x1 h_x1 _ hw) cv_X11_121 ⟨rfl, rfl⟩ ⟨by decide, by decide⟩ rfl rfl hl (Nat.le_of_ble_eq_true rfl) ⟨Nat.zero_le _, Nat.zero_le _⟩ dX11_joined_2 (fun r1 σ1 t1 hw => ?_)
  have hw := hw t1
  refine ml_if_eq (pc := 5) (tgt := 33) X t1.i dX11_joined_5 (by decide) (fun c2 => ?_) (fun c2 => ?_)
  · have hw := hw.1 c2
    exact u_X11_joined_33 X hn σ1   _ (lv_sub hl [] rfl) hw
  · have hw := hw.2 c2
    refine ml_aload_n (pc := 8) X hl 0 rfl rfl dX11_joined_8 ?_
    refine ml_iload_n (pc := 9) X hl 2 rfl rfl dX11_joined_9 ?_
    refine ml_callzV (pc := 10) (rest := []) X [.int (Int32.ofInt x2)] (by decide) rfl (ml_c1 hn) (c_X11_isEnd l base D cA n hn σ1 x2 h_x2 _ hw) cv_X11_124 ⟨rfl, rfl⟩ ⟨by decide, by decide⟩ rfl rfl hl (Nat.le_of_ble_eq_true rfl) ⟨Nat.zero_le _, Nat.zero_le _⟩ dX11_joined_10 (fun r3 σ3 t3 hw => ?_)
    have hw := hw t3
    refine ml_if_eq (pc := 13) (tgt := 33) X t3.i dX11_joined_13 (by decide) (fun c4 => ?_) (fun c4 => ?_)
    · have hw := hw.1 c4
      exact u_X11_joined_33 X hn σ3   _ (lv_sub hl [] rfl) hw
    · have hw := hw.2 c4
      refine ml_aload_n (pc := 16) X hl 0 rfl rfl dX11_joined_16 ?_
      refine gf_X11_67 (pc := 17) X (ml_c1 hn) dX11_joined_17 ?_
      refine ml_iload_n (pc := 20) X hl 1 rfl rfl dX11_joined_20 ?_
      obtain ⟨a5, b5, hw⟩ := hw
      refine ml_aald_words (pc := 21) X hn a5 b5 dX11_joined_21 ?_
      refine gf_X11_112 (pc := 22) X (ml_at_words hn a5 b5) dX11_joined_22 ?_
      refine gf_X11_127 (pc := 25) X (ml_r20_2 hn (ml_at_words hn a5 b5)) dX11_joined_25 ?_
      refine ml_iload_n (pc := 28) X hl 2 rfl rfl dX11_joined_28 ?_
      obtain ⟨a6, b6, hw⟩ := hw
      refine ml_iald (pc := 29) (N := 10) X (ml_r19_1 hn (ml_r20_2 hn (ml_at_words hn a5 b5))) a6 b6 dX11_joined_29 (fun r6 => ?_)
      have hw := hw r6
      refine ml_goto (pc := 30) (tgt := 34) X dX11_joined_30 (by decide) ?_
      exact u_X11_joined_34 X hn σ3 (σ3 (((119 + 6 * x1) + 2) + 1) x2) r6 _ (lv_sub hl [] rfl) hw
set_option maxRecDepth 100000 in
theorem c_X11_joined (l : Launch) (base : Nat) (D : va_G) (cA : Nat → ClassId) (n : Nat) (hn : 214 ≤ n) (σ : ml_St) (x1 : Int) (x2 : Int) (h_x1 : I32 x1) (h_x2 : I32 x2) (Q : Int → ml_St → Prop) (hw : f_X11_joined σ x1 x2 Q) : Met l yX11_joined (Cond.code yX11_joined cX11_joined 3 (some .int) :: ml_T) rm_X11_joined (va_Pc [.ref (base + (1 : Int).toNat), .int (Int32.ofInt x1), .int (Int32.ofInt x2)] (ml_U base D cA n σ)) (ml_Qi I32 base D cA n Q) 0 0 (ml_A base) := by
  refine Met.ofW (cc := cX11_joined) (maxL := 3) (ret := (some .int)) (by decide) rfl ?_
  intro p e s m args below meth c s₁ B hml hv
  obtain ⟨rfl, hP, hK, hok, hro⟩ := hv
  have X : ml_X p s m c meth _ D cA cX11_joined 3 RX11 (some .int) := ⟨B.exec, B.bytes, hml, findClass_of_methodNamed B.named, fun w hw => atoms_spec (ws := Cond.code yX11_joined cX11_joined 3 (some .int) :: ml_T) B.pre w (List.mem_cons_of_mem _ hw), hK, B.notSynchronized, B.returns⟩
  have hl := lv_entry [.ref (base + (1 : Int).toNat), .int (Int32.ofInt x1), .int (Int32.ofInt x2)] (n := 3) (Nat.le_of_ble_eq_true rfl)
  rw [lg_entry_eq]
  generalize (lg_sl [.ref (base + (1 : Int).toNat), .int (Int32.ofInt x1), .int (Int32.ofInt x2)] ++ List.replicate (3 - (lg_sl [.ref (base + (1 : Int).toNat), .int (Int32.ofInt x1), .int (Int32.ofInt x2)]).length) Slot.unset).toArray = ls at hl ⊢
  have hl : lv_has ls 3 [(0, .ref (base + (1 : Int).toNat)), (1, .int (Int32.ofInt x1)), (2, .int (Int32.ofInt x2))] := hl
  unfold f_X11_joined at hw
  exact u_X11_joined_0 X hn σ x1 x2 h_x1 h_x2 _ (lv_sub hl [0, 1, 2] rfl) hw s.heap [] hP va_S.rf hok hro
theorem dX11_length_0 : decode cX11_length 0 = .ok (.aload_n 0, 1) := by decide +kernel
theorem dX11_length_1 : decode cX11_length 1 = .ok (.iload_n 1, 1) := by decide +kernel
theorem dX11_length_2 : decode cX11_length 2 = .ok (.invokevirtual 121, 3) := by decide +kernel
theorem dX11_length_5 : decode cX11_length 5 = .ok (.ifCond .eq 28, 3) := by decide +kernel
theorem dX11_length_8 : decode cX11_length 8 = .ok (.aload_n 0, 1) := by decide +kernel
theorem dX11_length_9 : decode cX11_length 9 = .ok (.iload_n 2, 1) := by decide +kernel
theorem dX11_length_10 : decode cX11_length 10 = .ok (.invokevirtual 124, 3) := by decide +kernel
theorem dX11_length_13 : decode cX11_length 13 = .ok (.ifCond .eq 20, 3) := by decide +kernel
theorem dX11_length_16 : decode cX11_length 16 = .ok (.aload_n 0, 1) := by decide +kernel
theorem dX11_length_17 : decode cX11_length 17 = .ok (.getfield 67, 3) := by decide +kernel
theorem dX11_length_20 : decode cX11_length 20 = .ok (.iload_n 1, 1) := by decide +kernel
theorem dX11_length_21 : decode cX11_length 21 = .ok (.aaload, 1) := by decide +kernel
theorem dX11_length_22 : decode cX11_length 22 = .ok (.getfield 112, 3) := by decide +kernel
theorem dX11_length_25 : decode cX11_length 25 = .ok (.getfield 131, 3) := by decide +kernel
theorem dX11_length_28 : decode cX11_length 28 = .ok (.iload_n 2, 1) := by decide +kernel
theorem dX11_length_29 : decode cX11_length 29 = .ok (.laload, 1) := by decide +kernel
theorem dX11_length_30 : decode cX11_length 30 = .ok (.goto 6, 3) := by decide +kernel
theorem dX11_length_33 : decode cX11_length 33 = .ok (.ldc2_w 119, 3) := by decide +kernel
theorem dX11_length_36 : decode cX11_length 36 = .ok (.lreturn, 1) := by decide +kernel
def f_X11_length_u36 (Q : Int → ml_St → Prop) (σ : ml_St) (s0 : Int) : Prop :=
Q s0 σ
def f_X11_length_u33 (Q : Int → ml_St → Prop) (σ : ml_St) : Prop :=
f_X11_length_u36 Q σ (-1)
def f_X11_length_u0 (Q : Int → ml_St → Prop) (σ : ml_St) (x1 : Int) (x2 : Int) : Prop :=
f_X11_isMade σ x1 (fun r1 σ1 => ∀ _ : ml_B r1,
(r1 = 0 →
f_X11_length_u33 Q σ1) ∧
(r1 ≠ 0 →
f_X11_isEnd σ1 x2 (fun r3 σ3 => ∀ _ : ml_B r3,
(r3 = 0 →
f_X11_length_u33 Q σ3) ∧
(r3 ≠ 0 →
(0 : Int) ≤ x1 ∧ (x1 : Int) < 16 ∧
(0 : Int) ≤ x2 ∧ (x2 : Int) < 10 ∧
∀ _ : I64 (σ3 (((119 + 6 * x1) + 2) + 2) x2),
f_X11_length_u36 Q σ3 (σ3 (((119 + 6 * x1) + 2) + 2) x2)))))
def f_X11_length (σ : ml_St) (x1 : Int) (x2 : Int) (Q : Int → ml_St → Prop) : Prop := f_X11_length_u0 Q σ x1 x2
def rm_X11_length : Room := { frames := 2, cells := 0, slots := 0, locals := 42 }
set_option maxRecDepth 100000 in
set_option maxHeartbeats 4000000 in
theorem u_X11_length_36 {p : Program} {e : Env} {s : State} {m : MethodId} {args : Array Value} {below : List Frame} {meth : Method} {c : Code} {base : Nat} {D : va_G} {cA : Nat → ClassId} {n : Nat} {l : Launch} {Q : Int → ml_St → Prop} (X : ml_X p s m c meth args D cA cX11_length 3 RX11 (some .long)) (hn : 214 ≤ n) (σ : ml_St) (s0 : Int) (h_s0 : I64 s0) (ls : Array Slot) (hl : lv_has ls 3 []) (hw : f_X11_length_u36 Q σ s0) : ml_V p l e rm_X11_length s m args below meth c (MQ below (ml_Ql base D cA n Q) args s 0 0 (ml_A base)) base D cA 0 0 n n σ (F0 m 36 ls [.long (Int64.ofInt s0)]) := by
  unfold f_X11_length_u36 at hw
  exact ml_lret (pc := 36) X h_s0 hw dX11_length_36
set_option maxRecDepth 100000 in
set_option maxHeartbeats 4000000 in
theorem u_X11_length_33 {p : Program} {e : Env} {s : State} {m : MethodId} {args : Array Value} {below : List Frame} {meth : Method} {c : Code} {base : Nat} {D : va_G} {cA : Nat → ClassId} {n : Nat} {l : Launch} {Q : Int → ml_St → Prop} (X : ml_X p s m c meth args D cA cX11_length 3 RX11 (some .long)) (hn : 214 ≤ n) (σ : ml_St) (ls : Array Slot) (hl : lv_has ls 3 []) (hw : f_X11_length_u33 Q σ) : ml_V p l e rm_X11_length s m args below meth c (MQ below (ml_Ql base D cA n Q) args s 0 0 (ml_A base)) base D cA 0 0 n n σ (F0 m 33 ls []) := by
  unfold f_X11_length_u33 at hw
  refine ml_ldc2 (pc := 33) (v := (-1)) X dX11_length_33 tc_3_125 ?_
  exact u_X11_length_36 X hn σ (-1) ⟨by decide, by decide⟩ _ (lv_sub hl [] rfl) hw
set_option maxRecDepth 100000 in
set_option maxHeartbeats 4000000 in
theorem u_X11_length_0 {p : Program} {e : Env} {s : State} {m : MethodId} {args : Array Value} {below : List Frame} {meth : Method} {c : Code} {base : Nat} {D : va_G} {cA : Nat → ClassId} {n : Nat} {l : Launch} {Q : Int → ml_St → Prop} (X : ml_X p s m c meth args D cA cX11_length 3 RX11 (some .long)) (hn : 214 ≤ n) (σ : ml_St) (x1 : Int) (x2 : Int) (h_x1 : I32 x1) (h_x2 : I32 x2) (ls : Array Slot) (hl : lv_has ls 3 [(0, .ref (base + (1 : Int).toNat)), (1, .int (Int32.ofInt x1)), (2, .int (Int32.ofInt x2))]) (hw : f_X11_length_u0 Q σ x1 x2) : ml_V p l e rm_X11_length s m args below meth c (MQ below (ml_Ql base D cA n Q) args s 0 0 (ml_A base)) base D cA 0 0 n n σ (F0 m 0 ls []) := by
  unfold f_X11_length_u0 at hw
  refine ml_aload_n (pc := 0) X hl 0 rfl rfl dX11_length_0 ?_
  refine ml_iload_n (pc := 1) X hl 1 rfl rfl dX11_length_1 ?_
  refine ml_callzV (pc := 2) (rest := []) X [.int (Int32.ofInt x1)] (by decide) rfl (ml_c1 hn) (c_X11_isMade l base D cA n hn σ x1 h_x1 _ hw) cv_X11_121 ⟨rfl, rfl⟩ ⟨by decide, by decide⟩ rfl rfl hl (Nat.le_of_ble_eq_true rfl) ⟨Nat.zero_le _, Nat.zero_le _⟩ dX11_length_2 (fun r1 σ1 t1 hw => ?_)
  have hw := hw t1
  refine ml_if_eq (pc := 5) (tgt := 33) X t1.i dX11_length_5 (by decide) (fun c2 => ?_) (fun c2 => ?_)
  · have hw := hw.1 c2
    exact u_X11_length_33 X hn σ1   _ (lv_sub hl [] rfl) hw
  · have hw := hw.2 c2
    refine ml_aload_n (pc := 8) X hl 0 rfl rfl dX11_length_8 ?_
    refine ml_iload_n (pc := 9) X hl 2 rfl rfl dX11_length_9 ?_
    refine ml_callzV (pc := 10) (rest := []) X [.int (Int32.ofInt x2)] (by decide) rfl (ml_c1 hn) (c_X11_isEnd l base D cA n hn σ1 x2 h_x2 _ hw) cv_X11_124 ⟨rfl, rfl⟩ ⟨by decide, by decide⟩ rfl rfl hl (Nat.le_of_ble_eq_true rfl) ⟨Nat.zero_le _, Nat.zero_le _⟩ dX11_length_10 (fun r3 σ3 t3 hw => ?_)
    have hw := hw t3
    refine ml_if_eq (pc := 13) (tgt := 33) X t3.i dX11_length_13 (by decide) (fun c4 => ?_) (fun c4 => ?_)
    · have hw := hw.1 c4
      exact u_X11_length_33 X hn σ3   _ (lv_sub hl [] rfl) hw
    · have hw := hw.2 c4
      refine ml_aload_n (pc := 16) X hl 0 rfl rfl dX11_length_16 ?_
      refine gf_X11_67 (pc := 17) X (ml_c1 hn) dX11_length_17 ?_
      refine ml_iload_n (pc := 20) X hl 1 rfl rfl dX11_length_20 ?_
      obtain ⟨a5, b5, hw⟩ := hw
      refine ml_aald_words (pc := 21) X hn a5 b5 dX11_length_21 ?_
      refine gf_X11_112 (pc := 22) X (ml_at_words hn a5 b5) dX11_length_22 ?_
      refine gf_X11_131 (pc := 25) X (ml_r20_2 hn (ml_at_words hn a5 b5)) dX11_length_25 ?_
      refine ml_iload_n (pc := 28) X hl 2 rfl rfl dX11_length_28 ?_
      obtain ⟨a6, b6, hw⟩ := hw
      refine ml_lald (pc := 29) (N := 10) X (ml_r19_2 hn (ml_r20_2 hn (ml_at_words hn a5 b5))) a6 b6 dX11_length_29 (fun r6 => ?_)
      have hw := hw r6
      refine ml_goto (pc := 30) (tgt := 36) X dX11_length_30 (by decide) ?_
      exact u_X11_length_36 X hn σ3 (σ3 (((119 + 6 * x1) + 2) + 2) x2) r6 _ (lv_sub hl [] rfl) hw
set_option maxRecDepth 100000 in
theorem c_X11_length (l : Launch) (base : Nat) (D : va_G) (cA : Nat → ClassId) (n : Nat) (hn : 214 ≤ n) (σ : ml_St) (x1 : Int) (x2 : Int) (h_x1 : I32 x1) (h_x2 : I32 x2) (Q : Int → ml_St → Prop) (hw : f_X11_length σ x1 x2 Q) : Met l yX11_length (Cond.code yX11_length cX11_length 3 (some .long) :: ml_T) rm_X11_length (va_Pc [.ref (base + (1 : Int).toNat), .int (Int32.ofInt x1), .int (Int32.ofInt x2)] (ml_U base D cA n σ)) (ml_Ql base D cA n Q) 0 0 (ml_A base) := by
  refine Met.ofW (cc := cX11_length) (maxL := 3) (ret := (some .long)) (by decide) rfl ?_
  intro p e s m args below meth c s₁ B hml hv
  obtain ⟨rfl, hP, hK, hok, hro⟩ := hv
  have X : ml_X p s m c meth _ D cA cX11_length 3 RX11 (some .long) := ⟨B.exec, B.bytes, hml, findClass_of_methodNamed B.named, fun w hw => atoms_spec (ws := Cond.code yX11_length cX11_length 3 (some .long) :: ml_T) B.pre w (List.mem_cons_of_mem _ hw), hK, B.notSynchronized, B.returns⟩
  have hl := lv_entry [.ref (base + (1 : Int).toNat), .int (Int32.ofInt x1), .int (Int32.ofInt x2)] (n := 3) (Nat.le_of_ble_eq_true rfl)
  rw [lg_entry_eq]
  generalize (lg_sl [.ref (base + (1 : Int).toNat), .int (Int32.ofInt x1), .int (Int32.ofInt x2)] ++ List.replicate (3 - (lg_sl [.ref (base + (1 : Int).toNat), .int (Int32.ofInt x1), .int (Int32.ofInt x2)]).length) Slot.unset).toArray = ls at hl ⊢
  have hl : lv_has ls 3 [(0, .ref (base + (1 : Int).toNat)), (1, .int (Int32.ofInt x1)), (2, .int (Int32.ofInt x2))] := hl
  unfold f_X11_length at hw
  exact u_X11_length_0 X hn σ x1 x2 h_x1 h_x2 _ (lv_sub hl [0, 1, 2] rfl) hw s.heap [] hP va_S.rf hok hro
theorem dX0_loopFrom_0 : decode cX0_loopFrom 0 = .ok (.iconst 0, 1) := by decide +kernel
theorem dX0_loopFrom_1 : decode cX0_loopFrom 1 = .ok (.istore_n 3, 1) := by decide +kernel
theorem dX0_loopFrom_2 : decode cX0_loopFrom 2 = .ok (.iload_n 1, 1) := by decide +kernel
theorem dX0_loopFrom_3 : decode cX0_loopFrom 3 = .ok (.istore 4, 2) := by decide +kernel
theorem dX0_loopFrom_5 : decode cX0_loopFrom 5 = .ok (.iconst 0, 1) := by decide +kernel
theorem dX0_loopFrom_6 : decode cX0_loopFrom 6 = .ok (.istore 5, 2) := by decide +kernel
theorem dX0_loopFrom_8 : decode cX0_loopFrom 8 = .ok (.iload_n 3, 1) := by decide +kernel
theorem dX0_loopFrom_9 : decode cX0_loopFrom 9 = .ok (.iload_n 1, 1) := by decide +kernel
theorem dX0_loopFrom_10 : decode cX0_loopFrom 10 = .ok (.ishr, 1) := by decide +kernel
theorem dX0_loopFrom_11 : decode cX0_loopFrom 11 = .ok (.iconst 1, 1) := by decide +kernel
theorem dX0_loopFrom_12 : decode cX0_loopFrom 12 = .ok (.iand, 1) := by decide +kernel
theorem dX0_loopFrom_13 : decode cX0_loopFrom 13 = .ok (.ifCond .ne 46, 3) := by decide +kernel
theorem dX0_loopFrom_16 : decode cX0_loopFrom 16 = .ok (.iload 5, 2) := by decide +kernel
theorem dX0_loopFrom_18 : decode cX0_loopFrom 18 = .ok (.bipush 10, 2) := by decide +kernel
theorem dX0_loopFrom_20 : decode cX0_loopFrom 20 = .ok (.if_icmp .gt 39, 3) := by decide +kernel
theorem dX0_loopFrom_23 : decode cX0_loopFrom 23 = .ok (.aload_n 2, 1) := by decide +kernel
theorem dX0_loopFrom_24 : decode cX0_loopFrom 24 = .ok (.getfield 34, 3) := by decide +kernel
theorem dX0_loopFrom_27 : decode cX0_loopFrom 27 = .ok (.iload 4, 2) := by decide +kernel
theorem dX0_loopFrom_29 : decode cX0_loopFrom 29 = .ok (.iaload, 1) := by decide +kernel
theorem dX0_loopFrom_30 : decode cX0_loopFrom 30 = .ok (.istore 6, 2) := by decide +kernel
theorem dX0_loopFrom_32 : decode cX0_loopFrom 32 = .ok (.aload_n 0, 1) := by decide +kernel
theorem dX0_loopFrom_33 : decode cX0_loopFrom 33 = .ok (.getfield 9, 3) := by decide +kernel
theorem dX0_loopFrom_36 : decode cX0_loopFrom 36 = .ok (.iload 6, 2) := by decide +kernel
theorem dX0_loopFrom_38 : decode cX0_loopFrom 38 = .ok (.iaload, 1) := by decide +kernel
theorem dX0_loopFrom_39 : decode cX0_loopFrom 39 = .ok (.istore 4, 2) := by decide +kernel
theorem dX0_loopFrom_41 : decode cX0_loopFrom 41 = .ok (.iload_n 3, 1) := by decide +kernel
theorem dX0_loopFrom_42 : decode cX0_loopFrom 42 = .ok (.iconst 1, 1) := by decide +kernel
theorem dX0_loopFrom_43 : decode cX0_loopFrom 43 = .ok (.iload 6, 2) := by decide +kernel
theorem dX0_loopFrom_45 : decode cX0_loopFrom 45 = .ok (.ishl, 1) := by decide +kernel
theorem dX0_loopFrom_46 : decode cX0_loopFrom 46 = .ok (.iconst 1, 1) := by decide +kernel
theorem dX0_loopFrom_47 : decode cX0_loopFrom 47 = .ok (.iload 4, 2) := by decide +kernel
theorem dX0_loopFrom_49 : decode cX0_loopFrom 49 = .ok (.ishl, 1) := by decide +kernel
theorem dX0_loopFrom_50 : decode cX0_loopFrom 50 = .ok (.ior, 1) := by decide +kernel
theorem dX0_loopFrom_51 : decode cX0_loopFrom 51 = .ok (.ior, 1) := by decide +kernel
theorem dX0_loopFrom_52 : decode cX0_loopFrom 52 = .ok (.istore_n 3, 1) := by decide +kernel
theorem dX0_loopFrom_53 : decode cX0_loopFrom 53 = .ok (.iinc 5 1, 3) := by decide +kernel
theorem dX0_loopFrom_56 : decode cX0_loopFrom 56 = .ok (.goto (-48), 3) := by decide +kernel
theorem dX0_loopFrom_59 : decode cX0_loopFrom 59 = .ok (.iload_n 3, 1) := by decide +kernel
theorem dX0_loopFrom_60 : decode cX0_loopFrom 60 = .ok (.ireturn, 1) := by decide +kernel
def f_X0_loopFrom_u8 (Q : Int → ml_St → Prop) (K59 : ml_St → Int → Prop) (p2 : Int) : Nat → ml_St → Int → Int → Int → Int → Prop
| 0, _, _, _, _, _ => False
| N + 1, σ, x1, x3, x4, x5 =>
(((b_and (b_shr x3 x1) 1) : Int) ≠ 0 →
K59 σ x3) ∧
((b_and (b_shr x3 x1) 1) = 0 →
(10 < x5 →
K59 σ x3) ∧
(¬ (10 < x5) →
(0 : Int) ≤ x4 ∧ (x4 : Int) < 10 ∧
∀ _ : I32 (σ (p2 + 1) x4),
∀ y4 : Int, y4 = σ (p2 + 1) x4 →
(0 : Int) ≤ y4 ∧ (y4 : Int) < 10 ∧
∀ _ : I32 (σ 5 y4),
∀ y6 : Int, y6 = σ 5 y4 →
∀ y7 : Int, y7 = b_or x3 (b_or (b_shl 1 y4) (b_shl 1 y6)) →
I32 (x5 + 1) ∧
∀ y8 : Int, y8 = x5 + 1 →
f_X0_loopFrom_u8 Q K59 p2 N σ x1 y7 y6 y8))
def f_X0_loopFrom_u59 (Q : Int → ml_St → Prop) (p2 : Int) (σ : ml_St) (x3 : Int) : Prop :=
Q x3 σ
def f_X0_loopFrom_u0 (Q : Int → ml_St → Prop) (p2 : Int) (σ : ml_St) (x1 : Int) : Prop :=
∃ N1, f_X0_loopFrom_u8 Q (f_X0_loopFrom_u59 Q p2) p2 N1 σ x1 0 x1 0
def f_X0_loopFrom (σ : ml_St) (p2 : Int) (x1 : Int) (Q : Int → ml_St → Prop) : Prop := f_X0_loopFrom_u0 Q p2 σ x1
def rm_X0_loopFrom : Room := { frames := 0, cells := 0, slots := 0, locals := 0 }
set_option maxRecDepth 100000 in
set_option maxHeartbeats 4000000 in
theorem u_X0_loopFrom_8 {p : Program} {e : Env} {s : State} {m : MethodId} {args : Array Value} {below : List Frame} {meth : Method} {c : Code} {base : Nat} {D : va_G} {cA : Nat → ClassId} {n : Nat} {l : Launch} {p2 : Int} {Q : Int → ml_St → Prop} {K59 : ml_St → Int → Prop} (X : ml_X p s m c meth args D cA cX0_loopFrom 7 RX0 (some .int)) (hn : 214 ≤ n) (hp_p2 : ml_at n p2 (19, 8)) (hK59 : ∀ (σ : ml_St) (x3 : Int) (h_x3 : I32 x3) (ls : Array Slot), lv_has ls 7 [(3, .int (Int32.ofInt x3))] → K59 σ x3 → ml_V p l e rm_X0_loopFrom s m args below meth c (MQ below (ml_Qi I32 base D cA n Q) args s 0 0 (ml_A base)) base D cA 0 0 n n σ (F0 m 59 ls [])) : ∀ (N : Nat) (σ : ml_St) (x1 : Int) (x3 : Int) (x4 : Int) (x5 : Int) (h_x1 : I32 x1) (h_x3 : I32 x3) (h_x4 : I32 x4) (h_x5 : I32 x5) (ls : Array Slot), lv_has ls 7 [(0, .ref (base + (4 : Int).toNat)), (1, .int (Int32.ofInt x1)), (2, .ref (base + (p2 : Int).toNat)), (3, .int (Int32.ofInt x3)), (4, .int (Int32.ofInt x4)), (5, .int (Int32.ofInt x5))] → f_X0_loopFrom_u8 Q K59 p2 N σ x1 x3 x4 x5 → ml_V p l e rm_X0_loopFrom s m args below meth c (MQ below (ml_Qi I32 base D cA n Q) args s 0 0 (ml_A base)) base D cA 0 0 n n σ (F0 m 8 ls []) := by
  intro N
  induction N with
  | zero => intro σ x1 x3 x4 x5 h_x1 h_x3 h_x4 h_x5 ls hl hw; exact False.elim hw
  | succ N ih =>
    intro σ x1 x3 x4 x5 h_x1 h_x3 h_x4 h_x5 ls hl hw
    unfold f_X0_loopFrom_u8 at hw
    refine ml_iload_n (pc := 8) X hl 3 rfl rfl dX0_loopFrom_8 ?_
    refine ml_iload_n (pc := 9) X hl 1 rfl rfl dX0_loopFrom_9 ?_
    refine ml_ishr (pc := 10) X dX0_loopFrom_10 ?_
    refine ml_iconst (pc := 11) X dX0_loopFrom_11 ?_
    refine ml_iand (pc := 12) X dX0_loopFrom_12 ?_
    refine ml_if_ne (pc := 13) (tgt := 59) X (b_and_r _ _) dX0_loopFrom_13 (by decide) (fun c1 => ?_) (fun c1 => ?_)
    · have hw := hw.1 c1
      exact hK59 σ x3 h_x3 _ (lv_sub hl [3] rfl) hw
    · have hw := hw.2 c1
      refine ml_iload (pc := 16) X hl 5 rfl dX0_loopFrom_16 ?_
      refine ml_bipush (pc := 18) X dX0_loopFrom_18 (by decide) ?_
      refine ml_icmp_gt (pc := 20) (tgt := 59) X h_x5 ⟨by decide, by decide⟩ dX0_loopFrom_20 (by decide) (fun c2 => ?_) (fun c2 => ?_)
      · have hw := hw.1 c2
        exact hK59 σ x3 h_x3 _ (lv_sub hl [3] rfl) hw
      · have hw := hw.2 c2
        refine ml_aload_n (pc := 23) X hl 2 rfl rfl dX0_loopFrom_23 ?_
        refine gf_X0_34 (pc := 24) X hp_p2 dX0_loopFrom_24 ?_
        refine ml_iload (pc := 27) X hl 4 rfl dX0_loopFrom_27 ?_
        obtain ⟨a3, b3, hw⟩ := hw
        refine ml_iald (pc := 29) (N := 10) X (ml_r19_1 hn hp_p2) a3 b3 dX0_loopFrom_29 (fun r3 => ?_)
        have hw := hw r3
        refine ml_topI (pc := 30) (fun y4 e4 => ?_)
        have hw := hw y4 e4
        have q4 : I32 y4 := by rw [e4]; exact r3
        refine ml_istore (pc := 30) X hl (by decide) (lst' := [(6, .int (Int32.ofInt y4)), (0, .ref (base + (4 : Int).toNat)), (1, .int (Int32.ofInt x1)), (2, .ref (base + (p2 : Int).toNat)), (3, .int (Int32.ofInt x3)), (4, .int (Int32.ofInt x4)), (5, .int (Int32.ofInt x5))]) rfl dX0_loopFrom_30 (fun ls hl => ?_)
        refine ml_aload_n (pc := 32) X hl 1 rfl rfl dX0_loopFrom_32 ?_
        refine gf_X0_9 (pc := 33) X (ml_c4 hn) dX0_loopFrom_33 ?_
        refine ml_iload (pc := 36) X hl 0 rfl dX0_loopFrom_36 ?_
        obtain ⟨a5, b5, hw⟩ := hw
        refine ml_iald (pc := 38) (N := 10) X (ml_c5 hn) a5 b5 dX0_loopFrom_38 (fun r5 => ?_)
        have hw := hw r5
        refine ml_topI (pc := 39) (fun y6 e6 => ?_)
        have hw := hw y6 e6
        have q6 : I32 y6 := by rw [e6]; exact r5
        refine ml_istore (pc := 39) X hl (by decide) (lst' := [(4, .int (Int32.ofInt y6)), (6, .int (Int32.ofInt y4)), (0, .ref (base + (4 : Int).toNat)), (1, .int (Int32.ofInt x1)), (2, .ref (base + (p2 : Int).toNat)), (3, .int (Int32.ofInt x3)), (5, .int (Int32.ofInt x5))]) rfl dX0_loopFrom_39 (fun ls hl => ?_)
        refine ml_iload_n (pc := 41) X hl 5 rfl rfl dX0_loopFrom_41 ?_
        refine ml_iconst (pc := 42) X dX0_loopFrom_42 ?_
        refine ml_iload (pc := 43) X hl 1 rfl dX0_loopFrom_43 ?_
        refine ml_ishl (pc := 45) X dX0_loopFrom_45 ?_
        refine ml_iconst (pc := 46) X dX0_loopFrom_46 ?_
        refine ml_iload (pc := 47) X hl 0 rfl dX0_loopFrom_47 ?_
        refine ml_ishl (pc := 49) X dX0_loopFrom_49 ?_
        refine ml_ior (pc := 50) X dX0_loopFrom_50 ?_
        refine ml_ior (pc := 51) X dX0_loopFrom_51 ?_
        refine ml_topI (pc := 52) (fun y7 e7 => ?_)
        have hw := hw y7 e7
        have q7 : I32 y7 := by rw [e7]; exact (b_or_r _ _)
        refine ml_istore_n (pc := 52) X rfl hl (by decide) (lst' := [(3, .int (Int32.ofInt y7)), (4, .int (Int32.ofInt y6)), (6, .int (Int32.ofInt y4)), (0, .ref (base + (4 : Int).toNat)), (1, .int (Int32.ofInt x1)), (2, .ref (base + (p2 : Int).toNat)), (5, .int (Int32.ofInt x5))]) rfl dX0_loopFrom_52 (fun ls hl => ?_)
        obtain ⟨v8, hw⟩ := hw
        obtain ⟨y8, e8⟩ : ∃ y : Int, y = x5 + 1 := ⟨_, rfl⟩
        have hw := hw y8 e8
        rw [← e8] at v8
        refine ml_iinc (pc := 53) X e8 hl 6 rfl (by decide) (lst' := [(5, .int (Int32.ofInt y8)), (3, .int (Int32.ofInt y7)), (4, .int (Int32.ofInt y6)), (6, .int (Int32.ofInt y4)), (0, .ref (base + (4 : Int).toNat)), (1, .int (Int32.ofInt x1)), (2, .ref (base + (p2 : Int).toNat))]) rfl dX0_loopFrom_53 (fun ls hl => ?_)
        refine ml_goto (pc := 56) (tgt := 8) X dX0_loopFrom_56 (by decide) ?_
        exact ih σ x1 y7 y6 y8 h_x1 q7 q6 v8 _ (lv_sub hl [4, 5, 6, 1, 2, 0] rfl) hw
set_option maxRecDepth 100000 in
set_option maxHeartbeats 4000000 in
theorem u_X0_loopFrom_59 {p : Program} {e : Env} {s : State} {m : MethodId} {args : Array Value} {below : List Frame} {meth : Method} {c : Code} {base : Nat} {D : va_G} {cA : Nat → ClassId} {n : Nat} {l : Launch} {p2 : Int} {Q : Int → ml_St → Prop} (X : ml_X p s m c meth args D cA cX0_loopFrom 7 RX0 (some .int)) (hn : 214 ≤ n) (hp_p2 : ml_at n p2 (19, 8)) (σ : ml_St) (x3 : Int) (h_x3 : I32 x3) (ls : Array Slot) (hl : lv_has ls 7 [(3, .int (Int32.ofInt x3))]) (hw : f_X0_loopFrom_u59 Q p2 σ x3) : ml_V p l e rm_X0_loopFrom s m args below meth c (MQ below (ml_Qi I32 base D cA n Q) args s 0 0 (ml_A base)) base D cA 0 0 n n σ (F0 m 59 ls []) := by
  unfold f_X0_loopFrom_u59 at hw
  refine ml_iload_n (pc := 59) X hl 0 rfl rfl dX0_loopFrom_59 ?_
  exact ml_iret (pc := 60) X h_x3 hw dX0_loopFrom_60
set_option maxRecDepth 100000 in
set_option maxHeartbeats 4000000 in
theorem u_X0_loopFrom_0 {p : Program} {e : Env} {s : State} {m : MethodId} {args : Array Value} {below : List Frame} {meth : Method} {c : Code} {base : Nat} {D : va_G} {cA : Nat → ClassId} {n : Nat} {l : Launch} {p2 : Int} {Q : Int → ml_St → Prop} (X : ml_X p s m c meth args D cA cX0_loopFrom 7 RX0 (some .int)) (hn : 214 ≤ n) (hp_p2 : ml_at n p2 (19, 8)) (σ : ml_St) (x1 : Int) (h_x1 : I32 x1) (ls : Array Slot) (hl : lv_has ls 7 [(0, .ref (base + (4 : Int).toNat)), (1, .int (Int32.ofInt x1)), (2, .ref (base + (p2 : Int).toNat))]) (hw : f_X0_loopFrom_u0 Q p2 σ x1) : ml_V p l e rm_X0_loopFrom s m args below meth c (MQ below (ml_Qi I32 base D cA n Q) args s 0 0 (ml_A base)) base D cA 0 0 n n σ (F0 m 0 ls []) := by
  unfold f_X0_loopFrom_u0 at hw
  refine ml_iconst (pc := 0) X dX0_loopFrom_0 ?_
  refine ml_istore_n (pc := 1) X rfl hl (by decide) (lst' := [(3, .int (Int32.ofInt 0)), (0, .ref (base + (4 : Int).toNat)), (1, .int (Int32.ofInt x1)), (2, .ref (base + (p2 : Int).toNat))]) rfl dX0_loopFrom_1 (fun ls hl => ?_)
  refine ml_iload_n (pc := 2) X hl 2 rfl rfl dX0_loopFrom_2 ?_
  refine ml_istore (pc := 3) X hl (by decide) (lst' := [(4, .int (Int32.ofInt x1)), (3, .int (Int32.ofInt 0)), (0, .ref (base + (4 : Int).toNat)), (1, .int (Int32.ofInt x1)), (2, .ref (base + (p2 : Int).toNat))]) rfl dX0_loopFrom_3 (fun ls hl => ?_)
  refine ml_iconst (pc := 5) X dX0_loopFrom_5 ?_
  refine ml_istore (pc := 6) X hl (by decide) (lst' := [(5, .int (Int32.ofInt 0)), (4, .int (Int32.ofInt x1)), (3, .int (Int32.ofInt 0)), (0, .ref (base + (4 : Int).toNat)), (1, .int (Int32.ofInt x1)), (2, .ref (base + (p2 : Int).toNat))]) rfl dX0_loopFrom_6 (fun ls hl => ?_)
  obtain ⟨N0, hw⟩ := hw
  exact u_X0_loopFrom_8 X hn hp_p2 (fun σ x3 h_x3 ls hl hw => u_X0_loopFrom_59 X hn hp_p2 σ x3 h_x3 ls hl hw) N0 σ x1 0 x1 0 h_x1 ⟨by decide, by decide⟩ h_x1 ⟨by decide, by decide⟩ _ (lv_sub hl [3, 4, 5, 2, 1, 0] rfl) hw
set_option maxRecDepth 100000 in
theorem c_X0_loopFrom (l : Launch) (base : Nat) (D : va_G) (cA : Nat → ClassId) (n : Nat) (hn : 214 ≤ n) (σ : ml_St) (p2 : Int) (hp_p2 : ml_at n p2 (19, 8)) (x1 : Int) (h_x1 : I32 x1) (Q : Int → ml_St → Prop) (hw : f_X0_loopFrom σ p2 x1 Q) : Met l yX0_loopFrom (Cond.code yX0_loopFrom cX0_loopFrom 7 (some .int) :: ml_T) rm_X0_loopFrom (va_Pc [.ref (base + (4 : Int).toNat), .int (Int32.ofInt x1), .ref (base + (p2 : Int).toNat)] (ml_U base D cA n σ)) (ml_Qi I32 base D cA n Q) 0 0 (ml_A base) := by
  refine Met.ofW (cc := cX0_loopFrom) (maxL := 7) (ret := (some .int)) (by decide) rfl ?_
  intro p e s m args below meth c s₁ B hml hv
  obtain ⟨rfl, hP, hK, hok, hro⟩ := hv
  have X : ml_X p s m c meth _ D cA cX0_loopFrom 7 RX0 (some .int) := ⟨B.exec, B.bytes, hml, findClass_of_methodNamed B.named, fun w hw => atoms_spec (ws := Cond.code yX0_loopFrom cX0_loopFrom 7 (some .int) :: ml_T) B.pre w (List.mem_cons_of_mem _ hw), hK, B.notSynchronized, B.returns⟩
  have hl := lv_entry [.ref (base + (4 : Int).toNat), .int (Int32.ofInt x1), .ref (base + (p2 : Int).toNat)] (n := 7) (Nat.le_of_ble_eq_true rfl)
  rw [lg_entry_eq]
  generalize (lg_sl [.ref (base + (4 : Int).toNat), .int (Int32.ofInt x1), .ref (base + (p2 : Int).toNat)] ++ List.replicate (7 - (lg_sl [.ref (base + (4 : Int).toNat), .int (Int32.ofInt x1), .ref (base + (p2 : Int).toNat)]).length) Slot.unset).toArray = ls at hl ⊢
  have hl : lv_has ls 7 [(0, .ref (base + (4 : Int).toNat)), (1, .int (Int32.ofInt x1)), (2, .ref (base + (p2 : Int).toNat))] := hl
  unfold f_X0_loopFrom at hw
  exact u_X0_loopFrom_0 X hn hp_p2 σ x1 h_x1 _ (lv_sub hl [0, 1, 2] rfl) hw s.heap [] hP va_S.rf hok hro
theorem dX0_loopsBy_0 : decode cX0_loopsBy 0 = .ok (.iconst 0, 1) := by decide +kernel
theorem dX0_loopsBy_1 : decode cX0_loopsBy 1 = .ok (.istore_n 3, 1) := by decide +kernel
theorem dX0_loopsBy_2 : decode cX0_loopsBy 2 = .ok (.iconst 0, 1) := by decide +kernel
theorem dX0_loopsBy_3 : decode cX0_loopsBy 3 = .ok (.istore 4, 2) := by decide +kernel
theorem dX0_loopsBy_5 : decode cX0_loopsBy 5 = .ok (.iconst 0, 1) := by decide +kernel
theorem dX0_loopsBy_6 : decode cX0_loopsBy 6 = .ok (.istore 5, 2) := by decide +kernel
theorem dX0_loopsBy_8 : decode cX0_loopsBy 8 = .ok (.iload 5, 2) := by decide +kernel
theorem dX0_loopsBy_10 : decode cX0_loopsBy 10 = .ok (.iconst 2, 1) := by decide +kernel
theorem dX0_loopsBy_11 : decode cX0_loopsBy 11 = .ok (.iload_n 2, 1) := by decide +kernel
theorem dX0_loopsBy_12 : decode cX0_loopsBy 12 = .ok (.imul, 1) := by decide +kernel
theorem dX0_loopsBy_13 : decode cX0_loopsBy 13 = .ok (.if_icmp .ge 34, 3) := by decide +kernel
theorem dX0_loopsBy_16 : decode cX0_loopsBy 16 = .ok (.iload 4, 2) := by decide +kernel
theorem dX0_loopsBy_18 : decode cX0_loopsBy 18 = .ok (.iload 5, 2) := by decide +kernel
theorem dX0_loopsBy_20 : decode cX0_loopsBy 20 = .ok (.ishr, 1) := by decide +kernel
theorem dX0_loopsBy_21 : decode cX0_loopsBy 21 = .ok (.iconst 1, 1) := by decide +kernel
theorem dX0_loopsBy_22 : decode cX0_loopsBy 22 = .ok (.iand, 1) := by decide +kernel
theorem dX0_loopsBy_23 : decode cX0_loopsBy 23 = .ok (.ifCond .ne 18, 3) := by decide +kernel
theorem dX0_loopsBy_26 : decode cX0_loopsBy 26 = .ok (.iload 4, 2) := by decide +kernel
theorem dX0_loopsBy_28 : decode cX0_loopsBy 28 = .ok (.aload_n 0, 1) := by decide +kernel
theorem dX0_loopsBy_29 : decode cX0_loopsBy 29 = .ok (.iload 5, 2) := by decide +kernel
theorem dX0_loopsBy_31 : decode cX0_loopsBy 31 = .ok (.aload_n 1, 1) := by decide +kernel
theorem dX0_loopsBy_32 : decode cX0_loopsBy 32 = .ok (.invokevirtual 30, 3) := by decide +kernel
theorem dX0_loopsBy_35 : decode cX0_loopsBy 35 = .ok (.ior, 1) := by decide +kernel
theorem dX0_loopsBy_36 : decode cX0_loopsBy 36 = .ok (.istore 4, 2) := by decide +kernel
theorem dX0_loopsBy_38 : decode cX0_loopsBy 38 = .ok (.iinc 3 1, 3) := by decide +kernel
theorem dX0_loopsBy_41 : decode cX0_loopsBy 41 = .ok (.iinc 5 1, 3) := by decide +kernel
theorem dX0_loopsBy_44 : decode cX0_loopsBy 44 = .ok (.goto (-36), 3) := by decide +kernel
theorem dX0_loopsBy_47 : decode cX0_loopsBy 47 = .ok (.iload_n 3, 1) := by decide +kernel
theorem dX0_loopsBy_48 : decode cX0_loopsBy 48 = .ok (.ireturn, 1) := by decide +kernel
def f_X0_loopsBy_u41 (Q : Int → ml_St → Prop) (K8 : ml_St → Int → Int → Int → Int → Prop) (p1 : Int) (σ : ml_St) (x2 : Int) (x3 : Int) (x4 : Int) (x5 : Int) : Prop :=
I32 (x5 + 1) ∧
∀ y1 : Int, y1 = x5 + 1 →
K8 σ x2 x3 x4 y1
def f_X0_loopsBy_u8 (Q : Int → ml_St → Prop) (K47 : ml_St → Int → Prop) (p1 : Int) : Nat → ml_St → Int → Int → Int → Int → Prop
| 0, _, _, _, _, _ => False
| N + 1, σ, x2, x3, x4, x5 =>
I32 (2 * x2) ∧
((2 * x2) ≤ x5 →
K47 σ x3) ∧
(¬ ((2 * x2) ≤ x5) →
(((b_and (b_shr x4 x5) 1) : Int) ≠ 0 →
f_X0_loopsBy_u41 Q (f_X0_loopsBy_u8 Q K47 p1 N) p1 σ x2 x3 x4 x5) ∧
((b_and (b_shr x4 x5) 1) = 0 →
f_X0_loopFrom σ p1 x5 (fun r4 σ4 => ∀ _ : I32 r4,
∀ y5 : Int, y5 = b_or x4 r4 →
I32 (x3 + 1) ∧
∀ y6 : Int, y6 = x3 + 1 →
f_X0_loopsBy_u41 Q (f_X0_loopsBy_u8 Q K47 p1 N) p1 σ4 x2 y6 y5 x5)))
def f_X0_loopsBy_u47 (Q : Int → ml_St → Prop) (p1 : Int) (σ : ml_St) (x3 : Int) : Prop :=
Q x3 σ
def f_X0_loopsBy_u0 (Q : Int → ml_St → Prop) (p1 : Int) (σ : ml_St) (x2 : Int) : Prop :=
∃ N1, f_X0_loopsBy_u8 Q (f_X0_loopsBy_u47 Q p1) p1 N1 σ x2 0 0 0
def f_X0_loopsBy (σ : ml_St) (p1 : Int) (x2 : Int) (Q : Int → ml_St → Prop) : Prop := f_X0_loopsBy_u0 Q p1 σ x2
def rm_X0_loopsBy : Room := { frames := 1, cells := 0, slots := 0, locals := 26 }
set_option maxRecDepth 100000 in
set_option maxHeartbeats 4000000 in
theorem u_X0_loopsBy_41 {p : Program} {e : Env} {s : State} {m : MethodId} {args : Array Value} {below : List Frame} {meth : Method} {c : Code} {base : Nat} {D : va_G} {cA : Nat → ClassId} {n : Nat} {l : Launch} {p1 : Int} {Q : Int → ml_St → Prop} {K8 : ml_St → Int → Int → Int → Int → Prop} (X : ml_X p s m c meth args D cA cX0_loopsBy 6 RX0 (some .int)) (hn : 214 ≤ n) (hp_p1 : ml_at n p1 (19, 8)) (hK8 : ∀ (σ : ml_St) (x2 : Int) (x3 : Int) (x4 : Int) (x5 : Int) (h_x2 : I32 x2) (h_x3 : I32 x3) (h_x4 : I32 x4) (h_x5 : I32 x5) (ls : Array Slot), lv_has ls 6 [(0, .ref (base + (4 : Int).toNat)), (1, .ref (base + (p1 : Int).toNat)), (2, .int (Int32.ofInt x2)), (3, .int (Int32.ofInt x3)), (4, .int (Int32.ofInt x4)), (5, .int (Int32.ofInt x5))] → K8 σ x2 x3 x4 x5 → ml_V p l e rm_X0_loopsBy s m args below meth c (MQ below (ml_Qi I32 base D cA n Q) args s 0 0 (ml_A base)) base D cA 0 0 n n σ (F0 m 8 ls [])) (σ : ml_St) (x2 : Int) (x3 : Int) (x4 : Int) (x5 : Int) (h_x2 : I32 x2) (h_x3 : I32 x3) (h_x4 : I32 x4) (h_x5 : I32 x5) (ls : Array Slot) (hl : lv_has ls 6 [(0, .ref (base + (4 : Int).toNat)), (1, .ref (base + (p1 : Int).toNat)), (2, .int (Int32.ofInt x2)), (3, .int (Int32.ofInt x3)), (4, .int (Int32.ofInt x4)), (5, .int (Int32.ofInt x5))]) (hw : f_X0_loopsBy_u41 Q K8 p1 σ x2 x3 x4 x5) : ml_V p l e rm_X0_loopsBy s m args below meth c (MQ below (ml_Qi I32 base D cA n Q) args s 0 0 (ml_A base)) base D cA 0 0 n n σ (F0 m 41 ls []) := by
  unfold f_X0_loopsBy_u41 at hw
  obtain ⟨v1, hw⟩ := hw
  obtain ⟨y1, e1⟩ : ∃ y : Int, y = x5 + 1 := ⟨_, rfl⟩
  have hw := hw y1 e1
  rw [← e1] at v1
  refine ml_iinc (pc := 41) X e1 hl 5 rfl (by decide) (lst' := [(5, .int (Int32.ofInt y1)), (0, .ref (base + (4 : Int).toNat)), (1, .ref (base + (p1 : Int).toNat)), (2, .int (Int32.ofInt x2)), (3, .int (Int32.ofInt x3)), (4, .int (Int32.ofInt x4))]) rfl dX0_loopsBy_41 (fun ls hl => ?_)
  refine ml_goto (pc := 44) (tgt := 8) X dX0_loopsBy_44 (by decide) ?_
  exact hK8 σ x2 x3 x4 y1 h_x2 h_x3 h_x4 v1 _ (lv_sub hl [1, 2, 3, 4, 5, 0] rfl) hw
set_option maxRecDepth 100000 in
set_option maxHeartbeats 4000000 in
theorem u_X0_loopsBy_8 {p : Program} {e : Env} {s : State} {m : MethodId} {args : Array Value} {below : List Frame} {meth : Method} {c : Code} {base : Nat} {D : va_G} {cA : Nat → ClassId} {n : Nat} {l : Launch} {p1 : Int} {Q : Int → ml_St → Prop} {K47 : ml_St → Int → Prop} (X : ml_X p s m c meth args D cA cX0_loopsBy 6 RX0 (some .int)) (hn : 214 ≤ n) (hp_p1 : ml_at n p1 (19, 8)) (hK47 : ∀ (σ : ml_St) (x3 : Int) (h_x3 : I32 x3) (ls : Array Slot), lv_has ls 6 [(3, .int (Int32.ofInt x3))] → K47 σ x3 → ml_V p l e rm_X0_loopsBy s m args below meth c (MQ below (ml_Qi I32 base D cA n Q) args s 0 0 (ml_A base)) base D cA 0 0 n n σ (F0 m 47 ls [])) : ∀ (N : Nat) (σ : ml_St) (x2 : Int) (x3 : Int) (x4 : Int) (x5 : Int) (h_x2 : I32 x2) (h_x3 : I32 x3) (h_x4 : I32 x4) (h_x5 : I32 x5) (ls : Array Slot), lv_has ls 6 [(0, .ref (base + (4 : Int).toNat)), (1, .ref (base + (p1 : Int).toNat)), (2, .int (Int32.ofInt x2)), (3, .int (Int32.ofInt x3)), (4, .int (Int32.ofInt x4)), (5, .int (Int32.ofInt x5))] → f_X0_loopsBy_u8 Q K47 p1 N σ x2 x3 x4 x5 → ml_V p l e rm_X0_loopsBy s m args below meth c (MQ below (ml_Qi I32 base D cA n Q) args s 0 0 (ml_A base)) base D cA 0 0 n n σ (F0 m 8 ls []) := by
  intro N
  induction N with
  | zero => intro σ x2 x3 x4 x5 h_x2 h_x3 h_x4 h_x5 ls hl hw; exact False.elim hw
  | succ N ih =>
    intro σ x2 x3 x4 x5 h_x2 h_x3 h_x4 h_x5 ls hl hw
    unfold f_X0_loopsBy_u8 at hw
    refine ml_iload (pc := 8) X hl 5 rfl dX0_loopsBy_8 ?_
    refine ml_iconst (pc := 10) X dX0_loopsBy_10 ?_
    refine ml_iload_n (pc := 11) X hl 2 rfl rfl dX0_loopsBy_11 ?_
    obtain ⟨v1, hw⟩ := hw
    refine ml_imul (pc := 12) X dX0_loopsBy_12 ?_
    refine ml_icmp_ge (pc := 13) (tgt := 47) X h_x5 v1 dX0_loopsBy_13 (by decide) (fun c2 => ?_) (fun c2 => ?_)
    · have hw := hw.1 c2
      exact hK47 σ x3 h_x3 _ (lv_sub hl [3] rfl) hw
    · have hw := hw.2 c2
      refine ml_iload (pc := 16) X hl 4 rfl dX0_loopsBy_16 ?_
      refine ml_iload (pc := 18) X hl 5 rfl dX0_loopsBy_18 ?_
      refine ml_ishr (pc := 20) X dX0_loopsBy_20 ?_
      refine ml_iconst (pc := 21) X dX0_loopsBy_21 ?_
      refine ml_iand (pc := 22) X dX0_loopsBy_22 ?_
      refine ml_if_ne (pc := 23) (tgt := 41) X (b_and_r _ _) dX0_loopsBy_23 (by decide) (fun c3 => ?_) (fun c3 => ?_)
      · have hw := hw.1 c3
        exact u_X0_loopsBy_41 X hn hp_p1 ih σ x2 x3 x4 x5 h_x2 h_x3 h_x4 h_x5 _ (lv_sub hl [0, 1, 2, 3, 4, 5] rfl) hw
      · have hw := hw.2 c3
        refine ml_iload (pc := 26) X hl 4 rfl dX0_loopsBy_26 ?_
        refine ml_aload_n (pc := 28) X hl 0 rfl rfl dX0_loopsBy_28 ?_
        refine ml_iload (pc := 29) X hl 5 rfl dX0_loopsBy_29 ?_
        refine ml_aload_n (pc := 31) X hl 1 rfl rfl dX0_loopsBy_31 ?_
        refine ml_calliV (pc := 32) (rest := [.int (Int32.ofInt x4)]) X [.int (Int32.ofInt x5), .ref (base + (p1 : Int).toNat)] (by decide) rfl (ml_c4 hn) (c_X0_loopFrom l base D cA n hn σ p1 hp_p1 x5 h_x5 _ hw) cv_X0_30 ⟨rfl, rfl⟩ ⟨by decide, by decide⟩ rfl rfl hl (Nat.le_of_ble_eq_true rfl) ⟨Nat.zero_le _, Nat.zero_le _⟩ dX0_loopsBy_32 (fun r4 σ4 t4 hw => ?_)
        have hw := hw t4
        refine ml_ior (pc := 35) X dX0_loopsBy_35 ?_
        refine ml_topI (pc := 36) (fun y5 e5 => ?_)
        have hw := hw y5 e5
        have q5 : I32 y5 := by rw [e5]; exact (b_or_r _ _)
        refine ml_istore (pc := 36) X hl (by decide) (lst' := [(4, .int (Int32.ofInt y5)), (0, .ref (base + (4 : Int).toNat)), (1, .ref (base + (p1 : Int).toNat)), (2, .int (Int32.ofInt x2)), (3, .int (Int32.ofInt x3)), (5, .int (Int32.ofInt x5))]) rfl dX0_loopsBy_36 (fun ls hl => ?_)
        obtain ⟨v6, hw⟩ := hw
        obtain ⟨y6, e6⟩ : ∃ y : Int, y = x3 + 1 := ⟨_, rfl⟩
        have hw := hw y6 e6
        rw [← e6] at v6
        refine ml_iinc (pc := 38) X e6 hl 4 rfl (by decide) (lst' := [(3, .int (Int32.ofInt y6)), (4, .int (Int32.ofInt y5)), (0, .ref (base + (4 : Int).toNat)), (1, .ref (base + (p1 : Int).toNat)), (2, .int (Int32.ofInt x2)), (5, .int (Int32.ofInt x5))]) rfl dX0_loopsBy_38 (fun ls hl => ?_)
        exact u_X0_loopsBy_41 X hn hp_p1 ih σ4 x2 y6 y5 x5 h_x2 v6 q5 h_x5 _ (lv_sub hl [2, 3, 4, 0, 1, 5] rfl) hw
set_option maxRecDepth 100000 in
set_option maxHeartbeats 4000000 in
theorem u_X0_loopsBy_47 {p : Program} {e : Env} {s : State} {m : MethodId} {args : Array Value} {below : List Frame} {meth : Method} {c : Code} {base : Nat} {D : va_G} {cA : Nat → ClassId} {n : Nat} {l : Launch} {p1 : Int} {Q : Int → ml_St → Prop} (X : ml_X p s m c meth args D cA cX0_loopsBy 6 RX0 (some .int)) (hn : 214 ≤ n) (hp_p1 : ml_at n p1 (19, 8)) (σ : ml_St) (x3 : Int) (h_x3 : I32 x3) (ls : Array Slot) (hl : lv_has ls 6 [(3, .int (Int32.ofInt x3))]) (hw : f_X0_loopsBy_u47 Q p1 σ x3) : ml_V p l e rm_X0_loopsBy s m args below meth c (MQ below (ml_Qi I32 base D cA n Q) args s 0 0 (ml_A base)) base D cA 0 0 n n σ (F0 m 47 ls []) := by
  unfold f_X0_loopsBy_u47 at hw
  refine ml_iload_n (pc := 47) X hl 0 rfl rfl dX0_loopsBy_47 ?_
  exact ml_iret (pc := 48) X h_x3 hw dX0_loopsBy_48
set_option maxRecDepth 100000 in
set_option maxHeartbeats 4000000 in
theorem u_X0_loopsBy_0 {p : Program} {e : Env} {s : State} {m : MethodId} {args : Array Value} {below : List Frame} {meth : Method} {c : Code} {base : Nat} {D : va_G} {cA : Nat → ClassId} {n : Nat} {l : Launch} {p1 : Int} {Q : Int → ml_St → Prop} (X : ml_X p s m c meth args D cA cX0_loopsBy 6 RX0 (some .int)) (hn : 214 ≤ n) (hp_p1 : ml_at n p1 (19, 8)) (σ : ml_St) (x2 : Int) (h_x2 : I32 x2) (ls : Array Slot) (hl : lv_has ls 6 [(0, .ref (base + (4 : Int).toNat)), (1, .ref (base + (p1 : Int).toNat)), (2, .int (Int32.ofInt x2))]) (hw : f_X0_loopsBy_u0 Q p1 σ x2) : ml_V p l e rm_X0_loopsBy s m args below meth c (MQ below (ml_Qi I32 base D cA n Q) args s 0 0 (ml_A base)) base D cA 0 0 n n σ (F0 m 0 ls []) := by
  unfold f_X0_loopsBy_u0 at hw
  refine ml_iconst (pc := 0) X dX0_loopsBy_0 ?_
  refine ml_istore_n (pc := 1) X rfl hl (by decide) (lst' := [(3, .int (Int32.ofInt 0)), (0, .ref (base + (4 : Int).toNat)), (1, .ref (base + (p1 : Int).toNat)), (2, .int (Int32.ofInt x2))]) rfl dX0_loopsBy_1 (fun ls hl => ?_)
  refine ml_iconst (pc := 2) X dX0_loopsBy_2 ?_
  refine ml_istore (pc := 3) X hl (by decide) (lst' := [(4, .int (Int32.ofInt 0)), (3, .int (Int32.ofInt 0)), (0, .ref (base + (4 : Int).toNat)), (1, .ref (base + (p1 : Int).toNat)), (2, .int (Int32.ofInt x2))]) rfl dX0_loopsBy_3 (fun ls hl => ?_)
  refine ml_iconst (pc := 5) X dX0_loopsBy_5 ?_
  refine ml_istore (pc := 6) X hl (by decide) (lst' := [(5, .int (Int32.ofInt 0)), (4, .int (Int32.ofInt 0)), (3, .int (Int32.ofInt 0)), (0, .ref (base + (4 : Int).toNat)), (1, .ref (base + (p1 : Int).toNat)), (2, .int (Int32.ofInt x2))]) rfl dX0_loopsBy_6 (fun ls hl => ?_)
  obtain ⟨N0, hw⟩ := hw
  exact u_X0_loopsBy_8 X hn hp_p1 (fun σ x3 h_x3 ls hl hw => u_X0_loopsBy_47 X hn hp_p1 σ x3 h_x3 ls hl hw) N0 σ x2 0 0 0 h_x2 ⟨by decide, by decide⟩ ⟨by decide, by decide⟩ ⟨by decide, by decide⟩ _ (lv_sub hl [3, 4, 5, 2, 1, 0] rfl) hw
set_option maxRecDepth 100000 in
theorem c_X0_loopsBy (l : Launch) (base : Nat) (D : va_G) (cA : Nat → ClassId) (n : Nat) (hn : 214 ≤ n) (σ : ml_St) (p1 : Int) (hp_p1 : ml_at n p1 (19, 8)) (x2 : Int) (h_x2 : I32 x2) (Q : Int → ml_St → Prop) (hw : f_X0_loopsBy σ p1 x2 Q) : Met l yX0_loopsBy (Cond.code yX0_loopsBy cX0_loopsBy 6 (some .int) :: ml_T) rm_X0_loopsBy (va_Pc [.ref (base + (4 : Int).toNat), .ref (base + (p1 : Int).toNat), .int (Int32.ofInt x2)] (ml_U base D cA n σ)) (ml_Qi I32 base D cA n Q) 0 0 (ml_A base) := by
  refine Met.ofW (cc := cX0_loopsBy) (maxL := 6) (ret := (some .int)) (by decide) rfl ?_
  intro p e s m args below meth c s₁ B hml hv
  obtain ⟨rfl, hP, hK, hok, hro⟩ := hv
  have X : ml_X p s m c meth _ D cA cX0_loopsBy 6 RX0 (some .int) := ⟨B.exec, B.bytes, hml, findClass_of_methodNamed B.named, fun w hw => atoms_spec (ws := Cond.code yX0_loopsBy cX0_loopsBy 6 (some .int) :: ml_T) B.pre w (List.mem_cons_of_mem _ hw), hK, B.notSynchronized, B.returns⟩
  have hl := lv_entry [.ref (base + (4 : Int).toNat), .ref (base + (p1 : Int).toNat), .int (Int32.ofInt x2)] (n := 6) (Nat.le_of_ble_eq_true rfl)
  rw [lg_entry_eq]
  generalize (lg_sl [.ref (base + (4 : Int).toNat), .ref (base + (p1 : Int).toNat), .int (Int32.ofInt x2)] ++ List.replicate (6 - (lg_sl [.ref (base + (4 : Int).toNat), .ref (base + (p1 : Int).toNat), .int (Int32.ofInt x2)]).length) Slot.unset).toArray = ls at hl ⊢
  have hl : lv_has ls 6 [(0, .ref (base + (4 : Int).toNat)), (1, .ref (base + (p1 : Int).toNat)), (2, .int (Int32.ofInt x2))] := hl
  unfold f_X0_loopsBy at hw
  exact u_X0_loopsBy_0 X hn hp_p1 σ x2 h_x2 _ (lv_sub hl [0, 1, 2] rfl) hw s.heap [] hP va_S.rf hok hro
theorem dX11_loops_0 : decode cX11_loops 0 = .ok (.aload_n 0, 1) := by decide +kernel
theorem dX11_loops_1 : decode cX11_loops 1 = .ok (.iload_n 1, 1) := by decide +kernel
theorem dX11_loops_2 : decode cX11_loops 2 = .ok (.invokevirtual 121, 3) := by decide +kernel
theorem dX11_loops_5 : decode cX11_loops 5 = .ok (.ifCond .ne 7, 3) := by decide +kernel
theorem dX11_loops_8 : decode cX11_loops 8 = .ok (.ldc2_w 119, 3) := by decide +kernel
theorem dX11_loops_11 : decode cX11_loops 11 = .ok (.lreturn, 1) := by decide +kernel
theorem dX11_loops_12 : decode cX11_loops 12 = .ok (.aload_n 0, 1) := by decide +kernel
theorem dX11_loops_13 : decode cX11_loops 13 = .ok (.getfield 67, 3) := by decide +kernel
theorem dX11_loops_16 : decode cX11_loops 16 = .ok (.iload_n 1, 1) := by decide +kernel
theorem dX11_loops_17 : decode cX11_loops 17 = .ok (.aaload, 1) := by decide +kernel
theorem dX11_loops_18 : decode cX11_loops 18 = .ok (.getfield 112, 3) := by decide +kernel
theorem dX11_loops_21 : decode cX11_loops 21 = .ok (.astore_n 3, 1) := by decide +kernel
theorem dX11_loops_22 : decode cX11_loops 22 = .ok (.iload_n 2, 1) := by decide +kernel
theorem dX11_loops_23 : decode cX11_loops 23 = .ok (.tableswitch 63 0 3 #[29, 34, 39, 44], 29) := by decide +kernel
theorem dX11_loops_52 : decode cX11_loops 52 = .ok (.aload_n 3, 1) := by decide +kernel
theorem dX11_loops_53 : decode cX11_loops 53 = .ok (.getfield 135, 3) := by decide +kernel
theorem dX11_loops_56 : decode cX11_loops 56 = .ok (.lreturn, 1) := by decide +kernel
theorem dX11_loops_57 : decode cX11_loops 57 = .ok (.aload_n 3, 1) := by decide +kernel
theorem dX11_loops_58 : decode cX11_loops 58 = .ok (.getfield 138, 3) := by decide +kernel
theorem dX11_loops_61 : decode cX11_loops 61 = .ok (.lreturn, 1) := by decide +kernel
theorem dX11_loops_62 : decode cX11_loops 62 = .ok (.aload_n 3, 1) := by decide +kernel
theorem dX11_loops_63 : decode cX11_loops 63 = .ok (.getfield 141, 3) := by decide +kernel
theorem dX11_loops_66 : decode cX11_loops 66 = .ok (.lreturn, 1) := by decide +kernel
theorem dX11_loops_67 : decode cX11_loops 67 = .ok (.aload_n 3, 1) := by decide +kernel
theorem dX11_loops_68 : decode cX11_loops 68 = .ok (.getfield 135, 3) := by decide +kernel
theorem dX11_loops_71 : decode cX11_loops 71 = .ok (.aload_n 0, 1) := by decide +kernel
theorem dX11_loops_72 : decode cX11_loops 72 = .ok (.getfield 19, 3) := by decide +kernel
theorem dX11_loops_75 : decode cX11_loops 75 = .ok (.aload_n 3, 1) := by decide +kernel
theorem dX11_loops_76 : decode cX11_loops 76 = .ok (.aload_n 0, 1) := by decide +kernel
theorem dX11_loops_77 : decode cX11_loops 77 = .ok (.getfield 82, 3) := by decide +kernel
theorem dX11_loops_80 : decode cX11_loops 80 = .ok (.invokevirtual 144, 3) := by decide +kernel
theorem dX11_loops_83 : decode cX11_loops 83 = .ok (.i2l, 1) := by decide +kernel
theorem dX11_loops_84 : decode cX11_loops 84 = .ok (.ladd, 1) := by decide +kernel
theorem dX11_loops_85 : decode cX11_loops 85 = .ok (.lreturn, 1) := by decide +kernel
theorem dX11_loops_86 : decode cX11_loops 86 = .ok (.ldc2_w 119, 3) := by decide +kernel
theorem dX11_loops_89 : decode cX11_loops 89 = .ok (.lreturn, 1) := by decide +kernel
def f_X11_loops_u0 (Q : Int → ml_St → Prop) (σ : ml_St) (x1 : Int) (x2 : Int) : Prop :=
f_X11_isMade σ x1 (fun r1 σ1 => ∀ _ : ml_B r1,
(r1 ≠ 0 →
(0 : Int) ≤ x1 ∧ (x1 : Int) < 16 ∧
(x2 = 0 →
∀ _ : I64 (σ1 ((119 + 6 * x1) + 2) 2),
Q (σ1 ((119 + 6 * x1) + 2) 2) σ1) ∧
(x2 = 1 →
∀ _ : I64 (σ1 ((119 + 6 * x1) + 2) 3),
Q (σ1 ((119 + 6 * x1) + 2) 3) σ1) ∧
(x2 = 2 →
∀ _ : I64 (σ1 ((119 + 6 * x1) + 2) 4),
Q (σ1 ((119 + 6 * x1) + 2) 4) σ1) ∧
(x2 = 3 →
∀ _ : I64 (σ1 ((119 + 6 * x1) + 2) 2),
∀ _ : I32 (σ1 1 11),
f_X0_loopsBy σ1 ((119 + 6 * x1) + 2) (σ1 1 11) (fun r10 σ10 => ∀ _ : I32 r10,
Q (w64 ((σ1 ((119 + 6 * x1) + 2) 2) + r10)) σ10)) ∧
(x2 < 0 ∨ 3 < x2 →
Q (-1) σ1)) ∧
(r1 = 0 →
Q (-1) σ1))
def f_X11_loops (σ : ml_St) (x1 : Int) (x2 : Int) (Q : Int → ml_St → Prop) : Prop := f_X11_loops_u0 Q σ x1 x2
def rm_X11_loops : Room := { frames := 2, cells := 0, slots := 0, locals := 51 }
set_option maxRecDepth 100000 in
set_option maxHeartbeats 4000000 in
theorem u_X11_loops_0 {p : Program} {e : Env} {s : State} {m : MethodId} {args : Array Value} {below : List Frame} {meth : Method} {c : Code} {base : Nat} {D : va_G} {cA : Nat → ClassId} {n : Nat} {l : Launch} {Q : Int → ml_St → Prop} (X : ml_X p s m c meth args D cA cX11_loops 4 RX11 (some .long)) (hn : 214 ≤ n) (σ : ml_St) (x1 : Int) (x2 : Int) (h_x1 : I32 x1) (h_x2 : I32 x2) (ls : Array Slot) (hl : lv_has ls 4 [(0, .ref (base + (1 : Int).toNat)), (1, .int (Int32.ofInt x1)), (2, .int (Int32.ofInt x2))]) (hw : f_X11_loops_u0 Q σ x1 x2) : ml_V p l e rm_X11_loops s m args below meth c (MQ below (ml_Ql base D cA n Q) args s 0 0 (ml_A base)) base D cA 0 0 n n σ (F0 m 0 ls []) := by
  unfold f_X11_loops_u0 at hw
  refine ml_aload_n (pc := 0) X hl 0 rfl rfl dX11_loops_0 ?_
  refine ml_iload_n (pc := 1) X hl 1 rfl rfl dX11_loops_1 ?_
  refine ml_callzV (pc := 2) (rest := []) X [.int (Int32.ofInt x1)] (by decide) rfl (ml_c1 hn) (c_X11_isMade l base D cA n hn σ x1 h_x1 _ hw) cv_X11_121 ⟨rfl, rfl⟩ ⟨by decide, by decide⟩ rfl rfl hl (Nat.le_of_ble_eq_true rfl) ⟨Nat.zero_le _, Nat.zero_le _⟩ dX11_loops_2 (fun r1 σ1 t1 hw => ?_)
  have hw := hw t1
  refine ml_if_ne (pc := 5) (tgt := 12) X t1.i dX11_loops_5 (by decide) (fun c2 => ?_) (fun c2 => ?_)
  · have hw := hw.1 c2
    refine ml_aload_n (pc := 12) X hl 0 rfl rfl dX11_loops_12 ?_
    refine gf_X11_67 (pc := 13) X (ml_c1 hn) dX11_loops_13 ?_
    refine ml_iload_n (pc := 16) X hl 1 rfl rfl dX11_loops_16 ?_
    obtain ⟨a3, b3, hw⟩ := hw
    refine ml_aald_words (pc := 17) X hn a3 b3 dX11_loops_17 ?_
    refine gf_X11_112 (pc := 18) X (ml_at_words hn a3 b3) dX11_loops_18 ?_
    refine ml_astore_n (pc := 21) X rfl hl (by decide) (lst' := [(3, .ref (base + (((119 + 6 * x1) + 2) : Int).toNat)), (0, .ref (base + (1 : Int).toNat)), (1, .int (Int32.ofInt x1)), (2, .int (Int32.ofInt x2))]) rfl dX11_loops_21 (fun ls hl => ?_)
    refine ml_iload_n (pc := 22) X hl 3 rfl rfl dX11_loops_22 ?_
    rcases (show x2 = 0 ∨ x2 = 1 ∨ x2 = 2 ∨ x2 = 3 ∨ (x2 < 0 ∨ 3 < x2) by omega) with c4 | c4 | c4 | c4 | c4
    · have hw := hw.1 c4
      refine ml_tIn (pc := 23) (off := 29) (tgt := 52) X c4 dX11_loops_23 (by decide) (by decide) (by decide +kernel) (by decide) ?_
      refine ml_aload_n (pc := 52) X hl 0 rfl rfl dX11_loops_52 ?_
      refine gf_X11_135 (pc := 53) X (ml_r20_2 hn (ml_at_words hn a3 b3)) dX11_loops_53 (fun r5 => ?_)
      have hw := hw r5
      exact ml_lret (pc := 56) X r5 hw dX11_loops_56
    · have hw := hw.2.1 c4
      refine ml_tIn (pc := 23) (off := 34) (tgt := 57) X c4 dX11_loops_23 (by decide) (by decide) (by decide +kernel) (by decide) ?_
      refine ml_aload_n (pc := 57) X hl 0 rfl rfl dX11_loops_57 ?_
      refine gf_X11_138 (pc := 58) X (ml_r20_2 hn (ml_at_words hn a3 b3)) dX11_loops_58 (fun r6 => ?_)
      have hw := hw r6
      exact ml_lret (pc := 61) X r6 hw dX11_loops_61
    · have hw := hw.2.2.1 c4
      refine ml_tIn (pc := 23) (off := 39) (tgt := 62) X c4 dX11_loops_23 (by decide) (by decide) (by decide +kernel) (by decide) ?_
      refine ml_aload_n (pc := 62) X hl 0 rfl rfl dX11_loops_62 ?_
      refine gf_X11_141 (pc := 63) X (ml_r20_2 hn (ml_at_words hn a3 b3)) dX11_loops_63 (fun r7 => ?_)
      have hw := hw r7
      exact ml_lret (pc := 66) X r7 hw dX11_loops_66
    · have hw := hw.2.2.2.1 c4
      refine ml_tIn (pc := 23) (off := 44) (tgt := 67) X c4 dX11_loops_23 (by decide) (by decide) (by decide +kernel) (by decide) ?_
      refine ml_aload_n (pc := 67) X hl 0 rfl rfl dX11_loops_67 ?_
      refine gf_X11_135 (pc := 68) X (ml_r20_2 hn (ml_at_words hn a3 b3)) dX11_loops_68 (fun r8 => ?_)
      have hw := hw r8
      refine ml_aload_n (pc := 71) X hl 1 rfl rfl dX11_loops_71 ?_
      refine gf_X11_19 (pc := 72) X (ml_c1 hn) dX11_loops_72 ?_
      refine ml_aload_n (pc := 75) X hl 0 rfl rfl dX11_loops_75 ?_
      refine ml_aload_n (pc := 76) X hl 1 rfl rfl dX11_loops_76 ?_
      refine gf_X11_82 (pc := 77) X (ml_c1 hn) dX11_loops_77 (fun r9 => ?_)
      have hw := hw r9
      refine ml_calliV (pc := 80) (rest := [.long (Int64.ofInt (σ1 ((119 + 6 * x1) + 2) 2))]) X [.ref (base + (((119 + 6 * x1) + 2) : Int).toNat), .int (Int32.ofInt (σ1 1 11))] (by decide) rfl (ml_c4 hn) (c_X0_loopsBy l base D cA n hn σ1 ((119 + 6 * x1) + 2) (ml_r20_2 hn (ml_at_words hn a3 b3)) (σ1 1 11) r9 _ hw) cv_X11_144 ⟨rfl, rfl⟩ ⟨by decide, by decide⟩ rfl rfl hl (Nat.le_of_ble_eq_true rfl) ⟨Nat.zero_le _, Nat.zero_le _⟩ dX11_loops_80 (fun r10 σ10 t10 hw => ?_)
      have hw := hw t10
      refine ml_i2l (pc := 83) X t10 dX11_loops_83 ?_
      refine ml_laddW (pc := 84) X dX11_loops_84 ?_
      exact ml_lret (pc := 85) X (w64_r _) hw dX11_loops_85
    · have hw := hw.2.2.2.2 c4
      refine ml_tOut (pc := 23) (tgt := 86) X h_x2 dX11_loops_23 c4 (by decide) ?_
      refine ml_ldc2 (pc := 86) (v := (-1)) X dX11_loops_86 tc_3_125 ?_
      exact ml_lret (pc := 89) X ⟨by decide, by decide⟩ hw dX11_loops_89
  · have hw := hw.2 c2
    refine ml_ldc2 (pc := 8) (v := (-1)) X dX11_loops_8 tc_3_125 ?_
    exact ml_lret (pc := 11) X ⟨by decide, by decide⟩ hw dX11_loops_11
set_option maxRecDepth 100000 in
theorem c_X11_loops (l : Launch) (base : Nat) (D : va_G) (cA : Nat → ClassId) (n : Nat) (hn : 214 ≤ n) (σ : ml_St) (x1 : Int) (x2 : Int) (h_x1 : I32 x1) (h_x2 : I32 x2) (Q : Int → ml_St → Prop) (hw : f_X11_loops σ x1 x2 Q) : Met l yX11_loops (Cond.code yX11_loops cX11_loops 4 (some .long) :: ml_T) rm_X11_loops (va_Pc [.ref (base + (1 : Int).toNat), .int (Int32.ofInt x1), .int (Int32.ofInt x2)] (ml_U base D cA n σ)) (ml_Ql base D cA n Q) 0 0 (ml_A base) := by
  refine Met.ofW (cc := cX11_loops) (maxL := 4) (ret := (some .long)) (by decide) rfl ?_
  intro p e s m args below meth c s₁ B hml hv
  obtain ⟨rfl, hP, hK, hok, hro⟩ := hv
  have X : ml_X p s m c meth _ D cA cX11_loops 4 RX11 (some .long) := ⟨B.exec, B.bytes, hml, findClass_of_methodNamed B.named, fun w hw => atoms_spec (ws := Cond.code yX11_loops cX11_loops 4 (some .long) :: ml_T) B.pre w (List.mem_cons_of_mem _ hw), hK, B.notSynchronized, B.returns⟩
  have hl := lv_entry [.ref (base + (1 : Int).toNat), .int (Int32.ofInt x1), .int (Int32.ofInt x2)] (n := 4) (Nat.le_of_ble_eq_true rfl)
  rw [lg_entry_eq]
  generalize (lg_sl [.ref (base + (1 : Int).toNat), .int (Int32.ofInt x1), .int (Int32.ofInt x2)] ++ List.replicate (4 - (lg_sl [.ref (base + (1 : Int).toNat), .int (Int32.ofInt x1), .int (Int32.ofInt x2)]).length) Slot.unset).toArray = ls at hl ⊢
  have hl : lv_has ls 4 [(0, .ref (base + (1 : Int).toNat)), (1, .int (Int32.ofInt x1)), (2, .int (Int32.ofInt x2))] := hl
  unfold f_X11_loops at hw
  exact u_X11_loops_0 X hn σ x1 x2 h_x1 h_x2 _ (lv_sub hl [0, 1, 2] rfl) hw s.heap [] hP va_S.rf hok hro
theorem dJ6_bitCount_0f7a4_0 : decode cJ6_bitCount_0f7a4 0 = .ok (.iload_n 0, 1) := by decide +kernel
theorem dJ6_bitCount_0f7a4_1 : decode cJ6_bitCount_0f7a4 1 = .ok (.iload_n 0, 1) := by decide +kernel
theorem dJ6_bitCount_0f7a4_2 : decode cJ6_bitCount_0f7a4 2 = .ok (.iconst 1, 1) := by decide +kernel
theorem dJ6_bitCount_0f7a4_3 : decode cJ6_bitCount_0f7a4 3 = .ok (.iushr, 1) := by decide +kernel
theorem dJ6_bitCount_0f7a4_4 : decode cJ6_bitCount_0f7a4 4 = .ok (.ldc_w 265, 3) := by decide +kernel
theorem dJ6_bitCount_0f7a4_7 : decode cJ6_bitCount_0f7a4 7 = .ok (.iand, 1) := by decide +kernel
theorem dJ6_bitCount_0f7a4_8 : decode cJ6_bitCount_0f7a4 8 = .ok (.isub, 1) := by decide +kernel
theorem dJ6_bitCount_0f7a4_9 : decode cJ6_bitCount_0f7a4 9 = .ok (.istore_n 0, 1) := by decide +kernel
theorem dJ6_bitCount_0f7a4_10 : decode cJ6_bitCount_0f7a4 10 = .ok (.iload_n 0, 1) := by decide +kernel
theorem dJ6_bitCount_0f7a4_11 : decode cJ6_bitCount_0f7a4 11 = .ok (.ldc_w 266, 3) := by decide +kernel
theorem dJ6_bitCount_0f7a4_14 : decode cJ6_bitCount_0f7a4 14 = .ok (.iand, 1) := by decide +kernel
theorem dJ6_bitCount_0f7a4_15 : decode cJ6_bitCount_0f7a4 15 = .ok (.iload_n 0, 1) := by decide +kernel
theorem dJ6_bitCount_0f7a4_16 : decode cJ6_bitCount_0f7a4 16 = .ok (.iconst 2, 1) := by decide +kernel
theorem dJ6_bitCount_0f7a4_17 : decode cJ6_bitCount_0f7a4 17 = .ok (.iushr, 1) := by decide +kernel
theorem dJ6_bitCount_0f7a4_18 : decode cJ6_bitCount_0f7a4 18 = .ok (.ldc_w 266, 3) := by decide +kernel
theorem dJ6_bitCount_0f7a4_21 : decode cJ6_bitCount_0f7a4 21 = .ok (.iand, 1) := by decide +kernel
theorem dJ6_bitCount_0f7a4_22 : decode cJ6_bitCount_0f7a4 22 = .ok (.iadd, 1) := by decide +kernel
theorem dJ6_bitCount_0f7a4_23 : decode cJ6_bitCount_0f7a4 23 = .ok (.istore_n 0, 1) := by decide +kernel
theorem dJ6_bitCount_0f7a4_24 : decode cJ6_bitCount_0f7a4 24 = .ok (.iload_n 0, 1) := by decide +kernel
theorem dJ6_bitCount_0f7a4_25 : decode cJ6_bitCount_0f7a4 25 = .ok (.iload_n 0, 1) := by decide +kernel
theorem dJ6_bitCount_0f7a4_26 : decode cJ6_bitCount_0f7a4 26 = .ok (.iconst 4, 1) := by decide +kernel
theorem dJ6_bitCount_0f7a4_27 : decode cJ6_bitCount_0f7a4 27 = .ok (.iushr, 1) := by decide +kernel
theorem dJ6_bitCount_0f7a4_28 : decode cJ6_bitCount_0f7a4 28 = .ok (.iadd, 1) := by decide +kernel
theorem dJ6_bitCount_0f7a4_29 : decode cJ6_bitCount_0f7a4 29 = .ok (.ldc_w 267, 3) := by decide +kernel
theorem dJ6_bitCount_0f7a4_32 : decode cJ6_bitCount_0f7a4 32 = .ok (.iand, 1) := by decide +kernel
theorem dJ6_bitCount_0f7a4_33 : decode cJ6_bitCount_0f7a4 33 = .ok (.istore_n 0, 1) := by decide +kernel
theorem dJ6_bitCount_0f7a4_34 : decode cJ6_bitCount_0f7a4 34 = .ok (.iload_n 0, 1) := by decide +kernel
theorem dJ6_bitCount_0f7a4_35 : decode cJ6_bitCount_0f7a4 35 = .ok (.iload_n 0, 1) := by decide +kernel
theorem dJ6_bitCount_0f7a4_36 : decode cJ6_bitCount_0f7a4 36 = .ok (.bipush 8, 2) := by decide +kernel
theorem dJ6_bitCount_0f7a4_38 : decode cJ6_bitCount_0f7a4 38 = .ok (.iushr, 1) := by decide +kernel
theorem dJ6_bitCount_0f7a4_39 : decode cJ6_bitCount_0f7a4 39 = .ok (.iadd, 1) := by decide +kernel
theorem dJ6_bitCount_0f7a4_40 : decode cJ6_bitCount_0f7a4 40 = .ok (.istore_n 0, 1) := by decide +kernel
theorem dJ6_bitCount_0f7a4_41 : decode cJ6_bitCount_0f7a4 41 = .ok (.iload_n 0, 1) := by decide +kernel
theorem dJ6_bitCount_0f7a4_42 : decode cJ6_bitCount_0f7a4 42 = .ok (.iload_n 0, 1) := by decide +kernel
theorem dJ6_bitCount_0f7a4_43 : decode cJ6_bitCount_0f7a4 43 = .ok (.bipush 16, 2) := by decide +kernel
theorem dJ6_bitCount_0f7a4_45 : decode cJ6_bitCount_0f7a4 45 = .ok (.iushr, 1) := by decide +kernel
theorem dJ6_bitCount_0f7a4_46 : decode cJ6_bitCount_0f7a4 46 = .ok (.iadd, 1) := by decide +kernel
theorem dJ6_bitCount_0f7a4_47 : decode cJ6_bitCount_0f7a4 47 = .ok (.istore_n 0, 1) := by decide +kernel
theorem dJ6_bitCount_0f7a4_48 : decode cJ6_bitCount_0f7a4 48 = .ok (.iload_n 0, 1) := by decide +kernel
theorem dJ6_bitCount_0f7a4_49 : decode cJ6_bitCount_0f7a4 49 = .ok (.bipush 63, 2) := by decide +kernel
theorem dJ6_bitCount_0f7a4_51 : decode cJ6_bitCount_0f7a4 51 = .ok (.iand, 1) := by decide +kernel
theorem dJ6_bitCount_0f7a4_52 : decode cJ6_bitCount_0f7a4 52 = .ok (.ireturn, 1) := by decide +kernel
def f_J6_bitCount_0f7a4_u0 (Q : Int → ml_St → Prop) (σ : ml_St) (x0 : Int) : Prop :=
I32 (x0 - (b_and (b_ushr x0 1) 1431655765)) ∧
∀ y2 : Int, y2 = x0 - (b_and (b_ushr x0 1) 1431655765) →
I32 ((b_and y2 858993459) + (b_and (b_ushr y2 2) 858993459)) ∧
∀ y4 : Int, y4 = (b_and y2 858993459) + (b_and (b_ushr y2 2) 858993459) →
I32 (y4 + (b_ushr y4 4)) ∧
∀ y6 : Int, y6 = b_and (y4 + (b_ushr y4 4)) 252645135 →
I32 (y6 + (b_ushr y6 8)) ∧
∀ y8 : Int, y8 = y6 + (b_ushr y6 8) →
I32 (y8 + (b_ushr y8 16)) ∧
∀ y10 : Int, y10 = y8 + (b_ushr y8 16) →
Q (b_and y10 63) σ
def f_J6_bitCount_0f7a4 (σ : ml_St) (x0 : Int) (Q : Int → ml_St → Prop) : Prop := f_J6_bitCount_0f7a4_u0 Q σ x0
def rm_J6_bitCount_0f7a4 : Room := { frames := 0, cells := 0, slots := 0, locals := 0 }
set_option maxRecDepth 100000 in
set_option maxHeartbeats 4000000 in
theorem u_J6_bitCount_0f7a4_0 {p : Program} {e : Env} {s : State} {m : MethodId} {args : Array Value} {below : List Frame} {meth : Method} {c : Code} {base : Nat} {D : va_G} {cA : Nat → ClassId} {n : Nat} {l : Launch} {Q : Int → ml_St → Prop} (X : ml_X p s m c meth args D cA cJ6_bitCount_0f7a4 1 RJ6 (some .int)) (hn : 214 ≤ n) (σ : ml_St) (x0 : Int) (h_x0 : I32 x0) (ls : Array Slot) (hl : lv_has ls 1 [(0, .int (Int32.ofInt x0))]) (hw : f_J6_bitCount_0f7a4_u0 Q σ x0) : ml_V p l e rm_J6_bitCount_0f7a4 s m args below meth c (MQ below (ml_Qi I32 base D cA n Q) args s 0 0 (ml_A base)) base D cA 0 0 n n σ (F0 m 0 ls []) := by
  unfold f_J6_bitCount_0f7a4_u0 at hw
  refine ml_iload_n (pc := 0) X hl 0 rfl rfl dJ6_bitCount_0f7a4_0 ?_
  refine ml_iload_n (pc := 1) X hl 0 rfl rfl dJ6_bitCount_0f7a4_1 ?_
  refine ml_iconst (pc := 2) X dJ6_bitCount_0f7a4_2 ?_
  refine ml_iushr (pc := 3) X dJ6_bitCount_0f7a4_3 ?_
  refine ml_ldcw (pc := 4) (v := 1431655765) X dJ6_bitCount_0f7a4_4 tc_3_171 ?_
  refine ml_iand (pc := 7) X dJ6_bitCount_0f7a4_7 ?_
  obtain ⟨v1, hw⟩ := hw
  refine ml_isub (pc := 8) X dJ6_bitCount_0f7a4_8 ?_
  refine ml_topI (pc := 9) (fun y2 e2 => ?_)
  have hw := hw y2 e2
  have q2 : I32 y2 := by rw [e2]; exact v1
  refine ml_istore_n (pc := 9) X rfl hl (by decide) (lst' := [(0, .int (Int32.ofInt y2))]) rfl dJ6_bitCount_0f7a4_9 (fun ls hl => ?_)
  refine ml_iload_n (pc := 10) X hl 0 rfl rfl dJ6_bitCount_0f7a4_10 ?_
  refine ml_ldcw (pc := 11) (v := 858993459) X dJ6_bitCount_0f7a4_11 tc_3_172 ?_
  refine ml_iand (pc := 14) X dJ6_bitCount_0f7a4_14 ?_
  refine ml_iload_n (pc := 15) X hl 0 rfl rfl dJ6_bitCount_0f7a4_15 ?_
  refine ml_iconst (pc := 16) X dJ6_bitCount_0f7a4_16 ?_
  refine ml_iushr (pc := 17) X dJ6_bitCount_0f7a4_17 ?_
  refine ml_ldcw (pc := 18) (v := 858993459) X dJ6_bitCount_0f7a4_18 tc_3_172 ?_
  refine ml_iand (pc := 21) X dJ6_bitCount_0f7a4_21 ?_
  obtain ⟨v3, hw⟩ := hw
  refine ml_iadd (pc := 22) X dJ6_bitCount_0f7a4_22 ?_
  refine ml_topI (pc := 23) (fun y4 e4 => ?_)
  have hw := hw y4 e4
  have q4 : I32 y4 := by rw [e4]; exact v3
  refine ml_istore_n (pc := 23) X rfl hl (by decide) (lst' := [(0, .int (Int32.ofInt y4))]) rfl dJ6_bitCount_0f7a4_23 (fun ls hl => ?_)
  refine ml_iload_n (pc := 24) X hl 0 rfl rfl dJ6_bitCount_0f7a4_24 ?_
  refine ml_iload_n (pc := 25) X hl 0 rfl rfl dJ6_bitCount_0f7a4_25 ?_
  refine ml_iconst (pc := 26) X dJ6_bitCount_0f7a4_26 ?_
  refine ml_iushr (pc := 27) X dJ6_bitCount_0f7a4_27 ?_
  obtain ⟨v5, hw⟩ := hw
  refine ml_iadd (pc := 28) X dJ6_bitCount_0f7a4_28 ?_
  refine ml_ldcw (pc := 29) (v := 252645135) X dJ6_bitCount_0f7a4_29 tc_3_173 ?_
  refine ml_iand (pc := 32) X dJ6_bitCount_0f7a4_32 ?_
  refine ml_topI (pc := 33) (fun y6 e6 => ?_)
  have hw := hw y6 e6
  have q6 : I32 y6 := by rw [e6]; exact (b_and_r _ _)
  refine ml_istore_n (pc := 33) X rfl hl (by decide) (lst' := [(0, .int (Int32.ofInt y6))]) rfl dJ6_bitCount_0f7a4_33 (fun ls hl => ?_)
  refine ml_iload_n (pc := 34) X hl 0 rfl rfl dJ6_bitCount_0f7a4_34 ?_
  refine ml_iload_n (pc := 35) X hl 0 rfl rfl dJ6_bitCount_0f7a4_35 ?_
  refine ml_bipush (pc := 36) X dJ6_bitCount_0f7a4_36 (by decide) ?_
  refine ml_iushr (pc := 38) X dJ6_bitCount_0f7a4_38 ?_
  obtain ⟨v7, hw⟩ := hw
  refine ml_iadd (pc := 39) X dJ6_bitCount_0f7a4_39 ?_
  refine ml_topI (pc := 40) (fun y8 e8 => ?_)
  have hw := hw y8 e8
  have q8 : I32 y8 := by rw [e8]; exact v7
  refine ml_istore_n (pc := 40) X rfl hl (by decide) (lst' := [(0, .int (Int32.ofInt y8))]) rfl dJ6_bitCount_0f7a4_40 (fun ls hl => ?_)
  refine ml_iload_n (pc := 41) X hl 0 rfl rfl dJ6_bitCount_0f7a4_41 ?_
  refine ml_iload_n (pc := 42) X hl 0 rfl rfl dJ6_bitCount_0f7a4_42 ?_
  refine ml_bipush (pc := 43) X dJ6_bitCount_0f7a4_43 (by decide) ?_
  refine ml_iushr (pc := 45) X dJ6_bitCount_0f7a4_45 ?_
  obtain ⟨v9, hw⟩ := hw
  refine ml_iadd (pc := 46) X dJ6_bitCount_0f7a4_46 ?_
  refine ml_topI (pc := 47) (fun y10 e10 => ?_)
  have hw := hw y10 e10
  have q10 : I32 y10 := by rw [e10]; exact v9
  refine ml_istore_n (pc := 47) X rfl hl (by decide) (lst' := [(0, .int (Int32.ofInt y10))]) rfl dJ6_bitCount_0f7a4_47 (fun ls hl => ?_)
  refine ml_iload_n (pc := 48) X hl 0 rfl rfl dJ6_bitCount_0f7a4_48 ?_
  refine ml_bipush (pc := 49) X dJ6_bitCount_0f7a4_49 (by decide) ?_
  refine ml_iand (pc := 51) X dJ6_bitCount_0f7a4_51 ?_
  exact ml_iret (pc := 52) X (b_and_r _ _) hw dJ6_bitCount_0f7a4_52
set_option maxRecDepth 100000 in
theorem c_J6_bitCount_0f7a4 (l : Launch) (base : Nat) (D : va_G) (cA : Nat → ClassId) (n : Nat) (hn : 214 ≤ n) (σ : ml_St) (x0 : Int) (h_x0 : I32 x0) (Q : Int → ml_St → Prop) (hw : f_J6_bitCount_0f7a4 σ x0 Q) : Met l yJ6_bitCount_0f7a4 (Cond.code yJ6_bitCount_0f7a4 cJ6_bitCount_0f7a4 1 (some .int) :: ml_T) rm_J6_bitCount_0f7a4 (va_Pc [.int (Int32.ofInt x0)] (ml_U base D cA n σ)) (ml_Qi I32 base D cA n Q) 0 0 (ml_A base) := by
  refine Met.ofW (cc := cJ6_bitCount_0f7a4) (maxL := 1) (ret := (some .int)) (by decide) rfl ?_
  intro p e s m args below meth c s₁ B hml hv
  obtain ⟨rfl, hP, hK, hok, hro⟩ := hv
  have X : ml_X p s m c meth _ D cA cJ6_bitCount_0f7a4 1 RJ6 (some .int) := ⟨B.exec, B.bytes, hml, findClass_of_methodNamed B.named, fun w hw => atoms_spec (ws := Cond.code yJ6_bitCount_0f7a4 cJ6_bitCount_0f7a4 1 (some .int) :: ml_T) B.pre w (List.mem_cons_of_mem _ hw), hK, B.notSynchronized, B.returns⟩
  have hl := lv_entry [.int (Int32.ofInt x0)] (n := 1) (Nat.le_of_ble_eq_true rfl)
  rw [lg_entry_eq]
  generalize (lg_sl [.int (Int32.ofInt x0)] ++ List.replicate (1 - (lg_sl [.int (Int32.ofInt x0)]).length) Slot.unset).toArray = ls at hl ⊢
  have hl : lv_has ls 1 [(0, .int (Int32.ofInt x0))] := hl
  unfold f_J6_bitCount_0f7a4 at hw
  exact u_J6_bitCount_0f7a4_0 X hn σ x0 h_x0 _ (lv_sub hl [0] rfl) hw s.heap [] hP va_S.rf hok hro
theorem dX9_number_0 : decode cX9_number 0 = .ok (.iconst 0, 1) := by decide +kernel
theorem dX9_number_1 : decode cX9_number 1 = .ok (.istore_n 2, 1) := by decide +kernel
theorem dX9_number_2 : decode cX9_number 2 = .ok (.iconst 1, 1) := by decide +kernel
theorem dX9_number_3 : decode cX9_number 3 = .ok (.iconst 2, 1) := by decide +kernel
theorem dX9_number_4 : decode cX9_number 4 = .ok (.iload_n 1, 1) := by decide +kernel
theorem dX9_number_5 : decode cX9_number 5 = .ok (.imul, 1) := by decide +kernel
theorem dX9_number_6 : decode cX9_number 6 = .ok (.ishl, 1) := by decide +kernel
theorem dX9_number_7 : decode cX9_number 7 = .ok (.iconst 1, 1) := by decide +kernel
theorem dX9_number_8 : decode cX9_number 8 = .ok (.isub, 1) := by decide +kernel
theorem dX9_number_9 : decode cX9_number 9 = .ok (.istore_n 3, 1) := by decide +kernel
theorem dX9_number_10 : decode cX9_number 10 = .ok (.iconst 0, 1) := by decide +kernel
theorem dX9_number_11 : decode cX9_number 11 = .ok (.istore 4, 2) := by decide +kernel
theorem dX9_number_13 : decode cX9_number 13 = .ok (.iload 4, 2) := by decide +kernel
theorem dX9_number_15 : decode cX9_number 15 = .ok (.iconst 2, 1) := by decide +kernel
theorem dX9_number_16 : decode cX9_number 16 = .ok (.iload_n 1, 1) := by decide +kernel
theorem dX9_number_17 : decode cX9_number 17 = .ok (.imul, 1) := by decide +kernel
theorem dX9_number_18 : decode cX9_number 18 = .ok (.if_icmp .ge 70, 3) := by decide +kernel
theorem dX9_number_21 : decode cX9_number 21 = .ok (.iload_n 3, 1) := by decide +kernel
theorem dX9_number_22 : decode cX9_number 22 = .ok (.iload 4, 2) := by decide +kernel
theorem dX9_number_24 : decode cX9_number 24 = .ok (.ishr, 1) := by decide +kernel
theorem dX9_number_25 : decode cX9_number 25 = .ok (.iconst 1, 1) := by decide +kernel
theorem dX9_number_26 : decode cX9_number 26 = .ok (.iand, 1) := by decide +kernel
theorem dX9_number_27 : decode cX9_number 27 = .ok (.ifCond .eq 55, 3) := by decide +kernel
theorem dX9_number_30 : decode cX9_number 30 = .ok (.iload_n 3, 1) := by decide +kernel
theorem dX9_number_31 : decode cX9_number 31 = .ok (.iconst 1, 1) := by decide +kernel
theorem dX9_number_32 : decode cX9_number 32 = .ok (.aload_n 0, 1) := by decide +kernel
theorem dX9_number_33 : decode cX9_number 33 = .ok (.getfield 9, 3) := by decide +kernel
theorem dX9_number_36 : decode cX9_number 36 = .ok (.iload 4, 2) := by decide +kernel
theorem dX9_number_38 : decode cX9_number 38 = .ok (.iaload, 1) := by decide +kernel
theorem dX9_number_39 : decode cX9_number 39 = .ok (.ishl, 1) := by decide +kernel
theorem dX9_number_40 : decode cX9_number 40 = .ok (.iconst 2, 1) := by decide +kernel
theorem dX9_number_41 : decode cX9_number 41 = .ok (.iload 4, 2) := by decide +kernel
theorem dX9_number_43 : decode cX9_number 43 = .ok (.ishl, 1) := by decide +kernel
theorem dX9_number_44 : decode cX9_number 44 = .ok (.isub, 1) := by decide +kernel
theorem dX9_number_45 : decode cX9_number 45 = .ok (.iand, 1) := by decide +kernel
theorem dX9_number_46 : decode cX9_number 46 = .ok (.istore 5, 2) := by decide +kernel
theorem dX9_number_48 : decode cX9_number 48 = .ok (.iload_n 2, 1) := by decide +kernel
theorem dX9_number_49 : decode cX9_number 49 = .ok (.iload_n 3, 1) := by decide +kernel
theorem dX9_number_50 : decode cX9_number 50 = .ok (.invokestatic 73, 3) := by decide +kernel
theorem dX9_number_53 : decode cX9_number 53 = .ok (.iconst 1, 1) := by decide +kernel
theorem dX9_number_54 : decode cX9_number 54 = .ok (.isub, 1) := by decide +kernel
theorem dX9_number_55 : decode cX9_number 55 = .ok (.imul, 1) := by decide +kernel
theorem dX9_number_56 : decode cX9_number 56 = .ok (.iload 5, 2) := by decide +kernel
theorem dX9_number_58 : decode cX9_number 58 = .ok (.invokestatic 73, 3) := by decide +kernel
theorem dX9_number_61 : decode cX9_number 61 = .ok (.iadd, 1) := by decide +kernel
theorem dX9_number_62 : decode cX9_number 62 = .ok (.istore_n 2, 1) := by decide +kernel
theorem dX9_number_63 : decode cX9_number 63 = .ok (.iload_n 3, 1) := by decide +kernel
theorem dX9_number_64 : decode cX9_number 64 = .ok (.iconst 1, 1) := by decide +kernel
theorem dX9_number_65 : decode cX9_number 65 = .ok (.iload 4, 2) := by decide +kernel
theorem dX9_number_67 : decode cX9_number 67 = .ok (.ishl, 1) := by decide +kernel
theorem dX9_number_68 : decode cX9_number 68 = .ok (.iconst 1, 1) := by decide +kernel
theorem dX9_number_69 : decode cX9_number 69 = .ok (.aload_n 0, 1) := by decide +kernel
theorem dX9_number_70 : decode cX9_number 70 = .ok (.getfield 9, 3) := by decide +kernel
theorem dX9_number_73 : decode cX9_number 73 = .ok (.iload 4, 2) := by decide +kernel
theorem dX9_number_75 : decode cX9_number 75 = .ok (.iaload, 1) := by decide +kernel
theorem dX9_number_76 : decode cX9_number 76 = .ok (.ishl, 1) := by decide +kernel
theorem dX9_number_77 : decode cX9_number 77 = .ok (.ior, 1) := by decide +kernel
theorem dX9_number_78 : decode cX9_number 78 = .ok (.iconst (-1), 1) := by decide +kernel
theorem dX9_number_79 : decode cX9_number 79 = .ok (.ixor, 1) := by decide +kernel
theorem dX9_number_80 : decode cX9_number 80 = .ok (.iand, 1) := by decide +kernel
theorem dX9_number_81 : decode cX9_number 81 = .ok (.istore_n 3, 1) := by decide +kernel
theorem dX9_number_82 : decode cX9_number 82 = .ok (.iinc 4 1, 3) := by decide +kernel
theorem dX9_number_85 : decode cX9_number 85 = .ok (.goto (-72), 3) := by decide +kernel
theorem dX9_number_88 : decode cX9_number 88 = .ok (.iload_n 2, 1) := by decide +kernel
theorem dX9_number_89 : decode cX9_number 89 = .ok (.ireturn, 1) := by decide +kernel
def f_X9_number_u82 (Q : Int → ml_St → Prop) (K13 : ml_St → Int → Int → Int → Int → Prop) (th : Int) (σ : ml_St) (x1 : Int) (x2 : Int) (x3 : Int) (x4 : Int) : Prop :=
I32 (x4 + 1) ∧
∀ y1 : Int, y1 = x4 + 1 →
K13 σ x1 x2 x3 y1
def f_X9_number_u13 (Q : Int → ml_St → Prop) (K88 : ml_St → Int → Prop) (th : Int) : Nat → ml_St → Int → Int → Int → Int → Prop
| 0, _, _, _, _, _ => False
| N + 1, σ, x1, x2, x3, x4 =>
I32 (2 * x1) ∧
((2 * x1) ≤ x4 →
K88 σ x2) ∧
(¬ ((2 * x1) ≤ x4) →
(((b_and (b_shr x3 x4) 1) : Int) = 0 →
f_X9_number_u82 Q (f_X9_number_u13 Q K88 th N) th σ x1 x2 x3 x4) ∧
((b_and (b_shr x3 x4) 1) ≠ 0 →
(0 : Int) ≤ x4 ∧ (x4 : Int) < 10 ∧
∀ _ : I32 (σ (th + 1) x4),
I32 ((b_shl 1 (σ (th + 1) x4)) - (b_shl 2 x4)) ∧
∀ y6 : Int, y6 = b_and x3 ((b_shl 1 (σ (th + 1) x4)) - (b_shl 2 x4)) →
f_J6_bitCount_0f7a4 σ x3 (fun r7 σ7 => ∀ _ : I32 r7,
I32 (r7 - 1) ∧
I32 (x2 * (r7 - 1)) ∧
f_J6_bitCount_0f7a4 σ7 y6 (fun r10 σ10 => ∀ _ : I32 r10,
I32 ((x2 * (r7 - 1)) + r10) ∧
∀ y12 : Int, y12 = (x2 * (r7 - 1)) + r10 →
(0 : Int) ≤ x4 ∧ (x4 : Int) < 10 ∧
∀ _ : I32 (σ10 (th + 1) x4),
∀ y14 : Int, y14 = b_and x3 (b_xor (b_or (b_shl 1 x4) (b_shl 1 (σ10 (th + 1) x4))) (-1)) →
f_X9_number_u82 Q (f_X9_number_u13 Q K88 th N) th σ10 x1 y12 y14 x4))))
def f_X9_number_u88 (Q : Int → ml_St → Prop) (th : Int) (σ : ml_St) (x2 : Int) : Prop :=
Q x2 σ
def f_X9_number_u0 (Q : Int → ml_St → Prop) (th : Int) (σ : ml_St) (x1 : Int) : Prop :=
I32 (2 * x1) ∧
I32 ((b_shl 1 (2 * x1)) - 1) ∧
∀ y3 : Int, y3 = (b_shl 1 (2 * x1)) - 1 →
∃ N1, f_X9_number_u13 Q (f_X9_number_u88 Q th) th N1 σ x1 0 y3 0
def f_X9_number (σ : ml_St) (th : Int) (x1 : Int) (Q : Int → ml_St → Prop) : Prop := f_X9_number_u0 Q th σ x1
def rm_X9_number : Room := { frames := 1, cells := 0, slots := 0, locals := 20 }
set_option maxRecDepth 100000 in
set_option maxHeartbeats 4000000 in
theorem u_X9_number_82 {p : Program} {e : Env} {s : State} {m : MethodId} {args : Array Value} {below : List Frame} {meth : Method} {c : Code} {base : Nat} {D : va_G} {cA : Nat → ClassId} {n : Nat} {l : Launch} {th : Int} {Q : Int → ml_St → Prop} {K13 : ml_St → Int → Int → Int → Int → Prop} (X : ml_X p s m c meth args D cA cX9_number 6 RX9 (some .int)) (hn : 214 ≤ n) (hp_th : ml_at n th (19, 8)) (hK13 : ∀ (σ : ml_St) (x1 : Int) (x2 : Int) (x3 : Int) (x4 : Int) (h_x1 : I32 x1) (h_x2 : I32 x2) (h_x3 : I32 x3) (h_x4 : I32 x4) (ls : Array Slot), lv_has ls 6 [(0, .ref (base + (th : Int).toNat)), (1, .int (Int32.ofInt x1)), (2, .int (Int32.ofInt x2)), (3, .int (Int32.ofInt x3)), (4, .int (Int32.ofInt x4))] → K13 σ x1 x2 x3 x4 → ml_V p l e rm_X9_number s m args below meth c (MQ below (ml_Qi I32 base D cA n Q) args s 0 0 (ml_A base)) base D cA 0 0 n n σ (F0 m 13 ls [])) (σ : ml_St) (x1 : Int) (x2 : Int) (x3 : Int) (x4 : Int) (h_x1 : I32 x1) (h_x2 : I32 x2) (h_x3 : I32 x3) (h_x4 : I32 x4) (ls : Array Slot) (hl : lv_has ls 6 [(0, .ref (base + (th : Int).toNat)), (1, .int (Int32.ofInt x1)), (2, .int (Int32.ofInt x2)), (3, .int (Int32.ofInt x3)), (4, .int (Int32.ofInt x4))]) (hw : f_X9_number_u82 Q K13 th σ x1 x2 x3 x4) : ml_V p l e rm_X9_number s m args below meth c (MQ below (ml_Qi I32 base D cA n Q) args s 0 0 (ml_A base)) base D cA 0 0 n n σ (F0 m 82 ls []) := by
  unfold f_X9_number_u82 at hw
  obtain ⟨v1, hw⟩ := hw
  obtain ⟨y1, e1⟩ : ∃ y : Int, y = x4 + 1 := ⟨_, rfl⟩
  have hw := hw y1 e1
  rw [← e1] at v1
  refine ml_iinc (pc := 82) X e1 hl 4 rfl (by decide) (lst' := [(4, .int (Int32.ofInt y1)), (0, .ref (base + (th : Int).toNat)), (1, .int (Int32.ofInt x1)), (2, .int (Int32.ofInt x2)), (3, .int (Int32.ofInt x3))]) rfl dX9_number_82 (fun ls hl => ?_)
  refine ml_goto (pc := 85) (tgt := 13) X dX9_number_85 (by decide) ?_
  exact hK13 σ x1 x2 x3 y1 h_x1 h_x2 h_x3 v1 _ (lv_sub hl [1, 2, 3, 4, 0] rfl) hw
set_option maxRecDepth 100000 in
set_option maxHeartbeats 4000000 in
theorem u_X9_number_13 {p : Program} {e : Env} {s : State} {m : MethodId} {args : Array Value} {below : List Frame} {meth : Method} {c : Code} {base : Nat} {D : va_G} {cA : Nat → ClassId} {n : Nat} {l : Launch} {th : Int} {Q : Int → ml_St → Prop} {K88 : ml_St → Int → Prop} (X : ml_X p s m c meth args D cA cX9_number 6 RX9 (some .int)) (hn : 214 ≤ n) (hp_th : ml_at n th (19, 8)) (hK88 : ∀ (σ : ml_St) (x2 : Int) (h_x2 : I32 x2) (ls : Array Slot), lv_has ls 6 [(2, .int (Int32.ofInt x2))] → K88 σ x2 → ml_V p l e rm_X9_number s m args below meth c (MQ below (ml_Qi I32 base D cA n Q) args s 0 0 (ml_A base)) base D cA 0 0 n n σ (F0 m 88 ls [])) : ∀ (N : Nat) (σ : ml_St) (x1 : Int) (x2 : Int) (x3 : Int) (x4 : Int) (h_x1 : I32 x1) (h_x2 : I32 x2) (h_x3 : I32 x3) (h_x4 : I32 x4) (ls : Array Slot), lv_has ls 6 [(0, .ref (base + (th : Int).toNat)), (1, .int (Int32.ofInt x1)), (2, .int (Int32.ofInt x2)), (3, .int (Int32.ofInt x3)), (4, .int (Int32.ofInt x4))] → f_X9_number_u13 Q K88 th N σ x1 x2 x3 x4 → ml_V p l e rm_X9_number s m args below meth c (MQ below (ml_Qi I32 base D cA n Q) args s 0 0 (ml_A base)) base D cA 0 0 n n σ (F0 m 13 ls []) := by
  intro N
  induction N with
  | zero => intro σ x1 x2 x3 x4 h_x1 h_x2 h_x3 h_x4 ls hl hw; exact False.elim hw
  | succ N ih =>
    intro σ x1 x2 x3 x4 h_x1 h_x2 h_x3 h_x4 ls hl hw
    unfold f_X9_number_u13 at hw
    refine ml_iload (pc := 13) X hl 4 rfl dX9_number_13 ?_
    refine ml_iconst (pc := 15) X dX9_number_15 ?_
    refine ml_iload_n (pc := 16) X hl 1 rfl rfl dX9_number_16 ?_
    obtain ⟨v1, hw⟩ := hw
    refine ml_imul (pc := 17) X dX9_number_17 ?_
    refine ml_icmp_ge (pc := 18) (tgt := 88) X h_x4 v1 dX9_number_18 (by decide) (fun c2 => ?_) (fun c2 => ?_)
    · have hw := hw.1 c2
      exact hK88 σ x2 h_x2 _ (lv_sub hl [2] rfl) hw
    · have hw := hw.2 c2
      refine ml_iload_n (pc := 21) X hl 3 rfl rfl dX9_number_21 ?_
      refine ml_iload (pc := 22) X hl 4 rfl dX9_number_22 ?_
      refine ml_ishr (pc := 24) X dX9_number_24 ?_
      refine ml_iconst (pc := 25) X dX9_number_25 ?_
      refine ml_iand (pc := 26) X dX9_number_26 ?_
      refine ml_if_eq (pc := 27) (tgt := 82) X (b_and_r _ _) dX9_number_27 (by decide) (fun c3 => ?_) (fun c3 => ?_)
      · have hw := hw.1 c3
        exact u_X9_number_82 X hn hp_th ih σ x1 x2 x3 x4 h_x1 h_x2 h_x3 h_x4 _ (lv_sub hl [0, 1, 2, 3, 4] rfl) hw
      · have hw := hw.2 c3
        refine ml_iload_n (pc := 30) X hl 3 rfl rfl dX9_number_30 ?_
        refine ml_iconst (pc := 31) X dX9_number_31 ?_
        refine ml_aload_n (pc := 32) X hl 0 rfl rfl dX9_number_32 ?_
        refine gf_X9_9 (pc := 33) X hp_th dX9_number_33 ?_
        refine ml_iload (pc := 36) X hl 4 rfl dX9_number_36 ?_
        obtain ⟨a4, b4, hw⟩ := hw
        refine ml_iald (pc := 38) (N := 10) X (ml_r19_1 hn hp_th) a4 b4 dX9_number_38 (fun r4 => ?_)
        have hw := hw r4
        refine ml_ishl (pc := 39) X dX9_number_39 ?_
        refine ml_iconst (pc := 40) X dX9_number_40 ?_
        refine ml_iload (pc := 41) X hl 4 rfl dX9_number_41 ?_
        refine ml_ishl (pc := 43) X dX9_number_43 ?_
        obtain ⟨v5, hw⟩ := hw
        refine ml_isub (pc := 44) X dX9_number_44 ?_
        refine ml_iand (pc := 45) X dX9_number_45 ?_
        refine ml_topI (pc := 46) (fun y6 e6 => ?_)
        have hw := hw y6 e6
        have q6 : I32 y6 := by rw [e6]; exact (b_and_r _ _)
        refine ml_istore (pc := 46) X hl (by decide) (lst' := [(5, .int (Int32.ofInt y6)), (0, .ref (base + (th : Int).toNat)), (1, .int (Int32.ofInt x1)), (2, .int (Int32.ofInt x2)), (3, .int (Int32.ofInt x3)), (4, .int (Int32.ofInt x4))]) rfl dX9_number_46 (fun ls hl => ?_)
        refine ml_iload_n (pc := 48) X hl 3 rfl rfl dX9_number_48 ?_
        refine ml_iload_n (pc := 49) X hl 4 rfl rfl dX9_number_49 ?_
        refine ml_calliS (pc := 50) (rest := [.int (Int32.ofInt x2)]) X [.int (Int32.ofInt x3)] (c_J6_bitCount_0f7a4 l base D cA n hn σ x3 h_x3 _ hw) cv_X9_73 ⟨rfl, rfl⟩ ⟨by decide, by decide⟩ rfl rfl hl (Nat.le_of_ble_eq_true rfl) ⟨Nat.zero_le _, Nat.zero_le _⟩ dX9_number_50 (fun r7 σ7 t7 hw => ?_)
        have hw := hw t7
        refine ml_iconst (pc := 53) X dX9_number_53 ?_
        obtain ⟨v8, hw⟩ := hw
        refine ml_isub (pc := 54) X dX9_number_54 ?_
        obtain ⟨v9, hw⟩ := hw
        refine ml_imul (pc := 55) X dX9_number_55 ?_
        refine ml_iload (pc := 56) X hl 0 rfl dX9_number_56 ?_
        refine ml_calliS (pc := 58) (rest := [.int (Int32.ofInt (x2 * (r7 - 1)))]) X [.int (Int32.ofInt y6)] (c_J6_bitCount_0f7a4 l base D cA n hn σ7 y6 q6 _ hw) cv_X9_73 ⟨rfl, rfl⟩ ⟨by decide, by decide⟩ rfl rfl hl (Nat.le_of_ble_eq_true rfl) ⟨Nat.zero_le _, Nat.zero_le _⟩ dX9_number_58 (fun r10 σ10 t10 hw => ?_)
        have hw := hw t10
        obtain ⟨v11, hw⟩ := hw
        refine ml_iadd (pc := 61) X dX9_number_61 ?_
        refine ml_topI (pc := 62) (fun y12 e12 => ?_)
        have hw := hw y12 e12
        have q12 : I32 y12 := by rw [e12]; exact v11
        refine ml_istore_n (pc := 62) X rfl hl (by decide) (lst' := [(2, .int (Int32.ofInt y12)), (5, .int (Int32.ofInt y6)), (0, .ref (base + (th : Int).toNat)), (1, .int (Int32.ofInt x1)), (3, .int (Int32.ofInt x3)), (4, .int (Int32.ofInt x4))]) rfl dX9_number_62 (fun ls hl => ?_)
        refine ml_iload_n (pc := 63) X hl 4 rfl rfl dX9_number_63 ?_
        refine ml_iconst (pc := 64) X dX9_number_64 ?_
        refine ml_iload (pc := 65) X hl 5 rfl dX9_number_65 ?_
        refine ml_ishl (pc := 67) X dX9_number_67 ?_
        refine ml_iconst (pc := 68) X dX9_number_68 ?_
        refine ml_aload_n (pc := 69) X hl 2 rfl rfl dX9_number_69 ?_
        refine gf_X9_9 (pc := 70) X hp_th dX9_number_70 ?_
        refine ml_iload (pc := 73) X hl 5 rfl dX9_number_73 ?_
        obtain ⟨a13, b13, hw⟩ := hw
        refine ml_iald (pc := 75) (N := 10) X (ml_r19_1 hn hp_th) a13 b13 dX9_number_75 (fun r13 => ?_)
        have hw := hw r13
        refine ml_ishl (pc := 76) X dX9_number_76 ?_
        refine ml_ior (pc := 77) X dX9_number_77 ?_
        refine ml_iconst (pc := 78) X dX9_number_78 ?_
        refine ml_ixor (pc := 79) X dX9_number_79 ?_
        refine ml_iand (pc := 80) X dX9_number_80 ?_
        refine ml_topI (pc := 81) (fun y14 e14 => ?_)
        have hw := hw y14 e14
        have q14 : I32 y14 := by rw [e14]; exact (b_and_r _ _)
        refine ml_istore_n (pc := 81) X rfl hl (by decide) (lst' := [(3, .int (Int32.ofInt y14)), (2, .int (Int32.ofInt y12)), (5, .int (Int32.ofInt y6)), (0, .ref (base + (th : Int).toNat)), (1, .int (Int32.ofInt x1)), (4, .int (Int32.ofInt x4))]) rfl dX9_number_81 (fun ls hl => ?_)
        exact u_X9_number_82 X hn hp_th ih σ10 x1 y12 y14 x4 h_x1 q12 q14 h_x4 _ (lv_sub hl [3, 4, 1, 0, 5] rfl) hw
set_option maxRecDepth 100000 in
set_option maxHeartbeats 4000000 in
theorem u_X9_number_88 {p : Program} {e : Env} {s : State} {m : MethodId} {args : Array Value} {below : List Frame} {meth : Method} {c : Code} {base : Nat} {D : va_G} {cA : Nat → ClassId} {n : Nat} {l : Launch} {th : Int} {Q : Int → ml_St → Prop} (X : ml_X p s m c meth args D cA cX9_number 6 RX9 (some .int)) (hn : 214 ≤ n) (hp_th : ml_at n th (19, 8)) (σ : ml_St) (x2 : Int) (h_x2 : I32 x2) (ls : Array Slot) (hl : lv_has ls 6 [(2, .int (Int32.ofInt x2))]) (hw : f_X9_number_u88 Q th σ x2) : ml_V p l e rm_X9_number s m args below meth c (MQ below (ml_Qi I32 base D cA n Q) args s 0 0 (ml_A base)) base D cA 0 0 n n σ (F0 m 88 ls []) := by
  unfold f_X9_number_u88 at hw
  refine ml_iload_n (pc := 88) X hl 0 rfl rfl dX9_number_88 ?_
  exact ml_iret (pc := 89) X h_x2 hw dX9_number_89
set_option maxRecDepth 100000 in
set_option maxHeartbeats 4000000 in
theorem u_X9_number_0 {p : Program} {e : Env} {s : State} {m : MethodId} {args : Array Value} {below : List Frame} {meth : Method} {c : Code} {base : Nat} {D : va_G} {cA : Nat → ClassId} {n : Nat} {l : Launch} {th : Int} {Q : Int → ml_St → Prop} (X : ml_X p s m c meth args D cA cX9_number 6 RX9 (some .int)) (hn : 214 ≤ n) (hp_th : ml_at n th (19, 8)) (σ : ml_St) (x1 : Int) (h_x1 : I32 x1) (ls : Array Slot) (hl : lv_has ls 6 [(0, .ref (base + (th : Int).toNat)), (1, .int (Int32.ofInt x1))]) (hw : f_X9_number_u0 Q th σ x1) : ml_V p l e rm_X9_number s m args below meth c (MQ below (ml_Qi I32 base D cA n Q) args s 0 0 (ml_A base)) base D cA 0 0 n n σ (F0 m 0 ls []) := by
  unfold f_X9_number_u0 at hw
  refine ml_iconst (pc := 0) X dX9_number_0 ?_
  refine ml_istore_n (pc := 1) X rfl hl (by decide) (lst' := [(2, .int (Int32.ofInt 0)), (0, .ref (base + (th : Int).toNat)), (1, .int (Int32.ofInt x1))]) rfl dX9_number_1 (fun ls hl => ?_)
  refine ml_iconst (pc := 2) X dX9_number_2 ?_
  refine ml_iconst (pc := 3) X dX9_number_3 ?_
  refine ml_iload_n (pc := 4) X hl 2 rfl rfl dX9_number_4 ?_
  obtain ⟨v1, hw⟩ := hw
  refine ml_imul (pc := 5) X dX9_number_5 ?_
  refine ml_ishl (pc := 6) X dX9_number_6 ?_
  refine ml_iconst (pc := 7) X dX9_number_7 ?_
  obtain ⟨v2, hw⟩ := hw
  refine ml_isub (pc := 8) X dX9_number_8 ?_
  refine ml_topI (pc := 9) (fun y3 e3 => ?_)
  have hw := hw y3 e3
  have q3 : I32 y3 := by rw [e3]; exact v2
  refine ml_istore_n (pc := 9) X rfl hl (by decide) (lst' := [(3, .int (Int32.ofInt y3)), (2, .int (Int32.ofInt 0)), (0, .ref (base + (th : Int).toNat)), (1, .int (Int32.ofInt x1))]) rfl dX9_number_9 (fun ls hl => ?_)
  refine ml_iconst (pc := 10) X dX9_number_10 ?_
  refine ml_istore (pc := 11) X hl (by decide) (lst' := [(4, .int (Int32.ofInt 0)), (3, .int (Int32.ofInt y3)), (2, .int (Int32.ofInt 0)), (0, .ref (base + (th : Int).toNat)), (1, .int (Int32.ofInt x1))]) rfl dX9_number_11 (fun ls hl => ?_)
  obtain ⟨N0, hw⟩ := hw
  exact u_X9_number_13 X hn hp_th (fun σ x2 h_x2 ls hl hw => u_X9_number_88 X hn hp_th σ x2 h_x2 ls hl hw) N0 σ x1 0 y3 0 h_x1 ⟨by decide, by decide⟩ q3 ⟨by decide, by decide⟩ _ (lv_sub hl [3, 4, 2, 1, 0] rfl) hw
set_option maxRecDepth 100000 in
theorem c_X9_number (l : Launch) (base : Nat) (D : va_G) (cA : Nat → ClassId) (n : Nat) (hn : 214 ≤ n) (σ : ml_St) (th : Int) (hp_th : ml_at n th (19, 8)) (x1 : Int) (h_x1 : I32 x1) (Q : Int → ml_St → Prop) (hw : f_X9_number σ th x1 Q) : Met l yX9_number (Cond.code yX9_number cX9_number 6 (some .int) :: ml_T) rm_X9_number (va_Pc [.ref (base + (th : Int).toNat), .int (Int32.ofInt x1)] (ml_U base D cA n σ)) (ml_Qi I32 base D cA n Q) 0 0 (ml_A base) := by
  refine Met.ofW (cc := cX9_number) (maxL := 6) (ret := (some .int)) (by decide) rfl ?_
  intro p e s m args below meth c s₁ B hml hv
  obtain ⟨rfl, hP, hK, hok, hro⟩ := hv
  have X : ml_X p s m c meth _ D cA cX9_number 6 RX9 (some .int) := ⟨B.exec, B.bytes, hml, findClass_of_methodNamed B.named, fun w hw => atoms_spec (ws := Cond.code yX9_number cX9_number 6 (some .int) :: ml_T) B.pre w (List.mem_cons_of_mem _ hw), hK, B.notSynchronized, B.returns⟩
  have hl := lv_entry [.ref (base + (th : Int).toNat), .int (Int32.ofInt x1)] (n := 6) (Nat.le_of_ble_eq_true rfl)
  rw [lg_entry_eq]
  generalize (lg_sl [.ref (base + (th : Int).toNat), .int (Int32.ofInt x1)] ++ List.replicate (6 - (lg_sl [.ref (base + (th : Int).toNat), .int (Int32.ofInt x1)]).length) Slot.unset).toArray = ls at hl ⊢
  have hl : lv_has ls 6 [(0, .ref (base + (th : Int).toNat)), (1, .int (Int32.ofInt x1))] := hl
  unfold f_X9_number at hw
  exact u_X9_number_0 X hn hp_th σ x1 h_x1 _ (lv_sub hl [0, 1] rfl) hw s.heap [] hP va_S.rf hok hro
theorem dX6_study_0 : decode cX6_study 0 = .ok (.iconst 0, 1) := by decide +kernel
theorem dX6_study_1 : decode cX6_study 1 = .ok (.istore 4, 2) := by decide +kernel
theorem dX6_study_3 : decode cX6_study 3 = .ok (.aload_n 0, 1) := by decide +kernel
theorem dX6_study_4 : decode cX6_study 4 = .ok (.iconst 1, 1) := by decide +kernel
theorem dX6_study_5 : decode cX6_study 5 = .ok (.putfield 29, 3) := by decide +kernel
theorem dX6_study_8 : decode cX6_study 8 = .ok (.aload_n 0, 1) := by decide +kernel
theorem dX6_study_9 : decode cX6_study 9 = .ok (.iconst 1, 1) := by decide +kernel
theorem dX6_study_10 : decode cX6_study 10 = .ok (.putfield 33, 3) := by decide +kernel
theorem dX6_study_13 : decode cX6_study 13 = .ok (.aload_n 0, 1) := by decide +kernel
theorem dX6_study_14 : decode cX6_study 14 = .ok (.getfield 22, 3) := by decide +kernel
theorem dX6_study_17 : decode cX6_study 17 = .ok (.aload_n 1, 1) := by decide +kernel
theorem dX6_study_18 : decode cX6_study 18 = .ok (.invokevirtual 49, 3) := by decide +kernel
theorem dX6_study_21 : decode cX6_study 21 = .ok (.iconst 1, 1) := by decide +kernel
theorem dX6_study_22 : decode cX6_study 22 = .ok (.istore 5, 2) := by decide +kernel
theorem dX6_study_24 : decode cX6_study 24 = .ok (.iload 5, 2) := by decide +kernel
theorem dX6_study_26 : decode cX6_study 26 = .ok (.bipush 64, 2) := by decide +kernel
theorem dX6_study_28 : decode cX6_study 28 = .ok (.if_icmp .gt 140, 3) := by decide +kernel
theorem dX6_study_31 : decode cX6_study 31 = .ok (.iload 4, 2) := by decide +kernel
theorem dX6_study_33 : decode cX6_study 33 = .ok (.ifCond .ne 135, 3) := by decide +kernel
theorem dX6_study_36 : decode cX6_study 36 = .ok (.iload 5, 2) := by decide +kernel
theorem dX6_study_38 : decode cX6_study 38 = .ok (.iconst 1, 1) := by decide +kernel
theorem dX6_study_39 : decode cX6_study 39 = .ok (.if_icmp .le 27, 3) := by decide +kernel
theorem dX6_study_42 : decode cX6_study 42 = .ok (.aload_n 0, 1) := by decide +kernel
theorem dX6_study_43 : decode cX6_study 43 = .ok (.getfield 26, 3) := by decide +kernel
theorem dX6_study_46 : decode cX6_study 46 = .ok (.aload_n 0, 1) := by decide +kernel
theorem dX6_study_47 : decode cX6_study 47 = .ok (.getfield 22, 3) := by decide +kernel
theorem dX6_study_50 : decode cX6_study 50 = .ok (.aload_n 1, 1) := by decide +kernel
theorem dX6_study_51 : decode cX6_study 51 = .ok (.iload_n 3, 1) := by decide +kernel
theorem dX6_study_52 : decode cX6_study 52 = .ok (.invokevirtual 53, 3) := by decide +kernel
theorem dX6_study_55 : decode cX6_study 55 = .ok (.aload_n 0, 1) := by decide +kernel
theorem dX6_study_56 : decode cX6_study 56 = .ok (.getfield 22, 3) := by decide +kernel
theorem dX6_study_59 : decode cX6_study 59 = .ok (.aload_n 0, 1) := by decide +kernel
theorem dX6_study_60 : decode cX6_study 60 = .ok (.getfield 26, 3) := by decide +kernel
theorem dX6_study_63 : decode cX6_study 63 = .ok (.invokevirtual 49, 3) := by decide +kernel
theorem dX6_study_66 : decode cX6_study 66 = .ok (.aload_n 0, 1) := by decide +kernel
theorem dX6_study_67 : decode cX6_study 67 = .ok (.getfield 11, 3) := by decide +kernel
theorem dX6_study_70 : decode cX6_study 70 = .ok (.iload 5, 2) := by decide +kernel
theorem dX6_study_72 : decode cX6_study 72 = .ok (.aload_n 0, 1) := by decide +kernel
theorem dX6_study_73 : decode cX6_study 73 = .ok (.getfield 22, 3) := by decide +kernel
theorem dX6_study_76 : decode cX6_study 76 = .ok (.iload_n 3, 1) := by decide +kernel
theorem dX6_study_77 : decode cX6_study 77 = .ok (.invokevirtual 57, 3) := by decide +kernel
theorem dX6_study_80 : decode cX6_study 80 = .ok (.iastore, 1) := by decide +kernel
theorem dX6_study_81 : decode cX6_study 81 = .ok (.aload_n 0, 1) := by decide +kernel
theorem dX6_study_82 : decode cX6_study 82 = .ok (.getfield 15, 3) := by decide +kernel
theorem dX6_study_85 : decode cX6_study 85 = .ok (.iload 5, 2) := by decide +kernel
theorem dX6_study_87 : decode cX6_study 87 = .ok (.aload_n 0, 1) := by decide +kernel
theorem dX6_study_88 : decode cX6_study 88 = .ok (.getfield 22, 3) := by decide +kernel
theorem dX6_study_91 : decode cX6_study 91 = .ok (.getfield 61, 3) := by decide +kernel
theorem dX6_study_94 : decode cX6_study 94 = .ok (.aload_n 2, 1) := by decide +kernel
theorem dX6_study_95 : decode cX6_study 95 = .ok (.aload_n 0, 1) := by decide +kernel
theorem dX6_study_96 : decode cX6_study 96 = .ok (.getfield 22, 3) := by decide +kernel
theorem dX6_study_99 : decode cX6_study 99 = .ok (.iload_n 3, 1) := by decide +kernel
theorem dX6_study_100 : decode cX6_study 100 = .ok (.invokevirtual 64, 3) := by decide +kernel
theorem dX6_study_103 : decode cX6_study 103 = .ok (.i2l, 1) := by decide +kernel
theorem dX6_study_104 : decode cX6_study 104 = .ok (.ladd, 1) := by decide +kernel
theorem dX6_study_105 : decode cX6_study 105 = .ok (.lastore, 1) := by decide +kernel
theorem dX6_study_106 : decode cX6_study 106 = .ok (.iconst 1, 1) := by decide +kernel
theorem dX6_study_107 : decode cX6_study 107 = .ok (.istore 6, 2) := by decide +kernel
theorem dX6_study_109 : decode cX6_study 109 = .ok (.iload 6, 2) := by decide +kernel
theorem dX6_study_111 : decode cX6_study 111 = .ok (.iload 5, 2) := by decide +kernel
theorem dX6_study_113 : decode cX6_study 113 = .ok (.if_icmp .ge 49, 3) := by decide +kernel
theorem dX6_study_116 : decode cX6_study 116 = .ok (.iload 4, 2) := by decide +kernel
theorem dX6_study_118 : decode cX6_study 118 = .ok (.ifCond .ne 44, 3) := by decide +kernel
theorem dX6_study_121 : decode cX6_study 121 = .ok (.aload_n 0, 1) := by decide +kernel
theorem dX6_study_122 : decode cX6_study 122 = .ok (.getfield 11, 3) := by decide +kernel
theorem dX6_study_125 : decode cX6_study 125 = .ok (.iload 6, 2) := by decide +kernel
theorem dX6_study_127 : decode cX6_study 127 = .ok (.iaload, 1) := by decide +kernel
theorem dX6_study_128 : decode cX6_study 128 = .ok (.aload_n 0, 1) := by decide +kernel
theorem dX6_study_129 : decode cX6_study 129 = .ok (.getfield 11, 3) := by decide +kernel
theorem dX6_study_132 : decode cX6_study 132 = .ok (.iload 5, 2) := by decide +kernel
theorem dX6_study_134 : decode cX6_study 134 = .ok (.iaload, 1) := by decide +kernel
theorem dX6_study_135 : decode cX6_study 135 = .ok (.if_icmp .ne 21, 3) := by decide +kernel
theorem dX6_study_138 : decode cX6_study 138 = .ok (.iconst 1, 1) := by decide +kernel
theorem dX6_study_139 : decode cX6_study 139 = .ok (.istore 4, 2) := by decide +kernel
theorem dX6_study_141 : decode cX6_study 141 = .ok (.aload_n 0, 1) := by decide +kernel
theorem dX6_study_142 : decode cX6_study 142 = .ok (.iload 6, 2) := by decide +kernel
theorem dX6_study_144 : decode cX6_study 144 = .ok (.putfield 29, 3) := by decide +kernel
theorem dX6_study_147 : decode cX6_study 147 = .ok (.aload_n 0, 1) := by decide +kernel
theorem dX6_study_148 : decode cX6_study 148 = .ok (.iload 5, 2) := by decide +kernel
theorem dX6_study_150 : decode cX6_study 150 = .ok (.iload 6, 2) := by decide +kernel
theorem dX6_study_152 : decode cX6_study 152 = .ok (.isub, 1) := by decide +kernel
theorem dX6_study_153 : decode cX6_study 153 = .ok (.putfield 33, 3) := by decide +kernel
theorem dX6_study_156 : decode cX6_study 156 = .ok (.iinc 6 1, 3) := by decide +kernel
theorem dX6_study_159 : decode cX6_study 159 = .ok (.goto (-50), 3) := by decide +kernel
theorem dX6_study_162 : decode cX6_study 162 = .ok (.iinc 5 1, 3) := by decide +kernel
theorem dX6_study_165 : decode cX6_study 165 = .ok (.goto (-141), 3) := by decide +kernel
theorem dX6_study_168 : decode cX6_study 168 = .ok (.aload_n 0, 1) := by decide +kernel
theorem dX6_study_169 : decode cX6_study 169 = .ok (.aload_n 0, 1) := by decide +kernel
theorem dX6_study_170 : decode cX6_study 170 = .ok (.getfield 15, 3) := by decide +kernel
theorem dX6_study_173 : decode cX6_study 173 = .ok (.aload_n 0, 1) := by decide +kernel
theorem dX6_study_174 : decode cX6_study 174 = .ok (.getfield 29, 3) := by decide +kernel
theorem dX6_study_177 : decode cX6_study 177 = .ok (.aload_n 0, 1) := by decide +kernel
theorem dX6_study_178 : decode cX6_study 178 = .ok (.getfield 33, 3) := by decide +kernel
theorem dX6_study_181 : decode cX6_study 181 = .ok (.iadd, 1) := by decide +kernel
theorem dX6_study_182 : decode cX6_study 182 = .ok (.laload, 1) := by decide +kernel
theorem dX6_study_183 : decode cX6_study 183 = .ok (.aload_n 0, 1) := by decide +kernel
theorem dX6_study_184 : decode cX6_study 184 = .ok (.getfield 15, 3) := by decide +kernel
theorem dX6_study_187 : decode cX6_study 187 = .ok (.aload_n 0, 1) := by decide +kernel
theorem dX6_study_188 : decode cX6_study 188 = .ok (.getfield 29, 3) := by decide +kernel
theorem dX6_study_191 : decode cX6_study 191 = .ok (.laload, 1) := by decide +kernel
theorem dX6_study_192 : decode cX6_study 192 = .ok (.lsub, 1) := by decide +kernel
theorem dX6_study_193 : decode cX6_study 193 = .ok (.putfield 36, 3) := by decide +kernel
theorem dX6_study_196 : decode cX6_study 196 = .ok (.return_, 1) := by decide +kernel
def f_X6_study_u156 (Q : ml_St → Prop) (K109 : ml_St → Int → Int → Int → Int → Prop) (p1 : Int) (σ : ml_St) (x3 : Int) (x4 : Int) (x5 : Int) (x6 : Int) : Prop :=
I32 (x6 + 1) ∧
∀ y1 : Int, y1 = x6 + 1 →
K109 σ x3 x4 x5 y1
def f_X6_study_u109 (Q : ml_St → Prop) (K162 : ml_St → Int → Int → Int → Prop) (p1 : Int) : Nat → ml_St → Int → Int → Int → Int → Prop
| 0, _, _, _, _, _ => False
| N + 1, σ, x3, x4, x5, x6 =>
(x5 ≤ x6 →
K162 σ x3 x4 x5) ∧
(¬ (x5 ≤ x6) →
(x4 ≠ 0 →
K162 σ x3 x4 x5) ∧
(x4 = 0 →
(0 : Int) ≤ x6 ∧ (x6 : Int) < 65 ∧
∀ _ : I32 (σ 47 x6),
(0 : Int) ≤ x5 ∧ (x5 : Int) < 65 ∧
∀ _ : I32 (σ 47 x5),
(((σ 47 x6) : Int) ≠ (σ 47 x5) →
f_X6_study_u156 Q (f_X6_study_u109 Q K162 p1 N) p1 σ x3 x4 x5 x6) ∧
((σ 47 x6) = (σ 47 x5) →
∀ σ6, σ6 = ml_up σ 46 4 x6 →
I32 (x5 - x6) ∧
∀ σ8, σ8 = ml_up σ6 46 5 (x5 - x6) →
f_X6_study_u156 Q (f_X6_study_u109 Q K162 p1 N) p1 σ8 x3 1 x5 x6)))
def f_X6_study_u162 (Q : ml_St → Prop) (K24 : ml_St → Int → Int → Int → Prop) (p1 : Int) (σ : ml_St) (x3 : Int) (x4 : Int) (x5 : Int) : Prop :=
I32 (x5 + 1) ∧
∀ y1 : Int, y1 = x5 + 1 →
K24 σ x3 x4 y1
def f_X6_study_u66 (Q : ml_St → Prop) (K24 : ml_St → Int → Int → Int → Prop) (p1 : Int) (σ : ml_St) (x3 : Int) (x4 : Int) (x5 : Int) : Prop :=
f_X9_number σ 49 x3 (fun r1 σ1 => ∀ _ : I32 r1,
(0 : Int) ≤ x5 ∧ (x5 : Int) < 65 ∧
∀ σ2, σ2 = ml_up σ1 47 x5 r1 →
∀ _ : I64 (σ2 49 2),
f_X0_loopsBy σ2 49 x3 (fun r4 σ4 => ∀ _ : I32 r4,
(0 : Int) ≤ x5 ∧ (x5 : Int) < 65 ∧
∀ σ6, σ6 = ml_up σ4 48 x5 (w64 ((σ2 49 2) + r4)) →
∃ N1, f_X6_study_u109 Q (f_X6_study_u162 Q K24 p1) p1 N1 σ6 x3 x4 x5 1))
def f_X6_study_u24 (Q : ml_St → Prop) (K168 : ml_St → Prop) (p1 : Int) : Nat → ml_St → Int → Int → Int → Prop
| 0, _, _, _, _ => False
| N + 1, σ, x3, x4, x5 =>
(64 < x5 →
K168 σ) ∧
(¬ (64 < x5) →
(x4 ≠ 0 →
K168 σ) ∧
(x4 = 0 →
(x5 ≤ 1 →
f_X6_study_u66 Q (f_X6_study_u24 Q K168 p1 N) p1 σ x3 x4 x5) ∧
(¬ (x5 ≤ 1) →
f_X9_beBoth σ 52 49 p1 x3 (fun σ4 =>
f_X9_beLike σ4 49 52 (fun σ5 =>
f_X6_study_u66 Q (f_X6_study_u24 Q K168 p1 N) p1 σ5 x3 x4 x5)))))
def f_X6_study_u168 (Q : ml_St → Prop) (p1 : Int) (σ : ml_St) : Prop :=
∀ _ : I32 (σ 46 4),
∀ _ : I32 (σ 46 5),
I32 ((σ 46 4) + (σ 46 5)) ∧
(0 : Int) ≤ ((σ 46 4) + (σ 46 5)) ∧ (((σ 46 4) + (σ 46 5)) : Int) < 65 ∧
∀ _ : I64 (σ 48 ((σ 46 4) + (σ 46 5))),
∀ _ : I32 (σ 46 4),
(0 : Int) ≤ (σ 46 4) ∧ ((σ 46 4) : Int) < 65 ∧
∀ _ : I64 (σ 48 (σ 46 4)),
∀ σ8, σ8 = ml_up σ 46 6 (w64 ((σ 48 ((σ 46 4) + (σ 46 5))) - (σ 48 (σ 46 4)))) →
Q σ8
def f_X6_study_u0 (Q : ml_St → Prop) (p1 : Int) (σ : ml_St) (x3 : Int) : Prop :=
∀ σ1, σ1 = ml_up σ 46 4 1 →
∀ σ2, σ2 = ml_up σ1 46 5 1 →
f_X9_beLike σ2 49 p1 (fun σ3 =>
∃ N1, f_X6_study_u24 Q (f_X6_study_u168 Q p1) p1 N1 σ3 x3 0 1)
def f_X6_study (σ : ml_St) (p1 : Int) (x3 : Int) (Q : ml_St → Prop) : Prop := f_X6_study_u0 Q p1 σ x3
def rm_X6_study : Room := { frames := 3, cells := 0, slots := 0, locals := 115 }
set_option maxRecDepth 100000 in
set_option maxHeartbeats 4000000 in
theorem u_X6_study_156 {p : Program} {e : Env} {s : State} {m : MethodId} {args : Array Value} {below : List Frame} {meth : Method} {c : Code} {base : Nat} {D : va_G} {cA : Nat → ClassId} {n : Nat} {l : Launch} {p1 : Int} {Q : ml_St → Prop} {K109 : ml_St → Int → Int → Int → Int → Prop} (X : ml_X p s m c meth args D cA cX6_study 7 RX6 none) (hn : 214 ≤ n) (hp_p1 : ml_at n p1 (19, 8)) (hK109 : ∀ (σ : ml_St) (x3 : Int) (x4 : Int) (x5 : Int) (x6 : Int) (h_x3 : I32 x3) (h_x4 : ml_B x4) (h_x5 : I32 x5) (h_x6 : I32 x6) (ls : Array Slot), lv_has ls 7 [(0, .ref (base + (46 : Int).toNat)), (1, .ref (base + (p1 : Int).toNat)), (2, .ref (base + (4 : Int).toNat)), (3, .int (Int32.ofInt x3)), (4, .int (Int32.ofInt x4)), (5, .int (Int32.ofInt x5)), (6, .int (Int32.ofInt x6))] → K109 σ x3 x4 x5 x6 → ml_V p l e rm_X6_study s m args below meth c (MQ below (ml_Qv base D cA n Q) args s 0 0 (ml_A base)) base D cA 0 0 n n σ (F0 m 109 ls [])) (σ : ml_St) (x3 : Int) (x4 : Int) (x5 : Int) (x6 : Int) (h_x3 : I32 x3) (h_x4 : ml_B x4) (h_x5 : I32 x5) (h_x6 : I32 x6) (ls : Array Slot) (hl : lv_has ls 7 [(0, .ref (base + (46 : Int).toNat)), (1, .ref (base + (p1 : Int).toNat)), (2, .ref (base + (4 : Int).toNat)), (3, .int (Int32.ofInt x3)), (4, .int (Int32.ofInt x4)), (5, .int (Int32.ofInt x5)), (6, .int (Int32.ofInt x6))]) (hw : f_X6_study_u156 Q K109 p1 σ x3 x4 x5 x6) : ml_V p l e rm_X6_study s m args below meth c (MQ below (ml_Qv base D cA n Q) args s 0 0 (ml_A base)) base D cA 0 0 n n σ (F0 m 156 ls []) := by
  unfold f_X6_study_u156 at hw
  obtain ⟨v1, hw⟩ := hw
  obtain ⟨y1, e1⟩ : ∃ y : Int, y = x6 + 1 := ⟨_, rfl⟩
  have hw := hw y1 e1
  rw [← e1] at v1
  refine ml_iinc (pc := 156) X e1 hl 6 rfl (by decide) (lst' := [(6, .int (Int32.ofInt y1)), (0, .ref (base + (46 : Int).toNat)), (1, .ref (base + (p1 : Int).toNat)), (2, .ref (base + (4 : Int).toNat)), (3, .int (Int32.ofInt x3)), (4, .int (Int32.ofInt x4)), (5, .int (Int32.ofInt x5))]) rfl dX6_study_156 (fun ls hl => ?_)
  refine ml_goto (pc := 159) (tgt := 109) X dX6_study_159 (by decide) ?_
  exact hK109 σ x3 x4 x5 y1 h_x3 h_x4 h_x5 v1 _ (lv_sub hl [1, 2, 3, 4, 5, 6, 0] rfl) hw
set_option maxRecDepth 100000 in
set_option maxHeartbeats 4000000 in
theorem u_X6_study_109 {p : Program} {e : Env} {s : State} {m : MethodId} {args : Array Value} {below : List Frame} {meth : Method} {c : Code} {base : Nat} {D : va_G} {cA : Nat → ClassId} {n : Nat} {l : Launch} {p1 : Int} {Q : ml_St → Prop} {K162 : ml_St → Int → Int → Int → Prop} (X : ml_X p s m c meth args D cA cX6_study 7 RX6 none) (hn : 214 ≤ n) (hp_p1 : ml_at n p1 (19, 8)) (hK162 : ∀ (σ : ml_St) (x3 : Int) (x4 : Int) (x5 : Int) (h_x3 : I32 x3) (h_x4 : ml_B x4) (h_x5 : I32 x5) (ls : Array Slot), lv_has ls 7 [(0, .ref (base + (46 : Int).toNat)), (1, .ref (base + (p1 : Int).toNat)), (2, .ref (base + (4 : Int).toNat)), (3, .int (Int32.ofInt x3)), (4, .int (Int32.ofInt x4)), (5, .int (Int32.ofInt x5))] → K162 σ x3 x4 x5 → ml_V p l e rm_X6_study s m args below meth c (MQ below (ml_Qv base D cA n Q) args s 0 0 (ml_A base)) base D cA 0 0 n n σ (F0 m 162 ls [])) : ∀ (N : Nat) (σ : ml_St) (x3 : Int) (x4 : Int) (x5 : Int) (x6 : Int) (h_x3 : I32 x3) (h_x4 : ml_B x4) (h_x5 : I32 x5) (h_x6 : I32 x6) (ls : Array Slot), lv_has ls 7 [(0, .ref (base + (46 : Int).toNat)), (1, .ref (base + (p1 : Int).toNat)), (2, .ref (base + (4 : Int).toNat)), (3, .int (Int32.ofInt x3)), (4, .int (Int32.ofInt x4)), (5, .int (Int32.ofInt x5)), (6, .int (Int32.ofInt x6))] → f_X6_study_u109 Q K162 p1 N σ x3 x4 x5 x6 → ml_V p l e rm_X6_study s m args below meth c (MQ below (ml_Qv base D cA n Q) args s 0 0 (ml_A base)) base D cA 0 0 n n σ (F0 m 109 ls []) := by
  intro N
  induction N with
  | zero => intro σ x3 x4 x5 x6 h_x3 h_x4 h_x5 h_x6 ls hl hw; exact False.elim hw
  | succ N ih =>
    intro σ x3 x4 x5 x6 h_x3 h_x4 h_x5 h_x6 ls hl hw
    unfold f_X6_study_u109 at hw
    refine ml_iload (pc := 109) X hl 6 rfl dX6_study_109 ?_
    refine ml_iload (pc := 111) X hl 5 rfl dX6_study_111 ?_
    refine ml_icmp_ge (pc := 113) (tgt := 162) X h_x6 h_x5 dX6_study_113 (by decide) (fun c1 => ?_) (fun c1 => ?_)
    · have hw := hw.1 c1
      exact hK162 σ x3 x4 x5 h_x3 h_x4 h_x5 _ (lv_sub hl [0, 1, 2, 3, 4, 5] rfl) hw
    · have hw := hw.2 c1
      refine ml_iload (pc := 116) X hl 4 rfl dX6_study_116 ?_
      refine ml_if_ne (pc := 118) (tgt := 162) X h_x4.i dX6_study_118 (by decide) (fun c2 => ?_) (fun c2 => ?_)
      · have hw := hw.1 c2
        exact hK162 σ x3 x4 x5 h_x3 h_x4 h_x5 _ (lv_sub hl [0, 1, 2, 3, 4, 5] rfl) hw
      · have hw := hw.2 c2
        refine ml_aload_n (pc := 121) X hl 0 rfl rfl dX6_study_121 ?_
        refine gf_X6_11 (pc := 122) X (ml_c46 hn) dX6_study_122 ?_
        refine ml_iload (pc := 125) X hl 6 rfl dX6_study_125 ?_
        obtain ⟨a3, b3, hw⟩ := hw
        refine ml_iald (pc := 127) (N := 65) X (ml_c47 hn) a3 b3 dX6_study_127 (fun r3 => ?_)
        have hw := hw r3
        refine ml_aload_n (pc := 128) X hl 0 rfl rfl dX6_study_128 ?_
        refine gf_X6_11 (pc := 129) X (ml_c46 hn) dX6_study_129 ?_
        refine ml_iload (pc := 132) X hl 5 rfl dX6_study_132 ?_
        obtain ⟨a4, b4, hw⟩ := hw
        refine ml_iald (pc := 134) (N := 65) X (ml_c47 hn) a4 b4 dX6_study_134 (fun r4 => ?_)
        have hw := hw r4
        refine ml_icmp_ne (pc := 135) (tgt := 156) X r3 r4 dX6_study_135 (by decide) (fun c5 => ?_) (fun c5 => ?_)
        · have hw := hw.1 c5
          exact u_X6_study_156 X hn hp_p1 ih σ x3 x4 x5 x6 h_x3 h_x4 h_x5 h_x6 _ (lv_sub hl [0, 1, 2, 3, 4, 5, 6] rfl) hw
        · have hw := hw.2 c5
          refine ml_iconst (pc := 138) X dX6_study_138 ?_
          refine ml_istore (pc := 139) X hl (by decide) (lst' := [(4, .int (Int32.ofInt 1)), (0, .ref (base + (46 : Int).toNat)), (1, .ref (base + (p1 : Int).toNat)), (2, .ref (base + (4 : Int).toNat)), (3, .int (Int32.ofInt x3)), (5, .int (Int32.ofInt x5)), (6, .int (Int32.ofInt x6))]) rfl dX6_study_139 (fun ls hl => ?_)
          refine ml_aload_n (pc := 141) X hl 1 rfl rfl dX6_study_141 ?_
          refine ml_iload (pc := 142) X hl 6 rfl dX6_study_142 ?_
          refine pf_X6_29 (pc := 144) X (ml_c46 hn) h_x6 dX6_study_144 (fun σ6 g6 => ?_)
          have hw := hw σ6 g6
          refine ml_aload_n (pc := 147) X hl 1 rfl rfl dX6_study_147 ?_
          refine ml_iload (pc := 148) X hl 5 rfl dX6_study_148 ?_
          refine ml_iload (pc := 150) X hl 6 rfl dX6_study_150 ?_
          obtain ⟨v7, hw⟩ := hw
          refine ml_isub (pc := 152) X dX6_study_152 ?_
          refine pf_X6_33 (pc := 153) X (ml_c46 hn) v7 dX6_study_153 (fun σ8 g8 => ?_)
          have hw := hw σ8 g8
          exact u_X6_study_156 X hn hp_p1 ih σ8 x3 1 x5 x6 h_x3 ⟨by decide, by decide⟩ h_x5 h_x6 _ (lv_sub hl [1, 2, 3, 4, 0, 5, 6] rfl) hw
set_option maxRecDepth 100000 in
set_option maxHeartbeats 4000000 in
theorem u_X6_study_162 {p : Program} {e : Env} {s : State} {m : MethodId} {args : Array Value} {below : List Frame} {meth : Method} {c : Code} {base : Nat} {D : va_G} {cA : Nat → ClassId} {n : Nat} {l : Launch} {p1 : Int} {Q : ml_St → Prop} {K24 : ml_St → Int → Int → Int → Prop} (X : ml_X p s m c meth args D cA cX6_study 7 RX6 none) (hn : 214 ≤ n) (hp_p1 : ml_at n p1 (19, 8)) (hK24 : ∀ (σ : ml_St) (x3 : Int) (x4 : Int) (x5 : Int) (h_x3 : I32 x3) (h_x4 : ml_B x4) (h_x5 : I32 x5) (ls : Array Slot), lv_has ls 7 [(0, .ref (base + (46 : Int).toNat)), (1, .ref (base + (p1 : Int).toNat)), (2, .ref (base + (4 : Int).toNat)), (3, .int (Int32.ofInt x3)), (4, .int (Int32.ofInt x4)), (5, .int (Int32.ofInt x5))] → K24 σ x3 x4 x5 → ml_V p l e rm_X6_study s m args below meth c (MQ below (ml_Qv base D cA n Q) args s 0 0 (ml_A base)) base D cA 0 0 n n σ (F0 m 24 ls [])) (σ : ml_St) (x3 : Int) (x4 : Int) (x5 : Int) (h_x3 : I32 x3) (h_x4 : ml_B x4) (h_x5 : I32 x5) (ls : Array Slot) (hl : lv_has ls 7 [(0, .ref (base + (46 : Int).toNat)), (1, .ref (base + (p1 : Int).toNat)), (2, .ref (base + (4 : Int).toNat)), (3, .int (Int32.ofInt x3)), (4, .int (Int32.ofInt x4)), (5, .int (Int32.ofInt x5))]) (hw : f_X6_study_u162 Q K24 p1 σ x3 x4 x5) : ml_V p l e rm_X6_study s m args below meth c (MQ below (ml_Qv base D cA n Q) args s 0 0 (ml_A base)) base D cA 0 0 n n σ (F0 m 162 ls []) := by
  unfold f_X6_study_u162 at hw
  obtain ⟨v1, hw⟩ := hw
  obtain ⟨y1, e1⟩ : ∃ y : Int, y = x5 + 1 := ⟨_, rfl⟩
  have hw := hw y1 e1
  rw [← e1] at v1
  refine ml_iinc (pc := 162) X e1 hl 5 rfl (by decide) (lst' := [(5, .int (Int32.ofInt y1)), (0, .ref (base + (46 : Int).toNat)), (1, .ref (base + (p1 : Int).toNat)), (2, .ref (base + (4 : Int).toNat)), (3, .int (Int32.ofInt x3)), (4, .int (Int32.ofInt x4))]) rfl dX6_study_162 (fun ls hl => ?_)
  refine ml_goto (pc := 165) (tgt := 24) X dX6_study_165 (by decide) ?_
  exact hK24 σ x3 x4 y1 h_x3 h_x4 v1 _ (lv_sub hl [1, 2, 3, 4, 5, 0] rfl) hw
set_option maxRecDepth 100000 in
set_option maxHeartbeats 4000000 in
theorem u_X6_study_66 {p : Program} {e : Env} {s : State} {m : MethodId} {args : Array Value} {below : List Frame} {meth : Method} {c : Code} {base : Nat} {D : va_G} {cA : Nat → ClassId} {n : Nat} {l : Launch} {p1 : Int} {Q : ml_St → Prop} {K24 : ml_St → Int → Int → Int → Prop} (X : ml_X p s m c meth args D cA cX6_study 7 RX6 none) (hn : 214 ≤ n) (hp_p1 : ml_at n p1 (19, 8)) (hK24 : ∀ (σ : ml_St) (x3 : Int) (x4 : Int) (x5 : Int) (h_x3 : I32 x3) (h_x4 : ml_B x4) (h_x5 : I32 x5) (ls : Array Slot), lv_has ls 7 [(0, .ref (base + (46 : Int).toNat)), (1, .ref (base + (p1 : Int).toNat)), (2, .ref (base + (4 : Int).toNat)), (3, .int (Int32.ofInt x3)), (4, .int (Int32.ofInt x4)), (5, .int (Int32.ofInt x5))] → K24 σ x3 x4 x5 → ml_V p l e rm_X6_study s m args below meth c (MQ below (ml_Qv base D cA n Q) args s 0 0 (ml_A base)) base D cA 0 0 n n σ (F0 m 24 ls [])) (σ : ml_St) (x3 : Int) (x4 : Int) (x5 : Int) (h_x3 : I32 x3) (h_x4 : ml_B x4) (h_x5 : I32 x5) (ls : Array Slot) (hl : lv_has ls 7 [(0, .ref (base + (46 : Int).toNat)), (1, .ref (base + (p1 : Int).toNat)), (2, .ref (base + (4 : Int).toNat)), (3, .int (Int32.ofInt x3)), (4, .int (Int32.ofInt x4)), (5, .int (Int32.ofInt x5))]) (hw : f_X6_study_u66 Q K24 p1 σ x3 x4 x5) : ml_V p l e rm_X6_study s m args below meth c (MQ below (ml_Qv base D cA n Q) args s 0 0 (ml_A base)) base D cA 0 0 n n σ (F0 m 66 ls []) := by
  unfold f_X6_study_u66 at hw
  refine ml_aload_n (pc := 66) X hl 0 rfl rfl dX6_study_66 ?_
  refine gf_X6_11 (pc := 67) X (ml_c46 hn) dX6_study_67 ?_
  refine ml_iload (pc := 70) X hl 5 rfl dX6_study_70 ?_
  refine ml_aload_n (pc := 72) X hl 0 rfl rfl dX6_study_72 ?_
  refine gf_X6_22 (pc := 73) X (ml_c46 hn) dX6_study_73 ?_
  refine ml_iload_n (pc := 76) X hl 3 rfl rfl dX6_study_76 ?_
  refine ml_calliV (pc := 77) (rest := [.int (Int32.ofInt x5), .ref (base + (47 : Int).toNat)]) X [.int (Int32.ofInt x3)] (by decide) rfl (ml_c49 hn) (c_X9_number l base D cA n hn σ 49 (ml_c49 hn) x3 h_x3 _ hw) cv_X6_57 ⟨rfl, rfl⟩ ⟨by decide, by decide⟩ rfl rfl hl (Nat.le_of_ble_eq_true rfl) ⟨Nat.zero_le _, Nat.zero_le _⟩ dX6_study_77 (fun r1 σ1 t1 hw => ?_)
  have hw := hw t1
  obtain ⟨a2, b2, hw⟩ := hw
  refine ml_iast (pc := 80) (N := 65) X (ml_c47 hn) a2 b2 t1 dX6_study_80 (fun σ2 g2 => ?_)
  have hw := hw σ2 g2
  refine ml_aload_n (pc := 81) X hl 0 rfl rfl dX6_study_81 ?_
  refine gf_X6_15 (pc := 82) X (ml_c46 hn) dX6_study_82 ?_
  refine ml_iload (pc := 85) X hl 5 rfl dX6_study_85 ?_
  refine ml_aload_n (pc := 87) X hl 0 rfl rfl dX6_study_87 ?_
  refine gf_X6_22 (pc := 88) X (ml_c46 hn) dX6_study_88 ?_
  refine gf_X6_61 (pc := 91) X (ml_c49 hn) dX6_study_91 (fun r3 => ?_)
  have hw := hw r3
  refine ml_aload_n (pc := 94) X hl 2 rfl rfl dX6_study_94 ?_
  refine ml_aload_n (pc := 95) X hl 0 rfl rfl dX6_study_95 ?_
  refine gf_X6_22 (pc := 96) X (ml_c46 hn) dX6_study_96 ?_
  refine ml_iload_n (pc := 99) X hl 3 rfl rfl dX6_study_99 ?_
  refine ml_calliV (pc := 100) (rest := [.long (Int64.ofInt (σ2 49 2)), .int (Int32.ofInt x5), .ref (base + (48 : Int).toNat)]) X [.ref (base + (49 : Int).toNat), .int (Int32.ofInt x3)] (by decide) rfl (ml_c4 hn) (c_X0_loopsBy l base D cA n hn σ2 49 (ml_c49 hn) x3 h_x3 _ hw) cv_X6_64 ⟨rfl, rfl⟩ ⟨by decide, by decide⟩ rfl rfl hl (Nat.le_of_ble_eq_true rfl) ⟨Nat.zero_le _, Nat.zero_le _⟩ dX6_study_100 (fun r4 σ4 t4 hw => ?_)
  have hw := hw t4
  refine ml_i2l (pc := 103) X t4 dX6_study_103 ?_
  refine ml_laddW (pc := 104) X dX6_study_104 ?_
  obtain ⟨a6, b6, hw⟩ := hw
  refine ml_last (pc := 105) (N := 65) X (ml_c48 hn) a6 b6 (w64_r _) dX6_study_105 (fun σ6 g6 => ?_)
  have hw := hw σ6 g6
  refine ml_iconst (pc := 106) X dX6_study_106 ?_
  refine ml_istore (pc := 107) X hl (by decide) (lst' := [(6, .int (Int32.ofInt 1)), (0, .ref (base + (46 : Int).toNat)), (1, .ref (base + (p1 : Int).toNat)), (2, .ref (base + (4 : Int).toNat)), (3, .int (Int32.ofInt x3)), (4, .int (Int32.ofInt x4)), (5, .int (Int32.ofInt x5))]) rfl dX6_study_107 (fun ls hl => ?_)
  obtain ⟨N0, hw⟩ := hw
  exact u_X6_study_109 X hn hp_p1 (fun σ x3 x4 x5 h_x3 h_x4 h_x5 ls hl hw => u_X6_study_162 X hn hp_p1 hK24 σ x3 x4 x5 h_x3 h_x4 h_x5 ls hl hw) N0 σ6 x3 x4 x5 1 h_x3 h_x4 h_x5 ⟨by decide, by decide⟩ _ (lv_sub hl [1, 2, 3, 4, 5, 6, 0] rfl) hw
set_option maxRecDepth 100000 in
set_option maxHeartbeats 4000000 in
theorem u_X6_study_24 {p : Program} {e : Env} {s : State} {m : MethodId} {args : Array Value} {below : List Frame} {meth : Method} {c : Code} {base : Nat} {D : va_G} {cA : Nat → ClassId} {n : Nat} {l : Launch} {p1 : Int} {Q : ml_St → Prop} {K168 : ml_St → Prop} (X : ml_X p s m c meth args D cA cX6_study 7 RX6 none) (hn : 214 ≤ n) (hp_p1 : ml_at n p1 (19, 8)) (hK168 : ∀ (σ : ml_St) (ls : Array Slot), lv_has ls 7 [(0, .ref (base + (46 : Int).toNat))] → K168 σ → ml_V p l e rm_X6_study s m args below meth c (MQ below (ml_Qv base D cA n Q) args s 0 0 (ml_A base)) base D cA 0 0 n n σ (F0 m 168 ls [])) : ∀ (N : Nat) (σ : ml_St) (x3 : Int) (x4 : Int) (x5 : Int) (h_x3 : I32 x3) (h_x4 : ml_B x4) (h_x5 : I32 x5) (ls : Array Slot), lv_has ls 7 [(0, .ref (base + (46 : Int).toNat)), (1, .ref (base + (p1 : Int).toNat)), (2, .ref (base + (4 : Int).toNat)), (3, .int (Int32.ofInt x3)), (4, .int (Int32.ofInt x4)), (5, .int (Int32.ofInt x5))] → f_X6_study_u24 Q K168 p1 N σ x3 x4 x5 → ml_V p l e rm_X6_study s m args below meth c (MQ below (ml_Qv base D cA n Q) args s 0 0 (ml_A base)) base D cA 0 0 n n σ (F0 m 24 ls []) := by
  intro N
  induction N with
  | zero => intro σ x3 x4 x5 h_x3 h_x4 h_x5 ls hl hw; exact False.elim hw
  | succ N ih =>
    intro σ x3 x4 x5 h_x3 h_x4 h_x5 ls hl hw
    unfold f_X6_study_u24 at hw
    refine ml_iload (pc := 24) X hl 5 rfl dX6_study_24 ?_
    refine ml_bipush (pc := 26) X dX6_study_26 (by decide) ?_
    refine ml_icmp_gt (pc := 28) (tgt := 168) X h_x5 ⟨by decide, by decide⟩ dX6_study_28 (by decide) (fun c1 => ?_) (fun c1 => ?_)
    · have hw := hw.1 c1
      exact hK168 σ   _ (lv_sub hl [0] rfl) hw
    · have hw := hw.2 c1
      refine ml_iload (pc := 31) X hl 4 rfl dX6_study_31 ?_
      refine ml_if_ne (pc := 33) (tgt := 168) X h_x4.i dX6_study_33 (by decide) (fun c2 => ?_) (fun c2 => ?_)
      · have hw := hw.1 c2
        exact hK168 σ   _ (lv_sub hl [0] rfl) hw
      · have hw := hw.2 c2
        refine ml_iload (pc := 36) X hl 5 rfl dX6_study_36 ?_
        refine ml_iconst (pc := 38) X dX6_study_38 ?_
        refine ml_icmp_le (pc := 39) (tgt := 66) X h_x5 ⟨by decide, by decide⟩ dX6_study_39 (by decide) (fun c3 => ?_) (fun c3 => ?_)
        · have hw := hw.1 c3
          exact u_X6_study_66 X hn hp_p1 ih σ x3 x4 x5 h_x3 h_x4 h_x5 _ (lv_sub hl [0, 1, 2, 3, 4, 5] rfl) hw
        · have hw := hw.2 c3
          refine ml_aload_n (pc := 42) X hl 0 rfl rfl dX6_study_42 ?_
          refine gf_X6_26 (pc := 43) X (ml_c46 hn) dX6_study_43 ?_
          refine ml_aload_n (pc := 46) X hl 0 rfl rfl dX6_study_46 ?_
          refine gf_X6_22 (pc := 47) X (ml_c46 hn) dX6_study_47 ?_
          refine ml_aload_n (pc := 50) X hl 1 rfl rfl dX6_study_50 ?_
          refine ml_iload_n (pc := 51) X hl 3 rfl rfl dX6_study_51 ?_
          refine ml_callvV (pc := 52) (rest := []) X [.ref (base + (49 : Int).toNat), .ref (base + (p1 : Int).toNat), .int (Int32.ofInt x3)] (by decide) rfl (ml_c52 hn) (c_X9_beBoth l base D cA n hn σ 52 49 p1 (ml_c52 hn) (ml_c49 hn) hp_p1 x3 h_x3 _ hw) cv_X6_53 ⟨rfl, rfl⟩ ⟨by decide, by decide⟩ rfl rfl hl (Nat.le_of_ble_eq_true rfl) ⟨Nat.zero_le _, Nat.zero_le _⟩ dX6_study_52 (fun σ4 hw => ?_)
          refine ml_aload_n (pc := 55) X hl 0 rfl rfl dX6_study_55 ?_
          refine gf_X6_22 (pc := 56) X (ml_c46 hn) dX6_study_56 ?_
          refine ml_aload_n (pc := 59) X hl 0 rfl rfl dX6_study_59 ?_
          refine gf_X6_26 (pc := 60) X (ml_c46 hn) dX6_study_60 ?_
          refine ml_callvV (pc := 63) (rest := []) X [.ref (base + (52 : Int).toNat)] (by decide) rfl (ml_c49 hn) (c_X9_beLike l base D cA n hn σ4 49 52 (ml_c49 hn) (ml_c52 hn) _ hw) cv_X6_49 ⟨rfl, rfl⟩ ⟨by decide, by decide⟩ rfl rfl hl (Nat.le_of_ble_eq_true rfl) ⟨Nat.zero_le _, Nat.zero_le _⟩ dX6_study_63 (fun σ5 hw => ?_)
          exact u_X6_study_66 X hn hp_p1 ih σ5 x3 x4 x5 h_x3 h_x4 h_x5 _ (lv_sub hl [0, 1, 2, 3, 4, 5] rfl) hw
set_option maxRecDepth 100000 in
set_option maxHeartbeats 4000000 in
theorem u_X6_study_168 {p : Program} {e : Env} {s : State} {m : MethodId} {args : Array Value} {below : List Frame} {meth : Method} {c : Code} {base : Nat} {D : va_G} {cA : Nat → ClassId} {n : Nat} {l : Launch} {p1 : Int} {Q : ml_St → Prop} (X : ml_X p s m c meth args D cA cX6_study 7 RX6 none) (hn : 214 ≤ n) (hp_p1 : ml_at n p1 (19, 8)) (σ : ml_St) (ls : Array Slot) (hl : lv_has ls 7 [(0, .ref (base + (46 : Int).toNat))]) (hw : f_X6_study_u168 Q p1 σ) : ml_V p l e rm_X6_study s m args below meth c (MQ below (ml_Qv base D cA n Q) args s 0 0 (ml_A base)) base D cA 0 0 n n σ (F0 m 168 ls []) := by
  unfold f_X6_study_u168 at hw
  refine ml_aload_n (pc := 168) X hl 0 rfl rfl dX6_study_168 ?_
  refine ml_aload_n (pc := 169) X hl 0 rfl rfl dX6_study_169 ?_
  refine gf_X6_15 (pc := 170) X (ml_c46 hn) dX6_study_170 ?_
  refine ml_aload_n (pc := 173) X hl 0 rfl rfl dX6_study_173 ?_
  refine gf_X6_29 (pc := 174) X (ml_c46 hn) dX6_study_174 (fun r1 => ?_)
  have hw := hw r1
  refine ml_aload_n (pc := 177) X hl 0 rfl rfl dX6_study_177 ?_
  refine gf_X6_33 (pc := 178) X (ml_c46 hn) dX6_study_178 (fun r2 => ?_)
  have hw := hw r2
  obtain ⟨v3, hw⟩ := hw
  refine ml_iadd (pc := 181) X dX6_study_181 ?_
  obtain ⟨a4, b4, hw⟩ := hw
  refine ml_lald (pc := 182) (N := 65) X (ml_c48 hn) a4 b4 dX6_study_182 (fun r4 => ?_)
  have hw := hw r4
  refine ml_aload_n (pc := 183) X hl 0 rfl rfl dX6_study_183 ?_
  refine gf_X6_15 (pc := 184) X (ml_c46 hn) dX6_study_184 ?_
  refine ml_aload_n (pc := 187) X hl 0 rfl rfl dX6_study_187 ?_
  refine gf_X6_29 (pc := 188) X (ml_c46 hn) dX6_study_188 (fun r5 => ?_)
  have hw := hw r5
  obtain ⟨a6, b6, hw⟩ := hw
  refine ml_lald (pc := 191) (N := 65) X (ml_c48 hn) a6 b6 dX6_study_191 (fun r6 => ?_)
  have hw := hw r6
  refine ml_lsubW (pc := 192) X dX6_study_192 ?_
  refine pf_X6_36 (pc := 193) X (ml_c46 hn) (w64_r _) dX6_study_193 (fun σ8 g8 => ?_)
  have hw := hw σ8 g8
  exact ml_vret (pc := 196) X hw dX6_study_196
set_option maxRecDepth 100000 in
set_option maxHeartbeats 4000000 in
theorem u_X6_study_0 {p : Program} {e : Env} {s : State} {m : MethodId} {args : Array Value} {below : List Frame} {meth : Method} {c : Code} {base : Nat} {D : va_G} {cA : Nat → ClassId} {n : Nat} {l : Launch} {p1 : Int} {Q : ml_St → Prop} (X : ml_X p s m c meth args D cA cX6_study 7 RX6 none) (hn : 214 ≤ n) (hp_p1 : ml_at n p1 (19, 8)) (σ : ml_St) (x3 : Int) (h_x3 : I32 x3) (ls : Array Slot) (hl : lv_has ls 7 [(0, .ref (base + (46 : Int).toNat)), (1, .ref (base + (p1 : Int).toNat)), (2, .ref (base + (4 : Int).toNat)), (3, .int (Int32.ofInt x3))]) (hw : f_X6_study_u0 Q p1 σ x3) : ml_V p l e rm_X6_study s m args below meth c (MQ below (ml_Qv base D cA n Q) args s 0 0 (ml_A base)) base D cA 0 0 n n σ (F0 m 0 ls []) := by
  unfold f_X6_study_u0 at hw
  refine ml_iconst (pc := 0) X dX6_study_0 ?_
  refine ml_istore (pc := 1) X hl (by decide) (lst' := [(4, .int (Int32.ofInt 0)), (0, .ref (base + (46 : Int).toNat)), (1, .ref (base + (p1 : Int).toNat)), (2, .ref (base + (4 : Int).toNat)), (3, .int (Int32.ofInt x3))]) rfl dX6_study_1 (fun ls hl => ?_)
  refine ml_aload_n (pc := 3) X hl 1 rfl rfl dX6_study_3 ?_
  refine ml_iconst (pc := 4) X dX6_study_4 ?_
  refine pf_X6_29 (pc := 5) X (ml_c46 hn) ⟨by decide, by decide⟩ dX6_study_5 (fun σ1 g1 => ?_)
  have hw := hw σ1 g1
  refine ml_aload_n (pc := 8) X hl 1 rfl rfl dX6_study_8 ?_
  refine ml_iconst (pc := 9) X dX6_study_9 ?_
  refine pf_X6_33 (pc := 10) X (ml_c46 hn) ⟨by decide, by decide⟩ dX6_study_10 (fun σ2 g2 => ?_)
  have hw := hw σ2 g2
  refine ml_aload_n (pc := 13) X hl 1 rfl rfl dX6_study_13 ?_
  refine gf_X6_22 (pc := 14) X (ml_c46 hn) dX6_study_14 ?_
  refine ml_aload_n (pc := 17) X hl 2 rfl rfl dX6_study_17 ?_
  refine ml_callvV (pc := 18) (rest := []) X [.ref (base + (p1 : Int).toNat)] (by decide) rfl (ml_c49 hn) (c_X9_beLike l base D cA n hn σ2 49 p1 (ml_c49 hn) hp_p1 _ hw) cv_X6_49 ⟨rfl, rfl⟩ ⟨by decide, by decide⟩ rfl rfl hl (Nat.le_of_ble_eq_true rfl) ⟨Nat.zero_le _, Nat.zero_le _⟩ dX6_study_18 (fun σ3 hw => ?_)
  refine ml_iconst (pc := 21) X dX6_study_21 ?_
  refine ml_istore (pc := 22) X hl (by decide) (lst' := [(5, .int (Int32.ofInt 1)), (4, .int (Int32.ofInt 0)), (0, .ref (base + (46 : Int).toNat)), (1, .ref (base + (p1 : Int).toNat)), (2, .ref (base + (4 : Int).toNat)), (3, .int (Int32.ofInt x3))]) rfl dX6_study_22 (fun ls hl => ?_)
  obtain ⟨N0, hw⟩ := hw
  exact u_X6_study_24 X hn hp_p1 (fun σ   ls hl hw => u_X6_study_168 X hn hp_p1 σ   ls hl hw) N0 σ3 x3 0 1 h_x3 ⟨by decide, by decide⟩ ⟨by decide, by decide⟩ _ (lv_sub hl [2, 3, 4, 5, 1, 0] rfl) hw
set_option maxRecDepth 100000 in
theorem c_X6_study (l : Launch) (base : Nat) (D : va_G) (cA : Nat → ClassId) (n : Nat) (hn : 214 ≤ n) (σ : ml_St) (p1 : Int) (hp_p1 : ml_at n p1 (19, 8)) (x3 : Int) (h_x3 : I32 x3) (Q : ml_St → Prop) (hw : f_X6_study σ p1 x3 Q) : Met l yX6_study (Cond.code yX6_study cX6_study 7 none :: ml_T) rm_X6_study (va_Pc [.ref (base + (46 : Int).toNat), .ref (base + (p1 : Int).toNat), .ref (base + (4 : Int).toNat), .int (Int32.ofInt x3)] (ml_U base D cA n σ)) (ml_Qv base D cA n Q) 0 0 (ml_A base) := by
  refine Met.ofW (cc := cX6_study) (maxL := 7) (ret := none) (by decide) rfl ?_
  intro p e s m args below meth c s₁ B hml hv
  obtain ⟨rfl, hP, hK, hok, hro⟩ := hv
  have X : ml_X p s m c meth _ D cA cX6_study 7 RX6 none := ⟨B.exec, B.bytes, hml, findClass_of_methodNamed B.named, fun w hw => atoms_spec (ws := Cond.code yX6_study cX6_study 7 none :: ml_T) B.pre w (List.mem_cons_of_mem _ hw), hK, B.notSynchronized, B.returns⟩
  have hl := lv_entry [.ref (base + (46 : Int).toNat), .ref (base + (p1 : Int).toNat), .ref (base + (4 : Int).toNat), .int (Int32.ofInt x3)] (n := 7) (Nat.le_of_ble_eq_true rfl)
  rw [lg_entry_eq]
  generalize (lg_sl [.ref (base + (46 : Int).toNat), .ref (base + (p1 : Int).toNat), .ref (base + (4 : Int).toNat), .int (Int32.ofInt x3)] ++ List.replicate (7 - (lg_sl [.ref (base + (46 : Int).toNat), .ref (base + (p1 : Int).toNat), .ref (base + (4 : Int).toNat), .int (Int32.ofInt x3)]).length) Slot.unset).toArray = ls at hl ⊢
  have hl : lv_has ls 7 [(0, .ref (base + (46 : Int).toNat)), (1, .ref (base + (p1 : Int).toNat)), (2, .ref (base + (4 : Int).toNat)), (3, .int (Int32.ofInt x3))] := hl
  unfold f_X6_study at hw
  exact u_X6_study_0 X hn hp_p1 σ x3 h_x3 _ (lv_sub hl [0, 1, 2, 3] rfl) hw s.heap [] hP va_S.rf hok hro
theorem dX11_power_0 : decode cX11_power 0 = .ok (.aload_n 0, 1) := by decide +kernel
theorem dX11_power_1 : decode cX11_power 1 = .ok (.iload_n 1, 1) := by decide +kernel
theorem dX11_power_2 : decode cX11_power 2 = .ok (.invokevirtual 121, 3) := by decide +kernel
theorem dX11_power_5 : decode cX11_power 5 = .ok (.ifCond .eq 12, 3) := by decide +kernel
theorem dX11_power_8 : decode cX11_power 8 = .ok (.iload_n 2, 1) := by decide +kernel
theorem dX11_power_9 : decode cX11_power 9 = .ok (.ifCond .lt 8, 3) := by decide +kernel
theorem dX11_power_12 : decode cX11_power 12 = .ok (.iload_n 2, 1) := by decide +kernel
theorem dX11_power_13 : decode cX11_power 13 = .ok (.iconst 1, 1) := by decide +kernel
theorem dX11_power_14 : decode cX11_power 14 = .ok (.if_icmp .le 5, 3) := by decide +kernel
theorem dX11_power_17 : decode cX11_power 17 = .ok (.iconst (-1), 1) := by decide +kernel
theorem dX11_power_18 : decode cX11_power 18 = .ok (.ireturn, 1) := by decide +kernel
theorem dX11_power_19 : decode cX11_power 19 = .ok (.aload_n 0, 1) := by decide +kernel
theorem dX11_power_20 : decode cX11_power 20 = .ok (.getfield 40, 3) := by decide +kernel
theorem dX11_power_23 : decode cX11_power 23 = .ok (.aload_n 0, 1) := by decide +kernel
theorem dX11_power_24 : decode cX11_power 24 = .ok (.getfield 67, 3) := by decide +kernel
theorem dX11_power_27 : decode cX11_power 27 = .ok (.iload_n 1, 1) := by decide +kernel
theorem dX11_power_28 : decode cX11_power 28 = .ok (.aaload, 1) := by decide +kernel
theorem dX11_power_29 : decode cX11_power 29 = .ok (.getfield 112, 3) := by decide +kernel
theorem dX11_power_32 : decode cX11_power 32 = .ok (.aload_n 0, 1) := by decide +kernel
theorem dX11_power_33 : decode cX11_power 33 = .ok (.getfield 19, 3) := by decide +kernel
theorem dX11_power_36 : decode cX11_power 36 = .ok (.aload_n 0, 1) := by decide +kernel
theorem dX11_power_37 : decode cX11_power 37 = .ok (.getfield 82, 3) := by decide +kernel
theorem dX11_power_40 : decode cX11_power 40 = .ok (.invokevirtual 148, 3) := by decide +kernel
theorem dX11_power_43 : decode cX11_power 43 = .ok (.iload_n 2, 1) := by decide +kernel
theorem dX11_power_44 : decode cX11_power 44 = .ok (.ifCond .ne 13, 3) := by decide +kernel
theorem dX11_power_47 : decode cX11_power 47 = .ok (.aload_n 0, 1) := by decide +kernel
theorem dX11_power_48 : decode cX11_power 48 = .ok (.getfield 40, 3) := by decide +kernel
theorem dX11_power_51 : decode cX11_power 51 = .ok (.getfield 152, 3) := by decide +kernel
theorem dX11_power_54 : decode cX11_power 54 = .ok (.goto 10, 3) := by decide +kernel
theorem dX11_power_57 : decode cX11_power 57 = .ok (.aload_n 0, 1) := by decide +kernel
theorem dX11_power_58 : decode cX11_power 58 = .ok (.getfield 40, 3) := by decide +kernel
theorem dX11_power_61 : decode cX11_power 61 = .ok (.getfield 155, 3) := by decide +kernel
theorem dX11_power_64 : decode cX11_power 64 = .ok (.ireturn, 1) := by decide +kernel
def f_X11_power_u17 (Q : Int → ml_St → Prop) (σ : ml_St) : Prop :=
Q (-1) σ
def f_X11_power_u64 (Q : Int → ml_St → Prop) (σ : ml_St) (s0 : Int) : Prop :=
Q s0 σ
def f_X11_power_u0 (Q : Int → ml_St → Prop) (σ : ml_St) (x1 : Int) (x2 : Int) : Prop :=
f_X11_isMade σ x1 (fun r1 σ1 => ∀ _ : ml_B r1,
(r1 = 0 →
f_X11_power_u17 Q σ1) ∧
(r1 ≠ 0 →
(x2 < 0 →
f_X11_power_u17 Q σ1) ∧
(¬ (x2 < 0) →
(x2 ≤ 1 →
(0 : Int) ≤ x1 ∧ (x1 : Int) < 16 ∧
∀ _ : I32 (σ1 1 11),
f_X6_study σ1 ((119 + 6 * x1) + 2) (σ1 1 11) (fun σ7 =>
(x2 ≠ 0 →
∀ _ : I32 (σ7 46 5),
f_X11_power_u64 Q σ7 (σ7 46 5)) ∧
(x2 = 0 →
∀ _ : I32 (σ7 46 4),
f_X11_power_u64 Q σ7 (σ7 46 4)))) ∧
(¬ (x2 ≤ 1) →
f_X11_power_u17 Q σ1))))
def f_X11_power (σ : ml_St) (x1 : Int) (x2 : Int) (Q : Int → ml_St → Prop) : Prop := f_X11_power_u0 Q σ x1 x2
def rm_X11_power : Room := { frames := 4, cells := 0, slots := 0, locals := 141 }
set_option maxRecDepth 100000 in
set_option maxHeartbeats 4000000 in
theorem u_X11_power_17 {p : Program} {e : Env} {s : State} {m : MethodId} {args : Array Value} {below : List Frame} {meth : Method} {c : Code} {base : Nat} {D : va_G} {cA : Nat → ClassId} {n : Nat} {l : Launch} {Q : Int → ml_St → Prop} (X : ml_X p s m c meth args D cA cX11_power 3 RX11 (some .int)) (hn : 214 ≤ n) (σ : ml_St) (ls : Array Slot) (hl : lv_has ls 3 []) (hw : f_X11_power_u17 Q σ) : ml_V p l e rm_X11_power s m args below meth c (MQ below (ml_Qi I32 base D cA n Q) args s 0 0 (ml_A base)) base D cA 0 0 n n σ (F0 m 17 ls []) := by
  unfold f_X11_power_u17 at hw
  refine ml_iconst (pc := 17) X dX11_power_17 ?_
  exact ml_iret (pc := 18) X ⟨by decide, by decide⟩ hw dX11_power_18
set_option maxRecDepth 100000 in
set_option maxHeartbeats 4000000 in
theorem u_X11_power_64 {p : Program} {e : Env} {s : State} {m : MethodId} {args : Array Value} {below : List Frame} {meth : Method} {c : Code} {base : Nat} {D : va_G} {cA : Nat → ClassId} {n : Nat} {l : Launch} {Q : Int → ml_St → Prop} (X : ml_X p s m c meth args D cA cX11_power 3 RX11 (some .int)) (hn : 214 ≤ n) (σ : ml_St) (s0 : Int) (h_s0 : I32 s0) (ls : Array Slot) (hl : lv_has ls 3 []) (hw : f_X11_power_u64 Q σ s0) : ml_V p l e rm_X11_power s m args below meth c (MQ below (ml_Qi I32 base D cA n Q) args s 0 0 (ml_A base)) base D cA 0 0 n n σ (F0 m 64 ls [.int (Int32.ofInt s0)]) := by
  unfold f_X11_power_u64 at hw
  exact ml_iret (pc := 64) X h_s0 hw dX11_power_64
set_option maxRecDepth 100000 in
set_option maxHeartbeats 4000000 in
theorem u_X11_power_0 {p : Program} {e : Env} {s : State} {m : MethodId} {args : Array Value} {below : List Frame} {meth : Method} {c : Code} {base : Nat} {D : va_G} {cA : Nat → ClassId} {n : Nat} {l : Launch} {Q : Int → ml_St → Prop} (X : ml_X p s m c meth args D cA cX11_power 3 RX11 (some .int)) (hn : 214 ≤ n) (σ : ml_St) (x1 : Int) (x2 : Int) (h_x1 : I32 x1) (h_x2 : I32 x2) (ls : Array Slot) (hl : lv_has ls 3 [(0, .ref (base + (1 : Int).toNat)), (1, .int (Int32.ofInt x1)), (2, .int (Int32.ofInt x2))]) (hw : f_X11_power_u0 Q σ x1 x2) : ml_V p l e rm_X11_power s m args below meth c (MQ below (ml_Qi I32 base D cA n Q) args s 0 0 (ml_A base)) base D cA 0 0 n n σ (F0 m 0 ls []) := by
  unfold f_X11_power_u0 at hw
  refine ml_aload_n (pc := 0) X hl 0 rfl rfl dX11_power_0 ?_
  refine ml_iload_n (pc := 1) X hl 1 rfl rfl dX11_power_1 ?_
  refine ml_callzV (pc := 2) (rest := []) X [.int (Int32.ofInt x1)] (by decide) rfl (ml_c1 hn) (c_X11_isMade l base D cA n hn σ x1 h_x1 _ hw) cv_X11_121 ⟨rfl, rfl⟩ ⟨by decide, by decide⟩ rfl rfl hl (Nat.le_of_ble_eq_true rfl) ⟨Nat.zero_le _, Nat.zero_le _⟩ dX11_power_2 (fun r1 σ1 t1 hw => ?_)
  have hw := hw t1
  refine ml_if_eq (pc := 5) (tgt := 17) X t1.i dX11_power_5 (by decide) (fun c2 => ?_) (fun c2 => ?_)
  · have hw := hw.1 c2
    exact u_X11_power_17 X hn σ1   _ (lv_sub hl [] rfl) hw
  · have hw := hw.2 c2
    refine ml_iload_n (pc := 8) X hl 2 rfl rfl dX11_power_8 ?_
    refine ml_if_lt (pc := 9) (tgt := 17) X h_x2 dX11_power_9 (by decide) (fun c3 => ?_) (fun c3 => ?_)
    · have hw := hw.1 c3
      exact u_X11_power_17 X hn σ1   _ (lv_sub hl [] rfl) hw
    · have hw := hw.2 c3
      refine ml_iload_n (pc := 12) X hl 2 rfl rfl dX11_power_12 ?_
      refine ml_iconst (pc := 13) X dX11_power_13 ?_
      refine ml_icmp_le (pc := 14) (tgt := 19) X h_x2 ⟨by decide, by decide⟩ dX11_power_14 (by decide) (fun c4 => ?_) (fun c4 => ?_)
      · have hw := hw.1 c4
        refine ml_aload_n (pc := 19) X hl 0 rfl rfl dX11_power_19 ?_
        refine gf_X11_40 (pc := 20) X (ml_c1 hn) dX11_power_20 ?_
        refine ml_aload_n (pc := 23) X hl 0 rfl rfl dX11_power_23 ?_
        refine gf_X11_67 (pc := 24) X (ml_c1 hn) dX11_power_24 ?_
        refine ml_iload_n (pc := 27) X hl 1 rfl rfl dX11_power_27 ?_
        obtain ⟨a5, b5, hw⟩ := hw
        refine ml_aald_words (pc := 28) X hn a5 b5 dX11_power_28 ?_
        refine gf_X11_112 (pc := 29) X (ml_at_words hn a5 b5) dX11_power_29 ?_
        refine ml_aload_n (pc := 32) X hl 0 rfl rfl dX11_power_32 ?_
        refine gf_X11_19 (pc := 33) X (ml_c1 hn) dX11_power_33 ?_
        refine ml_aload_n (pc := 36) X hl 0 rfl rfl dX11_power_36 ?_
        refine gf_X11_82 (pc := 37) X (ml_c1 hn) dX11_power_37 (fun r6 => ?_)
        have hw := hw r6
        refine ml_callvV (pc := 40) (rest := []) X [.ref (base + (((119 + 6 * x1) + 2) : Int).toNat), .ref (base + (4 : Int).toNat), .int (Int32.ofInt (σ1 1 11))] (by decide) rfl (ml_c46 hn) (c_X6_study l base D cA n hn σ1 ((119 + 6 * x1) + 2) (ml_r20_2 hn (ml_at_words hn a5 b5)) (σ1 1 11) r6 _ hw) cv_X11_148 ⟨rfl, rfl⟩ ⟨by decide, by decide⟩ rfl rfl hl (Nat.le_of_ble_eq_true rfl) ⟨Nat.zero_le _, Nat.zero_le _⟩ dX11_power_40 (fun σ7 hw => ?_)
        refine ml_iload_n (pc := 43) X hl 2 rfl rfl dX11_power_43 ?_
        refine ml_if_ne (pc := 44) (tgt := 57) X h_x2 dX11_power_44 (by decide) (fun c8 => ?_) (fun c8 => ?_)
        · have hw := hw.1 c8
          refine ml_aload_n (pc := 57) X hl 0 rfl rfl dX11_power_57 ?_
          refine gf_X11_40 (pc := 58) X (ml_c1 hn) dX11_power_58 ?_
          refine gf_X11_155 (pc := 61) X (ml_c46 hn) dX11_power_61 (fun r9 => ?_)
          have hw := hw r9
          exact u_X11_power_64 X hn σ7 (σ7 46 5) r9 _ (lv_sub hl [] rfl) hw
        · have hw := hw.2 c8
          refine ml_aload_n (pc := 47) X hl 0 rfl rfl dX11_power_47 ?_
          refine gf_X11_40 (pc := 48) X (ml_c1 hn) dX11_power_48 ?_
          refine gf_X11_152 (pc := 51) X (ml_c46 hn) dX11_power_51 (fun r10 => ?_)
          have hw := hw r10
          refine ml_goto (pc := 54) (tgt := 64) X dX11_power_54 (by decide) ?_
          exact u_X11_power_64 X hn σ7 (σ7 46 4) r10 _ (lv_sub hl [] rfl) hw
      · have hw := hw.2 c4
        exact u_X11_power_17 X hn σ1   _ (lv_sub hl [] rfl) hw
set_option maxRecDepth 100000 in
theorem c_X11_power (l : Launch) (base : Nat) (D : va_G) (cA : Nat → ClassId) (n : Nat) (hn : 214 ≤ n) (σ : ml_St) (x1 : Int) (x2 : Int) (h_x1 : I32 x1) (h_x2 : I32 x2) (Q : Int → ml_St → Prop) (hw : f_X11_power σ x1 x2 Q) : Met l yX11_power (Cond.code yX11_power cX11_power 3 (some .int) :: ml_T) rm_X11_power (va_Pc [.ref (base + (1 : Int).toNat), .int (Int32.ofInt x1), .int (Int32.ofInt x2)] (ml_U base D cA n σ)) (ml_Qi I32 base D cA n Q) 0 0 (ml_A base) := by
  refine Met.ofW (cc := cX11_power) (maxL := 3) (ret := (some .int)) (by decide) rfl ?_
  intro p e s m args below meth c s₁ B hml hv
  obtain ⟨rfl, hP, hK, hok, hro⟩ := hv
  have X : ml_X p s m c meth _ D cA cX11_power 3 RX11 (some .int) := ⟨B.exec, B.bytes, hml, findClass_of_methodNamed B.named, fun w hw => atoms_spec (ws := Cond.code yX11_power cX11_power 3 (some .int) :: ml_T) B.pre w (List.mem_cons_of_mem _ hw), hK, B.notSynchronized, B.returns⟩
  have hl := lv_entry [.ref (base + (1 : Int).toNat), .int (Int32.ofInt x1), .int (Int32.ofInt x2)] (n := 3) (Nat.le_of_ble_eq_true rfl)
  rw [lg_entry_eq]
  generalize (lg_sl [.ref (base + (1 : Int).toNat), .int (Int32.ofInt x1), .int (Int32.ofInt x2)] ++ List.replicate (3 - (lg_sl [.ref (base + (1 : Int).toNat), .int (Int32.ofInt x1), .int (Int32.ofInt x2)]).length) Slot.unset).toArray = ls at hl ⊢
  have hl : lv_has ls 3 [(0, .ref (base + (1 : Int).toNat)), (1, .int (Int32.ofInt x1)), (2, .int (Int32.ofInt x2))] := hl
  unfold f_X11_power at hw
  exact u_X11_power_0 X hn σ x1 x2 h_x1 h_x2 _ (lv_sub hl [0, 1, 2] rfl) hw s.heap [] hP va_S.rf hok hro
theorem dX6_loopsOf_0 : decode cX6_loopsOf 0 = .ok (.lload_n 1, 1) := by decide +kernel
theorem dX6_loopsOf_1 : decode cX6_loopsOf 1 = .ok (.aload_n 0, 1) := by decide +kernel
theorem dX6_loopsOf_2 : decode cX6_loopsOf 2 = .ok (.getfield 29, 3) := by decide +kernel
theorem dX6_loopsOf_5 : decode cX6_loopsOf 5 = .ok (.i2l, 1) := by decide +kernel
theorem dX6_loopsOf_6 : decode cX6_loopsOf 6 = .ok (.lcmp, 1) := by decide +kernel
theorem dX6_loopsOf_7 : decode cX6_loopsOf 7 = .ok (.ifCond .ge 11, 3) := by decide +kernel
theorem dX6_loopsOf_10 : decode cX6_loopsOf 10 = .ok (.aload_n 0, 1) := by decide +kernel
theorem dX6_loopsOf_11 : decode cX6_loopsOf 11 = .ok (.getfield 15, 3) := by decide +kernel
theorem dX6_loopsOf_14 : decode cX6_loopsOf 14 = .ok (.lload_n 1, 1) := by decide +kernel
theorem dX6_loopsOf_15 : decode cX6_loopsOf 15 = .ok (.l2i, 1) := by decide +kernel
theorem dX6_loopsOf_16 : decode cX6_loopsOf 16 = .ok (.laload, 1) := by decide +kernel
theorem dX6_loopsOf_17 : decode cX6_loopsOf 17 = .ok (.lreturn, 1) := by decide +kernel
theorem dX6_loopsOf_18 : decode cX6_loopsOf 18 = .ok (.lload_n 1, 1) := by decide +kernel
theorem dX6_loopsOf_19 : decode cX6_loopsOf 19 = .ok (.aload_n 0, 1) := by decide +kernel
theorem dX6_loopsOf_20 : decode cX6_loopsOf 20 = .ok (.getfield 29, 3) := by decide +kernel
theorem dX6_loopsOf_23 : decode cX6_loopsOf 23 = .ok (.i2l, 1) := by decide +kernel
theorem dX6_loopsOf_24 : decode cX6_loopsOf 24 = .ok (.lsub, 1) := by decide +kernel
theorem dX6_loopsOf_25 : decode cX6_loopsOf 25 = .ok (.aload_n 0, 1) := by decide +kernel
theorem dX6_loopsOf_26 : decode cX6_loopsOf 26 = .ok (.getfield 33, 3) := by decide +kernel
theorem dX6_loopsOf_29 : decode cX6_loopsOf 29 = .ok (.i2l, 1) := by decide +kernel
theorem dX6_loopsOf_30 : decode cX6_loopsOf 30 = .ok (.ldiv, 1) := by decide +kernel
theorem dX6_loopsOf_31 : decode cX6_loopsOf 31 = .ok (.lstore_n 3, 1) := by decide +kernel
theorem dX6_loopsOf_32 : decode cX6_loopsOf 32 = .ok (.aload_n 0, 1) := by decide +kernel
theorem dX6_loopsOf_33 : decode cX6_loopsOf 33 = .ok (.getfield 15, 3) := by decide +kernel
theorem dX6_loopsOf_36 : decode cX6_loopsOf 36 = .ok (.aload_n 0, 1) := by decide +kernel
theorem dX6_loopsOf_37 : decode cX6_loopsOf 37 = .ok (.getfield 29, 3) := by decide +kernel
theorem dX6_loopsOf_40 : decode cX6_loopsOf 40 = .ok (.lload_n 1, 1) := by decide +kernel
theorem dX6_loopsOf_41 : decode cX6_loopsOf 41 = .ok (.aload_n 0, 1) := by decide +kernel
theorem dX6_loopsOf_42 : decode cX6_loopsOf 42 = .ok (.getfield 29, 3) := by decide +kernel
theorem dX6_loopsOf_45 : decode cX6_loopsOf 45 = .ok (.i2l, 1) := by decide +kernel
theorem dX6_loopsOf_46 : decode cX6_loopsOf 46 = .ok (.lsub, 1) := by decide +kernel
theorem dX6_loopsOf_47 : decode cX6_loopsOf 47 = .ok (.aload_n 0, 1) := by decide +kernel
theorem dX6_loopsOf_48 : decode cX6_loopsOf 48 = .ok (.getfield 33, 3) := by decide +kernel
theorem dX6_loopsOf_51 : decode cX6_loopsOf 51 = .ok (.i2l, 1) := by decide +kernel
theorem dX6_loopsOf_52 : decode cX6_loopsOf 52 = .ok (.lrem, 1) := by decide +kernel
theorem dX6_loopsOf_53 : decode cX6_loopsOf 53 = .ok (.l2i, 1) := by decide +kernel
theorem dX6_loopsOf_54 : decode cX6_loopsOf 54 = .ok (.iadd, 1) := by decide +kernel
theorem dX6_loopsOf_55 : decode cX6_loopsOf 55 = .ok (.laload, 1) := by decide +kernel
theorem dX6_loopsOf_56 : decode cX6_loopsOf 56 = .ok (.lstore 5, 2) := by decide +kernel
theorem dX6_loopsOf_58 : decode cX6_loopsOf 58 = .ok (.aload_n 0, 1) := by decide +kernel
theorem dX6_loopsOf_59 : decode cX6_loopsOf 59 = .ok (.getfield 36, 3) := by decide +kernel
theorem dX6_loopsOf_62 : decode cX6_loopsOf 62 = .ok (.lconst 0, 1) := by decide +kernel
theorem dX6_loopsOf_63 : decode cX6_loopsOf 63 = .ok (.lcmp, 1) := by decide +kernel
theorem dX6_loopsOf_64 : decode cX6_loopsOf 64 = .ok (.ifCond .le 23, 3) := by decide +kernel
theorem dX6_loopsOf_67 : decode cX6_loopsOf 67 = .ok (.lload_n 3, 1) := by decide +kernel
theorem dX6_loopsOf_68 : decode cX6_loopsOf 68 = .ok (.ldc2_w 70, 3) := by decide +kernel
theorem dX6_loopsOf_71 : decode cX6_loopsOf 71 = .ok (.lload 5, 2) := by decide +kernel
theorem dX6_loopsOf_73 : decode cX6_loopsOf 73 = .ok (.lsub, 1) := by decide +kernel
theorem dX6_loopsOf_74 : decode cX6_loopsOf 74 = .ok (.aload_n 0, 1) := by decide +kernel
theorem dX6_loopsOf_75 : decode cX6_loopsOf 75 = .ok (.getfield 36, 3) := by decide +kernel
theorem dX6_loopsOf_78 : decode cX6_loopsOf 78 = .ok (.ldiv, 1) := by decide +kernel
theorem dX6_loopsOf_79 : decode cX6_loopsOf 79 = .ok (.lcmp, 1) := by decide +kernel
theorem dX6_loopsOf_80 : decode cX6_loopsOf 80 = .ok (.ifCond .le 7, 3) := by decide +kernel
theorem dX6_loopsOf_83 : decode cX6_loopsOf 83 = .ok (.ldc2_w 70, 3) := by decide +kernel
theorem dX6_loopsOf_86 : decode cX6_loopsOf 86 = .ok (.lreturn, 1) := by decide +kernel
theorem dX6_loopsOf_87 : decode cX6_loopsOf 87 = .ok (.lload 5, 2) := by decide +kernel
theorem dX6_loopsOf_89 : decode cX6_loopsOf 89 = .ok (.lload_n 3, 1) := by decide +kernel
theorem dX6_loopsOf_90 : decode cX6_loopsOf 90 = .ok (.aload_n 0, 1) := by decide +kernel
theorem dX6_loopsOf_91 : decode cX6_loopsOf 91 = .ok (.getfield 36, 3) := by decide +kernel
theorem dX6_loopsOf_94 : decode cX6_loopsOf 94 = .ok (.lmul, 1) := by decide +kernel
theorem dX6_loopsOf_95 : decode cX6_loopsOf 95 = .ok (.ladd, 1) := by decide +kernel
theorem dX6_loopsOf_96 : decode cX6_loopsOf 96 = .ok (.lreturn, 1) := by decide +kernel
def f_X6_loopsOf_u87 (Q : Int → ml_St → Prop) (σ : ml_St) (x3 : Int) (x5 : Int) : Prop :=
∀ _ : I64 (σ 46 6),
Q (w64 (x5 + (w64 (x3 * (σ 46 6))))) σ
def f_X6_loopsOf_u0 (Q : Int → ml_St → Prop) (σ : ml_St) (x1 : Int) : Prop :=
∀ _ : I32 (σ 46 4),
((σ 46 4) ≤ x1 →
∀ _ : I32 (σ 46 4),
∀ _ : I32 (σ 46 5),
((σ 46 5) : Int) ≠ 0 ∧
∀ y7 : Int, y7 = w64 (Int.tdiv (w64 (x1 - (σ 46 4))) (σ 46 5)) →
∀ _ : I32 (σ 46 4),
∀ _ : I32 (σ 46 4),
∀ _ : I32 (σ 46 5),
((σ 46 5) : Int) ≠ 0 ∧
I32 ((σ 46 4) + (b_l2i (Int.tmod (w64 (x1 - (σ 46 4))) (σ 46 5)))) ∧
(0 : Int) ≤ ((σ 46 4) + (b_l2i (Int.tmod (w64 (x1 - (σ 46 4))) (σ 46 5)))) ∧ (((σ 46 4) + (b_l2i (Int.tmod (w64 (x1 - (σ 46 4))) (σ 46 5)))) : Int) < 65 ∧
∀ _ : I64 (σ 48 ((σ 46 4) + (b_l2i (Int.tmod (w64 (x1 - (σ 46 4))) (σ 46 5))))),
∀ y15 : Int, y15 = σ 48 ((σ 46 4) + (b_l2i (Int.tmod (w64 (x1 - (σ 46 4))) (σ 46 5)))) →
∀ _ : I64 (σ 46 6),
(((σ 46 6) : Int) ≤ 0 →
f_X6_loopsOf_u87 Q σ y7 y15) ∧
(¬ (((σ 46 6) : Int) ≤ 0) →
∀ _ : I64 (σ 46 6),
((σ 46 6) : Int) ≠ 0 ∧
(y7 ≤ (w64 (Int.tdiv (w64 (9000000000000000000 - y15)) (σ 46 6))) →
f_X6_loopsOf_u87 Q σ y7 y15) ∧
(¬ (y7 ≤ (w64 (Int.tdiv (w64 (9000000000000000000 - y15)) (σ 46 6)))) →
Q 9000000000000000000 σ))) ∧
(¬ ((σ 46 4) ≤ x1) →
(0 : Int) ≤ (b_l2i x1) ∧ ((b_l2i x1) : Int) < 65 ∧
∀ _ : I64 (σ 48 (b_l2i x1)),
Q (σ 48 (b_l2i x1)) σ)
def f_X6_loopsOf (σ : ml_St) (x1 : Int) (Q : Int → ml_St → Prop) : Prop := f_X6_loopsOf_u0 Q σ x1
def rm_X6_loopsOf : Room := { frames := 0, cells := 0, slots := 0, locals := 0 }
set_option maxRecDepth 100000 in
set_option maxHeartbeats 4000000 in
theorem u_X6_loopsOf_87 {p : Program} {e : Env} {s : State} {m : MethodId} {args : Array Value} {below : List Frame} {meth : Method} {c : Code} {base : Nat} {D : va_G} {cA : Nat → ClassId} {n : Nat} {l : Launch} {Q : Int → ml_St → Prop} (X : ml_X p s m c meth args D cA cX6_loopsOf 7 RX6 (some .long)) (hn : 214 ≤ n) (σ : ml_St) (x3 : Int) (x5 : Int) (h_x3 : I64 x3) (h_x5 : I64 x5) (ls : Array Slot) (hl : lv_has ls 7 [(0, .ref (base + (46 : Int).toNat)), (3, .long (Int64.ofInt x3)), (5, .long (Int64.ofInt x5))]) (hw : f_X6_loopsOf_u87 Q σ x3 x5) : ml_V p l e rm_X6_loopsOf s m args below meth c (MQ below (ml_Ql base D cA n Q) args s 0 0 (ml_A base)) base D cA 0 0 n n σ (F0 m 87 ls []) := by
  unfold f_X6_loopsOf_u87 at hw
  refine ml_lload (pc := 87) X hl 2 rfl dX6_loopsOf_87 ?_
  refine ml_lload_n (pc := 89) X hl 1 rfl rfl dX6_loopsOf_89 ?_
  refine ml_aload_n (pc := 90) X hl 0 rfl rfl dX6_loopsOf_90 ?_
  refine gf_X6_36 (pc := 91) X (ml_c46 hn) dX6_loopsOf_91 (fun r1 => ?_)
  have hw := hw r1
  refine ml_lmulW (pc := 94) X dX6_loopsOf_94 ?_
  refine ml_laddW (pc := 95) X dX6_loopsOf_95 ?_
  exact ml_lret (pc := 96) X (w64_r _) hw dX6_loopsOf_96
set_option maxRecDepth 100000 in
set_option maxHeartbeats 4000000 in
theorem u_X6_loopsOf_0 {p : Program} {e : Env} {s : State} {m : MethodId} {args : Array Value} {below : List Frame} {meth : Method} {c : Code} {base : Nat} {D : va_G} {cA : Nat → ClassId} {n : Nat} {l : Launch} {Q : Int → ml_St → Prop} (X : ml_X p s m c meth args D cA cX6_loopsOf 7 RX6 (some .long)) (hn : 214 ≤ n) (σ : ml_St) (x1 : Int) (h_x1 : I64 x1) (ls : Array Slot) (hl : lv_has ls 7 [(0, .ref (base + (46 : Int).toNat)), (1, .long (Int64.ofInt x1))]) (hw : f_X6_loopsOf_u0 Q σ x1) : ml_V p l e rm_X6_loopsOf s m args below meth c (MQ below (ml_Ql base D cA n Q) args s 0 0 (ml_A base)) base D cA 0 0 n n σ (F0 m 0 ls []) := by
  unfold f_X6_loopsOf_u0 at hw
  refine ml_lload_n (pc := 0) X hl 1 rfl rfl dX6_loopsOf_0 ?_
  refine ml_aload_n (pc := 1) X hl 0 rfl rfl dX6_loopsOf_1 ?_
  refine gf_X6_29 (pc := 2) X (ml_c46 hn) dX6_loopsOf_2 (fun r1 => ?_)
  have hw := hw r1
  refine ml_i2l (pc := 5) X r1 dX6_loopsOf_5 ?_
  refine ml_lcmp_ge (pc := 6) (tgt := 18) X h_x1 (r1).l dX6_loopsOf_6 dX6_loopsOf_7 (by decide) (fun c2 => ?_) (fun c2 => ?_)
  · have hw := hw.1 c2
    refine ml_lload_n (pc := 18) X hl 1 rfl rfl dX6_loopsOf_18 ?_
    refine ml_aload_n (pc := 19) X hl 0 rfl rfl dX6_loopsOf_19 ?_
    refine gf_X6_29 (pc := 20) X (ml_c46 hn) dX6_loopsOf_20 (fun r3 => ?_)
    have hw := hw r3
    refine ml_i2l (pc := 23) X r3 dX6_loopsOf_23 ?_
    refine ml_lsubW (pc := 24) X dX6_loopsOf_24 ?_
    refine ml_aload_n (pc := 25) X hl 0 rfl rfl dX6_loopsOf_25 ?_
    refine gf_X6_33 (pc := 26) X (ml_c46 hn) dX6_loopsOf_26 (fun r5 => ?_)
    have hw := hw r5
    refine ml_i2l (pc := 29) X r5 dX6_loopsOf_29 ?_
    obtain ⟨z6, hw⟩ := hw
    refine ml_ldivW (pc := 30) X (w64_r _) (r5).l z6 dX6_loopsOf_30 ?_
    refine ml_topL (pc := 31) (fun y7 e7 => ?_)
    have hw := hw y7 e7
    have q7 : I64 y7 := by rw [e7]; exact (w64_r _)
    refine ml_lstore_n (pc := 31) X rfl hl (by decide) (lst' := [(3, .long (Int64.ofInt y7)), (0, .ref (base + (46 : Int).toNat)), (1, .long (Int64.ofInt x1))]) rfl dX6_loopsOf_31 (fun ls hl => ?_)
    refine ml_aload_n (pc := 32) X hl 1 rfl rfl dX6_loopsOf_32 ?_
    refine gf_X6_15 (pc := 33) X (ml_c46 hn) dX6_loopsOf_33 ?_
    refine ml_aload_n (pc := 36) X hl 1 rfl rfl dX6_loopsOf_36 ?_
    refine gf_X6_29 (pc := 37) X (ml_c46 hn) dX6_loopsOf_37 (fun r8 => ?_)
    have hw := hw r8
    refine ml_lload_n (pc := 40) X hl 2 rfl rfl dX6_loopsOf_40 ?_
    refine ml_aload_n (pc := 41) X hl 1 rfl rfl dX6_loopsOf_41 ?_
    refine gf_X6_29 (pc := 42) X (ml_c46 hn) dX6_loopsOf_42 (fun r9 => ?_)
    have hw := hw r9
    refine ml_i2l (pc := 45) X r9 dX6_loopsOf_45 ?_
    refine ml_lsubW (pc := 46) X dX6_loopsOf_46 ?_
    refine ml_aload_n (pc := 47) X hl 1 rfl rfl dX6_loopsOf_47 ?_
    refine gf_X6_33 (pc := 48) X (ml_c46 hn) dX6_loopsOf_48 (fun r11 => ?_)
    have hw := hw r11
    refine ml_i2l (pc := 51) X r11 dX6_loopsOf_51 ?_
    obtain ⟨z12, hw⟩ := hw
    refine ml_lrem (pc := 52) X (w64_r _) (r11).l z12 dX6_loopsOf_52 ?_
    refine ml_l2i (pc := 53) X dX6_loopsOf_53 ?_
    obtain ⟨v13, hw⟩ := hw
    refine ml_iadd (pc := 54) X dX6_loopsOf_54 ?_
    obtain ⟨a14, b14, hw⟩ := hw
    refine ml_lald (pc := 55) (N := 65) X (ml_c48 hn) a14 b14 dX6_loopsOf_55 (fun r14 => ?_)
    have hw := hw r14
    refine ml_topL (pc := 56) (fun y15 e15 => ?_)
    have hw := hw y15 e15
    have q15 : I64 y15 := by rw [e15]; exact r14
    refine ml_lstore (pc := 56) X hl (by decide) (lst' := [(5, .long (Int64.ofInt y15)), (3, .long (Int64.ofInt y7)), (0, .ref (base + (46 : Int).toNat)), (1, .long (Int64.ofInt x1))]) rfl dX6_loopsOf_56 (fun ls hl => ?_)
    refine ml_aload_n (pc := 58) X hl 2 rfl rfl dX6_loopsOf_58 ?_
    refine gf_X6_36 (pc := 59) X (ml_c46 hn) dX6_loopsOf_59 (fun r16 => ?_)
    have hw := hw r16
    refine ml_lconst0 (pc := 62) X dX6_loopsOf_62 ?_
    refine ml_lcmp_le (pc := 63) (tgt := 87) X r16 ⟨by decide, by decide⟩ dX6_loopsOf_63 dX6_loopsOf_64 (by decide) (fun c17 => ?_) (fun c17 => ?_)
    · have hw := hw.1 c17
      exact u_X6_loopsOf_87 X hn σ y7 y15 q7 q15 _ (lv_sub hl [2, 1, 0] rfl) hw
    · have hw := hw.2 c17
      refine ml_lload_n (pc := 67) X hl 1 rfl rfl dX6_loopsOf_67 ?_
      refine ml_ldc2 (pc := 68) (v := 9000000000000000000) X dX6_loopsOf_68 tc_3_195 ?_
      refine ml_lload (pc := 71) X hl 0 rfl dX6_loopsOf_71 ?_
      refine ml_lsubW (pc := 73) X dX6_loopsOf_73 ?_
      refine ml_aload_n (pc := 74) X hl 2 rfl rfl dX6_loopsOf_74 ?_
      refine gf_X6_36 (pc := 75) X (ml_c46 hn) dX6_loopsOf_75 (fun r19 => ?_)
      have hw := hw r19
      obtain ⟨z20, hw⟩ := hw
      refine ml_ldivW (pc := 78) X (w64_r _) r19 z20 dX6_loopsOf_78 ?_
      refine ml_lcmp_le (pc := 79) (tgt := 87) X q7 (w64_r _) dX6_loopsOf_79 dX6_loopsOf_80 (by decide) (fun c21 => ?_) (fun c21 => ?_)
      · have hw := hw.1 c21
        exact u_X6_loopsOf_87 X hn σ y7 y15 q7 q15 _ (lv_sub hl [2, 1, 0] rfl) hw
      · have hw := hw.2 c21
        refine ml_ldc2 (pc := 83) (v := 9000000000000000000) X dX6_loopsOf_83 tc_3_195 ?_
        exact ml_lret (pc := 86) X ⟨by decide, by decide⟩ hw dX6_loopsOf_86
  · have hw := hw.2 c2
    refine ml_aload_n (pc := 10) X hl 0 rfl rfl dX6_loopsOf_10 ?_
    refine gf_X6_15 (pc := 11) X (ml_c46 hn) dX6_loopsOf_11 ?_
    refine ml_lload_n (pc := 14) X hl 1 rfl rfl dX6_loopsOf_14 ?_
    refine ml_l2i (pc := 15) X dX6_loopsOf_15 ?_
    obtain ⟨a22, b22, hw⟩ := hw
    refine ml_lald (pc := 16) (N := 65) X (ml_c48 hn) a22 b22 dX6_loopsOf_16 (fun r22 => ?_)
    have hw := hw r22
    exact ml_lret (pc := 17) X r22 hw dX6_loopsOf_17
set_option maxRecDepth 100000 in
theorem c_X6_loopsOf (l : Launch) (base : Nat) (D : va_G) (cA : Nat → ClassId) (n : Nat) (hn : 214 ≤ n) (σ : ml_St) (x1 : Int) (h_x1 : I64 x1) (Q : Int → ml_St → Prop) (hw : f_X6_loopsOf σ x1 Q) : Met l yX6_loopsOf (Cond.code yX6_loopsOf cX6_loopsOf 7 (some .long) :: ml_T) rm_X6_loopsOf (va_Pc [.ref (base + (46 : Int).toNat), .long (Int64.ofInt x1)] (ml_U base D cA n σ)) (ml_Ql base D cA n Q) 0 0 (ml_A base) := by
  refine Met.ofW (cc := cX6_loopsOf) (maxL := 7) (ret := (some .long)) (by decide) rfl ?_
  intro p e s m args below meth c s₁ B hml hv
  obtain ⟨rfl, hP, hK, hok, hro⟩ := hv
  have X : ml_X p s m c meth _ D cA cX6_loopsOf 7 RX6 (some .long) := ⟨B.exec, B.bytes, hml, findClass_of_methodNamed B.named, fun w hw => atoms_spec (ws := Cond.code yX6_loopsOf cX6_loopsOf 7 (some .long) :: ml_T) B.pre w (List.mem_cons_of_mem _ hw), hK, B.notSynchronized, B.returns⟩
  have hl := lv_entry [.ref (base + (46 : Int).toNat), .long (Int64.ofInt x1)] (n := 7) (Nat.le_of_ble_eq_true rfl)
  rw [lg_entry_eq]
  generalize (lg_sl [.ref (base + (46 : Int).toNat), .long (Int64.ofInt x1)] ++ List.replicate (7 - (lg_sl [.ref (base + (46 : Int).toNat), .long (Int64.ofInt x1)]).length) Slot.unset).toArray = ls at hl ⊢
  have hl : lv_has ls 7 [(0, .ref (base + (46 : Int).toNat)), (1, .long (Int64.ofInt x1))] := hl
  unfold f_X6_loopsOf at hw
  exact u_X6_loopsOf_0 X hn σ x1 h_x1 _ (lv_sub hl [0, 1] rfl) hw s.heap [] hP va_S.rf hok hro
theorem dX6_growth_0 : decode cX6_growth 0 = .ok (.aload_n 0, 1) := by decide +kernel
theorem dX6_growth_1 : decode cX6_growth 1 = .ok (.iload_n 1, 1) := by decide +kernel
theorem dX6_growth_2 : decode cX6_growth 2 = .ok (.iload_n 2, 1) := by decide +kernel
theorem dX6_growth_3 : decode cX6_growth 3 = .ok (.iadd, 1) := by decide +kernel
theorem dX6_growth_4 : decode cX6_growth 4 = .ok (.i2l, 1) := by decide +kernel
theorem dX6_growth_5 : decode cX6_growth 5 = .ok (.invokevirtual 80, 3) := by decide +kernel
theorem dX6_growth_8 : decode cX6_growth 8 = .ok (.aload_n 0, 1) := by decide +kernel
theorem dX6_growth_9 : decode cX6_growth 9 = .ok (.iload_n 1, 1) := by decide +kernel
theorem dX6_growth_10 : decode cX6_growth 10 = .ok (.i2l, 1) := by decide +kernel
theorem dX6_growth_11 : decode cX6_growth 11 = .ok (.invokevirtual 80, 3) := by decide +kernel
theorem dX6_growth_14 : decode cX6_growth 14 = .ok (.lsub, 1) := by decide +kernel
theorem dX6_growth_15 : decode cX6_growth 15 = .ok (.lreturn, 1) := by decide +kernel
def f_X6_growth_u0 (Q : Int → ml_St → Prop) (σ : ml_St) (x1 : Int) (x2 : Int) : Prop :=
I32 (x1 + x2) ∧
f_X6_loopsOf σ (x1 + x2) (fun r2 σ2 => ∀ _ : I64 r2,
f_X6_loopsOf σ2 x1 (fun r3 σ3 => ∀ _ : I64 r3,
Q (w64 (r2 - r3)) σ3))
def f_X6_growth (σ : ml_St) (x1 : Int) (x2 : Int) (Q : Int → ml_St → Prop) : Prop := f_X6_growth_u0 Q σ x1 x2
def rm_X6_growth : Room := { frames := 1, cells := 0, slots := 0, locals := 26 }
set_option maxRecDepth 100000 in
set_option maxHeartbeats 4000000 in
theorem u_X6_growth_0 {p : Program} {e : Env} {s : State} {m : MethodId} {args : Array Value} {below : List Frame} {meth : Method} {c : Code} {base : Nat} {D : va_G} {cA : Nat → ClassId} {n : Nat} {l : Launch} {Q : Int → ml_St → Prop} (X : ml_X p s m c meth args D cA cX6_growth 3 RX6 (some .long)) (hn : 214 ≤ n) (σ : ml_St) (x1 : Int) (x2 : Int) (h_x1 : I32 x1) (h_x2 : I32 x2) (ls : Array Slot) (hl : lv_has ls 3 [(0, .ref (base + (46 : Int).toNat)), (1, .int (Int32.ofInt x1)), (2, .int (Int32.ofInt x2))]) (hw : f_X6_growth_u0 Q σ x1 x2) : ml_V p l e rm_X6_growth s m args below meth c (MQ below (ml_Ql base D cA n Q) args s 0 0 (ml_A base)) base D cA 0 0 n n σ (F0 m 0 ls []) := by
  unfold f_X6_growth_u0 at hw
  refine ml_aload_n (pc := 0) X hl 0 rfl rfl dX6_growth_0 ?_
  refine ml_iload_n (pc := 1) X hl 1 rfl rfl dX6_growth_1 ?_
  refine ml_iload_n (pc := 2) X hl 2 rfl rfl dX6_growth_2 ?_
  obtain ⟨v1, hw⟩ := hw
  refine ml_iadd (pc := 3) X dX6_growth_3 ?_
  refine ml_i2l (pc := 4) X v1 dX6_growth_4 ?_
  refine ml_calllV (pc := 5) (rest := []) X [.long (Int64.ofInt (x1 + x2))] (by decide) rfl (ml_c46 hn) (c_X6_loopsOf l base D cA n hn σ (x1 + x2) (v1).l _ hw) cv_X6_80 ⟨rfl, rfl⟩ ⟨by decide, by decide⟩ rfl rfl hl (Nat.le_of_ble_eq_true rfl) ⟨Nat.zero_le _, Nat.zero_le _⟩ dX6_growth_5 (fun r2 σ2 t2 hw => ?_)
  have hw := hw t2
  refine ml_aload_n (pc := 8) X hl 0 rfl rfl dX6_growth_8 ?_
  refine ml_iload_n (pc := 9) X hl 1 rfl rfl dX6_growth_9 ?_
  refine ml_i2l (pc := 10) X h_x1 dX6_growth_10 ?_
  refine ml_calllV (pc := 11) (rest := [.long (Int64.ofInt r2)]) X [.long (Int64.ofInt x1)] (by decide) rfl (ml_c46 hn) (c_X6_loopsOf l base D cA n hn σ2 x1 (h_x1).l _ hw) cv_X6_80 ⟨rfl, rfl⟩ ⟨by decide, by decide⟩ rfl rfl hl (Nat.le_of_ble_eq_true rfl) ⟨Nat.zero_le _, Nat.zero_le _⟩ dX6_growth_11 (fun r3 σ3 t3 hw => ?_)
  have hw := hw t3
  refine ml_lsubW (pc := 14) X dX6_growth_14 ?_
  exact ml_lret (pc := 15) X (w64_r _) hw dX6_growth_15
set_option maxRecDepth 100000 in
theorem c_X6_growth (l : Launch) (base : Nat) (D : va_G) (cA : Nat → ClassId) (n : Nat) (hn : 214 ≤ n) (σ : ml_St) (x1 : Int) (x2 : Int) (h_x1 : I32 x1) (h_x2 : I32 x2) (Q : Int → ml_St → Prop) (hw : f_X6_growth σ x1 x2 Q) : Met l yX6_growth (Cond.code yX6_growth cX6_growth 3 (some .long) :: ml_T) rm_X6_growth (va_Pc [.ref (base + (46 : Int).toNat), .int (Int32.ofInt x1), .int (Int32.ofInt x2)] (ml_U base D cA n σ)) (ml_Ql base D cA n Q) 0 0 (ml_A base) := by
  refine Met.ofW (cc := cX6_growth) (maxL := 3) (ret := (some .long)) (by decide) rfl ?_
  intro p e s m args below meth c s₁ B hml hv
  obtain ⟨rfl, hP, hK, hok, hro⟩ := hv
  have X : ml_X p s m c meth _ D cA cX6_growth 3 RX6 (some .long) := ⟨B.exec, B.bytes, hml, findClass_of_methodNamed B.named, fun w hw => atoms_spec (ws := Cond.code yX6_growth cX6_growth 3 (some .long) :: ml_T) B.pre w (List.mem_cons_of_mem _ hw), hK, B.notSynchronized, B.returns⟩
  have hl := lv_entry [.ref (base + (46 : Int).toNat), .int (Int32.ofInt x1), .int (Int32.ofInt x2)] (n := 3) (Nat.le_of_ble_eq_true rfl)
  rw [lg_entry_eq]
  generalize (lg_sl [.ref (base + (46 : Int).toNat), .int (Int32.ofInt x1), .int (Int32.ofInt x2)] ++ List.replicate (3 - (lg_sl [.ref (base + (46 : Int).toNat), .int (Int32.ofInt x1), .int (Int32.ofInt x2)]).length) Slot.unset).toArray = ls at hl ⊢
  have hl : lv_has ls 3 [(0, .ref (base + (46 : Int).toNat)), (1, .int (Int32.ofInt x1)), (2, .int (Int32.ofInt x2))] := hl
  unfold f_X6_growth at hw
  exact u_X6_growth_0 X hn σ x1 x2 h_x1 h_x2 _ (lv_sub hl [0, 1, 2] rfl) hw s.heap [] hP va_S.rf hok hro
theorem dX6_isEven_0 : decode cX6_isEven 0 = .ok (.iconst 1, 1) := by decide +kernel
theorem dX6_isEven_1 : decode cX6_isEven 1 = .ok (.istore_n 2, 1) := by decide +kernel
theorem dX6_isEven_2 : decode cX6_isEven 2 = .ok (.aload_n 0, 1) := by decide +kernel
theorem dX6_isEven_3 : decode cX6_isEven 3 = .ok (.getfield 29, 3) := by decide +kernel
theorem dX6_isEven_6 : decode cX6_isEven 6 = .ok (.iconst 1, 1) := by decide +kernel
theorem dX6_isEven_7 : decode cX6_isEven 7 = .ok (.iadd, 1) := by decide +kernel
theorem dX6_isEven_8 : decode cX6_isEven 8 = .ok (.istore_n 3, 1) := by decide +kernel
theorem dX6_isEven_9 : decode cX6_isEven 9 = .ok (.iload_n 3, 1) := by decide +kernel
theorem dX6_isEven_10 : decode cX6_isEven 10 = .ok (.aload_n 0, 1) := by decide +kernel
theorem dX6_isEven_11 : decode cX6_isEven 11 = .ok (.getfield 29, 3) := by decide +kernel
theorem dX6_isEven_14 : decode cX6_isEven 14 = .ok (.aload_n 0, 1) := by decide +kernel
theorem dX6_isEven_15 : decode cX6_isEven 15 = .ok (.getfield 33, 3) := by decide +kernel
theorem dX6_isEven_18 : decode cX6_isEven 18 = .ok (.iadd, 1) := by decide +kernel
theorem dX6_isEven_19 : decode cX6_isEven 19 = .ok (.if_icmp .ge 38, 3) := by decide +kernel
theorem dX6_isEven_22 : decode cX6_isEven 22 = .ok (.iload_n 2, 1) := by decide +kernel
theorem dX6_isEven_23 : decode cX6_isEven 23 = .ok (.ifCond .eq 26, 3) := by decide +kernel
theorem dX6_isEven_26 : decode cX6_isEven 26 = .ok (.aload_n 0, 1) := by decide +kernel
theorem dX6_isEven_27 : decode cX6_isEven 27 = .ok (.iload_n 3, 1) := by decide +kernel
theorem dX6_isEven_28 : decode cX6_isEven 28 = .ok (.iload_n 1, 1) := by decide +kernel
theorem dX6_isEven_29 : decode cX6_isEven 29 = .ok (.invokevirtual 76, 3) := by decide +kernel
theorem dX6_isEven_32 : decode cX6_isEven 32 = .ok (.aload_n 0, 1) := by decide +kernel
theorem dX6_isEven_33 : decode cX6_isEven 33 = .ok (.aload_n 0, 1) := by decide +kernel
theorem dX6_isEven_34 : decode cX6_isEven 34 = .ok (.getfield 29, 3) := by decide +kernel
theorem dX6_isEven_37 : decode cX6_isEven 37 = .ok (.iload_n 1, 1) := by decide +kernel
theorem dX6_isEven_38 : decode cX6_isEven 38 = .ok (.invokevirtual 76, 3) := by decide +kernel
theorem dX6_isEven_41 : decode cX6_isEven 41 = .ok (.lcmp, 1) := by decide +kernel
theorem dX6_isEven_42 : decode cX6_isEven 42 = .ok (.ifCond .ne 7, 3) := by decide +kernel
theorem dX6_isEven_45 : decode cX6_isEven 45 = .ok (.iconst 1, 1) := by decide +kernel
theorem dX6_isEven_46 : decode cX6_isEven 46 = .ok (.goto 4, 3) := by decide +kernel
theorem dX6_isEven_49 : decode cX6_isEven 49 = .ok (.iconst 0, 1) := by decide +kernel
theorem dX6_isEven_50 : decode cX6_isEven 50 = .ok (.istore_n 2, 1) := by decide +kernel
theorem dX6_isEven_51 : decode cX6_isEven 51 = .ok (.iinc 3 1, 3) := by decide +kernel
theorem dX6_isEven_54 : decode cX6_isEven 54 = .ok (.goto (-45), 3) := by decide +kernel
theorem dX6_isEven_57 : decode cX6_isEven 57 = .ok (.iload_n 2, 1) := by decide +kernel
theorem dX6_isEven_58 : decode cX6_isEven 58 = .ok (.ireturn, 1) := by decide +kernel
def f_X6_isEven_u50 (Q : Int → ml_St → Prop) (K9 : ml_St → Int → Int → Int → Prop) (σ : ml_St) (x1 : Int) (x3 : Int) (s0 : Int) : Prop :=
I32 (x3 + 1) ∧
∀ y1 : Int, y1 = x3 + 1 →
K9 σ x1 s0 y1
def f_X6_isEven_u49 (Q : Int → ml_St → Prop) (K9 : ml_St → Int → Int → Int → Prop) (σ : ml_St) (x1 : Int) (x3 : Int) : Prop :=
f_X6_isEven_u50 Q K9 σ x1 x3 0
def f_X6_isEven_u9 (Q : Int → ml_St → Prop) (K57 : ml_St → Int → Prop) : Nat → ml_St → Int → Int → Int → Prop
| 0, _, _, _, _ => False
| N + 1, σ, x1, x2, x3 =>
∀ _ : I32 (σ 46 4),
∀ _ : I32 (σ 46 5),
I32 ((σ 46 4) + (σ 46 5)) ∧
(((σ 46 4) + (σ 46 5)) ≤ x3 →
K57 σ x2) ∧
(¬ (((σ 46 4) + (σ 46 5)) ≤ x3) →
(x2 = 0 →
f_X6_isEven_u49 Q (f_X6_isEven_u9 Q K57 N) σ x1 x3) ∧
(x2 ≠ 0 →
f_X6_growth σ x3 x1 (fun r6 σ6 => ∀ _ : I64 r6,
∀ _ : I32 (σ6 46 4),
f_X6_growth σ6 (σ6 46 4) x1 (fun r8 σ8 => ∀ _ : I64 r8,
(r6 ≠ r8 →
f_X6_isEven_u49 Q (f_X6_isEven_u9 Q K57 N) σ8 x1 x3) ∧
(r6 = r8 →
f_X6_isEven_u50 Q (f_X6_isEven_u9 Q K57 N) σ8 x1 x3 1)))))
def f_X6_isEven_u57 (Q : Int → ml_St → Prop) (σ : ml_St) (x2 : Int) : Prop :=
Q x2 σ
def f_X6_isEven_u0 (Q : Int → ml_St → Prop) (σ : ml_St) (x1 : Int) : Prop :=
∀ _ : I32 (σ 46 4),
I32 ((σ 46 4) + 1) ∧
∀ y3 : Int, y3 = (σ 46 4) + 1 →
∃ N1, f_X6_isEven_u9 Q (f_X6_isEven_u57 Q) N1 σ x1 1 y3
def f_X6_isEven (σ : ml_St) (x1 : Int) (Q : Int → ml_St → Prop) : Prop := f_X6_isEven_u0 Q σ x1
def rm_X6_isEven : Room := { frames := 2, cells := 0, slots := 0, locals := 48 }
set_option maxRecDepth 100000 in
set_option maxHeartbeats 4000000 in
theorem u_X6_isEven_50 {p : Program} {e : Env} {s : State} {m : MethodId} {args : Array Value} {below : List Frame} {meth : Method} {c : Code} {base : Nat} {D : va_G} {cA : Nat → ClassId} {n : Nat} {l : Launch} {Q : Int → ml_St → Prop} {K9 : ml_St → Int → Int → Int → Prop} (X : ml_X p s m c meth args D cA cX6_isEven 4 RX6 (some .boolean)) (hn : 214 ≤ n) (hK9 : ∀ (σ : ml_St) (x1 : Int) (x2 : Int) (x3 : Int) (h_x1 : I32 x1) (h_x2 : ml_B x2) (h_x3 : I32 x3) (ls : Array Slot), lv_has ls 4 [(0, .ref (base + (46 : Int).toNat)), (1, .int (Int32.ofInt x1)), (2, .int (Int32.ofInt x2)), (3, .int (Int32.ofInt x3))] → K9 σ x1 x2 x3 → ml_V p l e rm_X6_isEven s m args below meth c (MQ below (ml_Qi ml_B base D cA n Q) args s 0 0 (ml_A base)) base D cA 0 0 n n σ (F0 m 9 ls [])) (σ : ml_St) (x1 : Int) (x3 : Int) (s0 : Int) (h_x1 : I32 x1) (h_x3 : I32 x3) (h_s0 : ml_B s0) (ls : Array Slot) (hl : lv_has ls 4 [(0, .ref (base + (46 : Int).toNat)), (1, .int (Int32.ofInt x1)), (3, .int (Int32.ofInt x3))]) (hw : f_X6_isEven_u50 Q K9 σ x1 x3 s0) : ml_V p l e rm_X6_isEven s m args below meth c (MQ below (ml_Qi ml_B base D cA n Q) args s 0 0 (ml_A base)) base D cA 0 0 n n σ (F0 m 50 ls [.int (Int32.ofInt s0)]) := by
  unfold f_X6_isEven_u50 at hw
  refine ml_istore_n (pc := 50) X rfl hl (by decide) (lst' := [(2, .int (Int32.ofInt s0)), (0, .ref (base + (46 : Int).toNat)), (1, .int (Int32.ofInt x1)), (3, .int (Int32.ofInt x3))]) rfl dX6_isEven_50 (fun ls hl => ?_)
  obtain ⟨v1, hw⟩ := hw
  obtain ⟨y1, e1⟩ : ∃ y : Int, y = x3 + 1 := ⟨_, rfl⟩
  have hw := hw y1 e1
  rw [← e1] at v1
  refine ml_iinc (pc := 51) X e1 hl 3 rfl (by decide) (lst' := [(3, .int (Int32.ofInt y1)), (2, .int (Int32.ofInt s0)), (0, .ref (base + (46 : Int).toNat)), (1, .int (Int32.ofInt x1))]) rfl dX6_isEven_51 (fun ls hl => ?_)
  refine ml_goto (pc := 54) (tgt := 9) X dX6_isEven_54 (by decide) ?_
  exact hK9 σ x1 s0 y1 h_x1 h_s0 v1 _ (lv_sub hl [2, 3, 1, 0] rfl) hw
set_option maxRecDepth 100000 in
set_option maxHeartbeats 4000000 in
theorem u_X6_isEven_49 {p : Program} {e : Env} {s : State} {m : MethodId} {args : Array Value} {below : List Frame} {meth : Method} {c : Code} {base : Nat} {D : va_G} {cA : Nat → ClassId} {n : Nat} {l : Launch} {Q : Int → ml_St → Prop} {K9 : ml_St → Int → Int → Int → Prop} (X : ml_X p s m c meth args D cA cX6_isEven 4 RX6 (some .boolean)) (hn : 214 ≤ n) (hK9 : ∀ (σ : ml_St) (x1 : Int) (x2 : Int) (x3 : Int) (h_x1 : I32 x1) (h_x2 : ml_B x2) (h_x3 : I32 x3) (ls : Array Slot), lv_has ls 4 [(0, .ref (base + (46 : Int).toNat)), (1, .int (Int32.ofInt x1)), (2, .int (Int32.ofInt x2)), (3, .int (Int32.ofInt x3))] → K9 σ x1 x2 x3 → ml_V p l e rm_X6_isEven s m args below meth c (MQ below (ml_Qi ml_B base D cA n Q) args s 0 0 (ml_A base)) base D cA 0 0 n n σ (F0 m 9 ls [])) (σ : ml_St) (x1 : Int) (x3 : Int) (h_x1 : I32 x1) (h_x3 : I32 x3) (ls : Array Slot) (hl : lv_has ls 4 [(0, .ref (base + (46 : Int).toNat)), (1, .int (Int32.ofInt x1)), (3, .int (Int32.ofInt x3))]) (hw : f_X6_isEven_u49 Q K9 σ x1 x3) : ml_V p l e rm_X6_isEven s m args below meth c (MQ below (ml_Qi ml_B base D cA n Q) args s 0 0 (ml_A base)) base D cA 0 0 n n σ (F0 m 49 ls []) := by
  unfold f_X6_isEven_u49 at hw
  refine ml_iconst (pc := 49) X dX6_isEven_49 ?_
  exact u_X6_isEven_50 X hn hK9 σ x1 x3 0 h_x1 h_x3 ⟨by decide, by decide⟩ _ (lv_sub hl [0, 1, 2] rfl) hw
set_option maxRecDepth 100000 in
set_option maxHeartbeats 4000000 in
theorem u_X6_isEven_9 {p : Program} {e : Env} {s : State} {m : MethodId} {args : Array Value} {below : List Frame} {meth : Method} {c : Code} {base : Nat} {D : va_G} {cA : Nat → ClassId} {n : Nat} {l : Launch} {Q : Int → ml_St → Prop} {K57 : ml_St → Int → Prop} (X : ml_X p s m c meth args D cA cX6_isEven 4 RX6 (some .boolean)) (hn : 214 ≤ n) (hK57 : ∀ (σ : ml_St) (x2 : Int) (h_x2 : ml_B x2) (ls : Array Slot), lv_has ls 4 [(2, .int (Int32.ofInt x2))] → K57 σ x2 → ml_V p l e rm_X6_isEven s m args below meth c (MQ below (ml_Qi ml_B base D cA n Q) args s 0 0 (ml_A base)) base D cA 0 0 n n σ (F0 m 57 ls [])) : ∀ (N : Nat) (σ : ml_St) (x1 : Int) (x2 : Int) (x3 : Int) (h_x1 : I32 x1) (h_x2 : ml_B x2) (h_x3 : I32 x3) (ls : Array Slot), lv_has ls 4 [(0, .ref (base + (46 : Int).toNat)), (1, .int (Int32.ofInt x1)), (2, .int (Int32.ofInt x2)), (3, .int (Int32.ofInt x3))] → f_X6_isEven_u9 Q K57 N σ x1 x2 x3 → ml_V p l e rm_X6_isEven s m args below meth c (MQ below (ml_Qi ml_B base D cA n Q) args s 0 0 (ml_A base)) base D cA 0 0 n n σ (F0 m 9 ls []) := by
  intro N
  induction N with
  | zero => intro σ x1 x2 x3 h_x1 h_x2 h_x3 ls hl hw; exact False.elim hw
  | succ N ih =>
    intro σ x1 x2 x3 h_x1 h_x2 h_x3 ls hl hw
    unfold f_X6_isEven_u9 at hw
    refine ml_iload_n (pc := 9) X hl 3 rfl rfl dX6_isEven_9 ?_
    refine ml_aload_n (pc := 10) X hl 0 rfl rfl dX6_isEven_10 ?_
    refine gf_X6_29 (pc := 11) X (ml_c46 hn) dX6_isEven_11 (fun r1 => ?_)
    have hw := hw r1
    refine ml_aload_n (pc := 14) X hl 0 rfl rfl dX6_isEven_14 ?_
    refine gf_X6_33 (pc := 15) X (ml_c46 hn) dX6_isEven_15 (fun r2 => ?_)
    have hw := hw r2
    obtain ⟨v3, hw⟩ := hw
    refine ml_iadd (pc := 18) X dX6_isEven_18 ?_
    refine ml_icmp_ge (pc := 19) (tgt := 57) X h_x3 v3 dX6_isEven_19 (by decide) (fun c4 => ?_) (fun c4 => ?_)
    · have hw := hw.1 c4
      exact hK57 σ x2 h_x2 _ (lv_sub hl [2] rfl) hw
    · have hw := hw.2 c4
      refine ml_iload_n (pc := 22) X hl 2 rfl rfl dX6_isEven_22 ?_
      refine ml_if_eq (pc := 23) (tgt := 49) X h_x2.i dX6_isEven_23 (by decide) (fun c5 => ?_) (fun c5 => ?_)
      · have hw := hw.1 c5
        exact u_X6_isEven_49 X hn ih σ x1 x3 h_x1 h_x3 _ (lv_sub hl [0, 1, 3] rfl) hw
      · have hw := hw.2 c5
        refine ml_aload_n (pc := 26) X hl 0 rfl rfl dX6_isEven_26 ?_
        refine ml_iload_n (pc := 27) X hl 3 rfl rfl dX6_isEven_27 ?_
        refine ml_iload_n (pc := 28) X hl 1 rfl rfl dX6_isEven_28 ?_
        refine ml_calllV (pc := 29) (rest := []) X [.int (Int32.ofInt x3), .int (Int32.ofInt x1)] (by decide) rfl (ml_c46 hn) (c_X6_growth l base D cA n hn σ x3 x1 h_x3 h_x1 _ hw) cv_X6_76 ⟨rfl, rfl⟩ ⟨by decide, by decide⟩ rfl rfl hl (Nat.le_of_ble_eq_true rfl) ⟨Nat.zero_le _, Nat.zero_le _⟩ dX6_isEven_29 (fun r6 σ6 t6 hw => ?_)
        have hw := hw t6
        refine ml_aload_n (pc := 32) X hl 0 rfl rfl dX6_isEven_32 ?_
        refine ml_aload_n (pc := 33) X hl 0 rfl rfl dX6_isEven_33 ?_
        refine gf_X6_29 (pc := 34) X (ml_c46 hn) dX6_isEven_34 (fun r7 => ?_)
        have hw := hw r7
        refine ml_iload_n (pc := 37) X hl 1 rfl rfl dX6_isEven_37 ?_
        refine ml_calllV (pc := 38) (rest := [.long (Int64.ofInt r6)]) X [.int (Int32.ofInt (σ6 46 4)), .int (Int32.ofInt x1)] (by decide) rfl (ml_c46 hn) (c_X6_growth l base D cA n hn σ6 (σ6 46 4) x1 r7 h_x1 _ hw) cv_X6_76 ⟨rfl, rfl⟩ ⟨by decide, by decide⟩ rfl rfl hl (Nat.le_of_ble_eq_true rfl) ⟨Nat.zero_le _, Nat.zero_le _⟩ dX6_isEven_38 (fun r8 σ8 t8 hw => ?_)
        have hw := hw t8
        refine ml_lcmp_ne (pc := 41) (tgt := 49) X t6 t8 dX6_isEven_41 dX6_isEven_42 (by decide) (fun c9 => ?_) (fun c9 => ?_)
        · have hw := hw.1 c9
          exact u_X6_isEven_49 X hn ih σ8 x1 x3 h_x1 h_x3 _ (lv_sub hl [0, 1, 3] rfl) hw
        · have hw := hw.2 c9
          refine ml_iconst (pc := 45) X dX6_isEven_45 ?_
          refine ml_goto (pc := 46) (tgt := 50) X dX6_isEven_46 (by decide) ?_
          exact u_X6_isEven_50 X hn ih σ8 x1 x3 1 h_x1 h_x3 ⟨by decide, by decide⟩ _ (lv_sub hl [0, 1, 3] rfl) hw
set_option maxRecDepth 100000 in
set_option maxHeartbeats 4000000 in
theorem u_X6_isEven_57 {p : Program} {e : Env} {s : State} {m : MethodId} {args : Array Value} {below : List Frame} {meth : Method} {c : Code} {base : Nat} {D : va_G} {cA : Nat → ClassId} {n : Nat} {l : Launch} {Q : Int → ml_St → Prop} (X : ml_X p s m c meth args D cA cX6_isEven 4 RX6 (some .boolean)) (hn : 214 ≤ n) (σ : ml_St) (x2 : Int) (h_x2 : ml_B x2) (ls : Array Slot) (hl : lv_has ls 4 [(2, .int (Int32.ofInt x2))]) (hw : f_X6_isEven_u57 Q σ x2) : ml_V p l e rm_X6_isEven s m args below meth c (MQ below (ml_Qi ml_B base D cA n Q) args s 0 0 (ml_A base)) base D cA 0 0 n n σ (F0 m 57 ls []) := by
  unfold f_X6_isEven_u57 at hw
  refine ml_iload_n (pc := 57) X hl 0 rfl rfl dX6_isEven_57 ?_
  exact ml_zret (pc := 58) X h_x2 hw dX6_isEven_58
set_option maxRecDepth 100000 in
set_option maxHeartbeats 4000000 in
theorem u_X6_isEven_0 {p : Program} {e : Env} {s : State} {m : MethodId} {args : Array Value} {below : List Frame} {meth : Method} {c : Code} {base : Nat} {D : va_G} {cA : Nat → ClassId} {n : Nat} {l : Launch} {Q : Int → ml_St → Prop} (X : ml_X p s m c meth args D cA cX6_isEven 4 RX6 (some .boolean)) (hn : 214 ≤ n) (σ : ml_St) (x1 : Int) (h_x1 : I32 x1) (ls : Array Slot) (hl : lv_has ls 4 [(0, .ref (base + (46 : Int).toNat)), (1, .int (Int32.ofInt x1))]) (hw : f_X6_isEven_u0 Q σ x1) : ml_V p l e rm_X6_isEven s m args below meth c (MQ below (ml_Qi ml_B base D cA n Q) args s 0 0 (ml_A base)) base D cA 0 0 n n σ (F0 m 0 ls []) := by
  unfold f_X6_isEven_u0 at hw
  refine ml_iconst (pc := 0) X dX6_isEven_0 ?_
  refine ml_istore_n (pc := 1) X rfl hl (by decide) (lst' := [(2, .int (Int32.ofInt 1)), (0, .ref (base + (46 : Int).toNat)), (1, .int (Int32.ofInt x1))]) rfl dX6_isEven_1 (fun ls hl => ?_)
  refine ml_aload_n (pc := 2) X hl 1 rfl rfl dX6_isEven_2 ?_
  refine gf_X6_29 (pc := 3) X (ml_c46 hn) dX6_isEven_3 (fun r1 => ?_)
  have hw := hw r1
  refine ml_iconst (pc := 6) X dX6_isEven_6 ?_
  obtain ⟨v2, hw⟩ := hw
  refine ml_iadd (pc := 7) X dX6_isEven_7 ?_
  refine ml_topI (pc := 8) (fun y3 e3 => ?_)
  have hw := hw y3 e3
  have q3 : I32 y3 := by rw [e3]; exact v2
  refine ml_istore_n (pc := 8) X rfl hl (by decide) (lst' := [(3, .int (Int32.ofInt y3)), (2, .int (Int32.ofInt 1)), (0, .ref (base + (46 : Int).toNat)), (1, .int (Int32.ofInt x1))]) rfl dX6_isEven_8 (fun ls hl => ?_)
  obtain ⟨N0, hw⟩ := hw
  exact u_X6_isEven_9 X hn (fun σ x2 h_x2 ls hl hw => u_X6_isEven_57 X hn σ x2 h_x2 ls hl hw) N0 σ x1 1 y3 h_x1 ⟨by decide, by decide⟩ q3 _ (lv_sub hl [2, 3, 1, 0] rfl) hw
set_option maxRecDepth 100000 in
theorem c_X6_isEven (l : Launch) (base : Nat) (D : va_G) (cA : Nat → ClassId) (n : Nat) (hn : 214 ≤ n) (σ : ml_St) (x1 : Int) (h_x1 : I32 x1) (Q : Int → ml_St → Prop) (hw : f_X6_isEven σ x1 Q) : Met l yX6_isEven (Cond.code yX6_isEven cX6_isEven 4 (some .boolean) :: ml_T) rm_X6_isEven (va_Pc [.ref (base + (46 : Int).toNat), .int (Int32.ofInt x1)] (ml_U base D cA n σ)) (ml_Qi ml_B base D cA n Q) 0 0 (ml_A base) := by
  refine Met.ofW (cc := cX6_isEven) (maxL := 4) (ret := (some .boolean)) (by decide) rfl ?_
  intro p e s m args below meth c s₁ B hml hv
  obtain ⟨rfl, hP, hK, hok, hro⟩ := hv
  have X : ml_X p s m c meth _ D cA cX6_isEven 4 RX6 (some .boolean) := ⟨B.exec, B.bytes, hml, findClass_of_methodNamed B.named, fun w hw => atoms_spec (ws := Cond.code yX6_isEven cX6_isEven 4 (some .boolean) :: ml_T) B.pre w (List.mem_cons_of_mem _ hw), hK, B.notSynchronized, B.returns⟩
  have hl := lv_entry [.ref (base + (46 : Int).toNat), .int (Int32.ofInt x1)] (n := 4) (Nat.le_of_ble_eq_true rfl)
  rw [lg_entry_eq]
  generalize (lg_sl [.ref (base + (46 : Int).toNat), .int (Int32.ofInt x1)] ++ List.replicate (4 - (lg_sl [.ref (base + (46 : Int).toNat), .int (Int32.ofInt x1)]).length) Slot.unset).toArray = ls at hl ⊢
  have hl : lv_has ls 4 [(0, .ref (base + (46 : Int).toNat)), (1, .int (Int32.ofInt x1))] := hl
  unfold f_X6_isEven at hw
  exact u_X6_isEven_0 X hn σ x1 h_x1 _ (lv_sub hl [0, 1] rfl) hw s.heap [] hP va_S.rf hok hro
theorem dX6_findRule_0 : decode cX6_findRule 0 = .ok (.aload_n 0, 1) := by decide +kernel
theorem dX6_findRule_1 : decode cX6_findRule 1 = .ok (.iconst 1, 1) := by decide +kernel
theorem dX6_findRule_2 : decode cX6_findRule 2 = .ok (.putfield 40, 3) := by decide +kernel
theorem dX6_findRule_5 : decode cX6_findRule 5 = .ok (.aload_n 0, 1) := by decide +kernel
theorem dX6_findRule_6 : decode cX6_findRule 6 = .ok (.getfield 40, 3) := by decide +kernel
theorem dX6_findRule_9 : decode cX6_findRule 9 = .ok (.aload_n 0, 1) := by decide +kernel
theorem dX6_findRule_10 : decode cX6_findRule 10 = .ok (.getfield 33, 3) := by decide +kernel
theorem dX6_findRule_13 : decode cX6_findRule 13 = .ok (.if_icmp .ge 27, 3) := by decide +kernel
theorem dX6_findRule_16 : decode cX6_findRule 16 = .ok (.aload_n 0, 1) := by decide +kernel
theorem dX6_findRule_17 : decode cX6_findRule 17 = .ok (.aload_n 0, 1) := by decide +kernel
theorem dX6_findRule_18 : decode cX6_findRule 18 = .ok (.getfield 40, 3) := by decide +kernel
theorem dX6_findRule_21 : decode cX6_findRule 21 = .ok (.invokevirtual 72, 3) := by decide +kernel
theorem dX6_findRule_24 : decode cX6_findRule 24 = .ok (.ifCond .ne 16, 3) := by decide +kernel
theorem dX6_findRule_27 : decode cX6_findRule 27 = .ok (.aload_n 0, 1) := by decide +kernel
theorem dX6_findRule_28 : decode cX6_findRule 28 = .ok (.dup, 1) := by decide +kernel
theorem dX6_findRule_29 : decode cX6_findRule 29 = .ok (.getfield 40, 3) := by decide +kernel
theorem dX6_findRule_32 : decode cX6_findRule 32 = .ok (.iconst 1, 1) := by decide +kernel
theorem dX6_findRule_33 : decode cX6_findRule 33 = .ok (.iadd, 1) := by decide +kernel
theorem dX6_findRule_34 : decode cX6_findRule 34 = .ok (.putfield 40, 3) := by decide +kernel
theorem dX6_findRule_37 : decode cX6_findRule 37 = .ok (.goto (-32), 3) := by decide +kernel
theorem dX6_findRule_40 : decode cX6_findRule 40 = .ok (.aload_n 0, 1) := by decide +kernel
theorem dX6_findRule_41 : decode cX6_findRule 41 = .ok (.aload_n 0, 1) := by decide +kernel
theorem dX6_findRule_42 : decode cX6_findRule 42 = .ok (.aload_n 0, 1) := by decide +kernel
theorem dX6_findRule_43 : decode cX6_findRule 43 = .ok (.getfield 29, 3) := by decide +kernel
theorem dX6_findRule_46 : decode cX6_findRule 46 = .ok (.aload_n 0, 1) := by decide +kernel
theorem dX6_findRule_47 : decode cX6_findRule 47 = .ok (.getfield 40, 3) := by decide +kernel
theorem dX6_findRule_50 : decode cX6_findRule 50 = .ok (.invokevirtual 76, 3) := by decide +kernel
theorem dX6_findRule_53 : decode cX6_findRule 53 = .ok (.putfield 43, 3) := by decide +kernel
theorem dX6_findRule_56 : decode cX6_findRule 56 = .ok (.aload_n 0, 1) := by decide +kernel
theorem dX6_findRule_57 : decode cX6_findRule 57 = .ok (.aload_n 0, 1) := by decide +kernel
theorem dX6_findRule_58 : decode cX6_findRule 58 = .ok (.getfield 29, 3) := by decide +kernel
theorem dX6_findRule_61 : decode cX6_findRule 61 = .ok (.putfield 46, 3) := by decide +kernel
theorem dX6_findRule_64 : decode cX6_findRule 64 = .ok (.aload_n 0, 1) := by decide +kernel
theorem dX6_findRule_65 : decode cX6_findRule 65 = .ok (.getfield 46, 3) := by decide +kernel
theorem dX6_findRule_68 : decode cX6_findRule 68 = .ok (.iconst 1, 1) := by decide +kernel
theorem dX6_findRule_69 : decode cX6_findRule 69 = .ok (.if_icmp .le 38, 3) := by decide +kernel
theorem dX6_findRule_72 : decode cX6_findRule 72 = .ok (.aload_n 0, 1) := by decide +kernel
theorem dX6_findRule_73 : decode cX6_findRule 73 = .ok (.aload_n 0, 1) := by decide +kernel
theorem dX6_findRule_74 : decode cX6_findRule 74 = .ok (.getfield 46, 3) := by decide +kernel
theorem dX6_findRule_77 : decode cX6_findRule 77 = .ok (.iconst 1, 1) := by decide +kernel
theorem dX6_findRule_78 : decode cX6_findRule 78 = .ok (.isub, 1) := by decide +kernel
theorem dX6_findRule_79 : decode cX6_findRule 79 = .ok (.aload_n 0, 1) := by decide +kernel
theorem dX6_findRule_80 : decode cX6_findRule 80 = .ok (.getfield 40, 3) := by decide +kernel
theorem dX6_findRule_83 : decode cX6_findRule 83 = .ok (.invokevirtual 76, 3) := by decide +kernel
theorem dX6_findRule_86 : decode cX6_findRule 86 = .ok (.aload_n 0, 1) := by decide +kernel
theorem dX6_findRule_87 : decode cX6_findRule 87 = .ok (.getfield 43, 3) := by decide +kernel
theorem dX6_findRule_90 : decode cX6_findRule 90 = .ok (.lcmp, 1) := by decide +kernel
theorem dX6_findRule_91 : decode cX6_findRule 91 = .ok (.ifCond .ne 16, 3) := by decide +kernel
theorem dX6_findRule_94 : decode cX6_findRule 94 = .ok (.aload_n 0, 1) := by decide +kernel
theorem dX6_findRule_95 : decode cX6_findRule 95 = .ok (.dup, 1) := by decide +kernel
theorem dX6_findRule_96 : decode cX6_findRule 96 = .ok (.getfield 46, 3) := by decide +kernel
theorem dX6_findRule_99 : decode cX6_findRule 99 = .ok (.iconst 1, 1) := by decide +kernel
theorem dX6_findRule_100 : decode cX6_findRule 100 = .ok (.isub, 1) := by decide +kernel
theorem dX6_findRule_101 : decode cX6_findRule 101 = .ok (.putfield 46, 3) := by decide +kernel
theorem dX6_findRule_104 : decode cX6_findRule 104 = .ok (.goto (-40), 3) := by decide +kernel
theorem dX6_findRule_107 : decode cX6_findRule 107 = .ok (.return_, 1) := by decide +kernel
def f_X6_findRule_u5 (Q : ml_St → Prop) (K40 : ml_St → Prop) : Nat → ml_St → Prop
| 0, _ => False
| N + 1, σ =>
∀ _ : I32 (σ 46 7),
∀ _ : I32 (σ 46 5),
((σ 46 5) ≤ ((σ 46 7) : Int) →
K40 σ) ∧
(¬ ((σ 46 5) ≤ ((σ 46 7) : Int)) →
∀ _ : I32 (σ 46 7),
f_X6_isEven σ (σ 46 7) (fun r5 σ5 => ∀ _ : ml_B r5,
(r5 ≠ 0 →
K40 σ5) ∧
(r5 = 0 →
∀ _ : I32 (σ5 46 7),
I32 ((σ5 46 7) + 1) ∧
∀ σ9, σ9 = ml_up σ5 46 7 ((σ5 46 7) + 1) →
f_X6_findRule_u5 Q K40 N σ9)))
def f_X6_findRule_u64 (Q : ml_St → Prop) (K107 : ml_St → Prop) : Nat → ml_St → Prop
| 0, _ => False
| N + 1, σ =>
∀ _ : I32 (σ 46 9),
(((σ 46 9) : Int) ≤ 1 →
K107 σ) ∧
(¬ (((σ 46 9) : Int) ≤ 1) →
∀ _ : I32 (σ 46 9),
I32 ((σ 46 9) - 1) ∧
∀ _ : I32 (σ 46 7),
f_X6_growth σ ((σ 46 9) - 1) (σ 46 7) (fun r6 σ6 => ∀ _ : I64 r6,
∀ _ : I64 (σ6 46 8),
(r6 ≠ (σ6 46 8) →
K107 σ6) ∧
(r6 = (σ6 46 8) →
∀ _ : I32 (σ6 46 9),
I32 ((σ6 46 9) - 1) ∧
∀ σ11, σ11 = ml_up σ6 46 9 ((σ6 46 9) - 1) →
f_X6_findRule_u64 Q K107 N σ11)))
def f_X6_findRule_u107 (Q : ml_St → Prop) (σ : ml_St) : Prop :=
Q σ
def f_X6_findRule_u40 (Q : ml_St → Prop) (σ : ml_St) : Prop :=
∀ _ : I32 (σ 46 4),
∀ _ : I32 (σ 46 7),
f_X6_growth σ (σ 46 4) (σ 46 7) (fun r3 σ3 => ∀ _ : I64 r3,
∀ σ4, σ4 = ml_up σ3 46 8 r3 →
∀ _ : I32 (σ4 46 4),
∀ σ6, σ6 = ml_up σ4 46 9 (σ4 46 4) →
∃ N1, f_X6_findRule_u64 Q (f_X6_findRule_u107 Q) N1 σ6)
def f_X6_findRule_u0 (Q : ml_St → Prop) (σ : ml_St) : Prop :=
∀ σ1, σ1 = ml_up σ 46 7 1 →
∃ N1, f_X6_findRule_u5 Q (f_X6_findRule_u40 Q) N1 σ1
def f_X6_findRule (σ : ml_St) (Q : ml_St → Prop) : Prop := f_X6_findRule_u0 Q σ
def rm_X6_findRule : Room := { frames := 3, cells := 0, slots := 0, locals := 71 }
set_option maxRecDepth 100000 in
set_option maxHeartbeats 4000000 in
theorem u_X6_findRule_5 {p : Program} {e : Env} {s : State} {m : MethodId} {args : Array Value} {below : List Frame} {meth : Method} {c : Code} {base : Nat} {D : va_G} {cA : Nat → ClassId} {n : Nat} {l : Launch} {Q : ml_St → Prop} {K40 : ml_St → Prop} (X : ml_X p s m c meth args D cA cX6_findRule 1 RX6 none) (hn : 214 ≤ n) (hK40 : ∀ (σ : ml_St) (ls : Array Slot), lv_has ls 1 [(0, .ref (base + (46 : Int).toNat))] → K40 σ → ml_V p l e rm_X6_findRule s m args below meth c (MQ below (ml_Qv base D cA n Q) args s 0 0 (ml_A base)) base D cA 0 0 n n σ (F0 m 40 ls [])) : ∀ (N : Nat) (σ : ml_St) (ls : Array Slot), lv_has ls 1 [(0, .ref (base + (46 : Int).toNat))] → f_X6_findRule_u5 Q K40 N σ → ml_V p l e rm_X6_findRule s m args below meth c (MQ below (ml_Qv base D cA n Q) args s 0 0 (ml_A base)) base D cA 0 0 n n σ (F0 m 5 ls []) := by
  intro N
  induction N with
  | zero => intro σ ls hl hw; exact False.elim hw
  | succ N ih =>
    intro σ ls hl hw
    unfold f_X6_findRule_u5 at hw
    refine ml_aload_n (pc := 5) X hl 0 rfl rfl dX6_findRule_5 ?_
    refine gf_X6_40 (pc := 6) X (ml_c46 hn) dX6_findRule_6 (fun r1 => ?_)
    have hw := hw r1
    refine ml_aload_n (pc := 9) X hl 0 rfl rfl dX6_findRule_9 ?_
    refine gf_X6_33 (pc := 10) X (ml_c46 hn) dX6_findRule_10 (fun r2 => ?_)
    have hw := hw r2
    refine ml_icmp_ge (pc := 13) (tgt := 40) X r1 r2 dX6_findRule_13 (by decide) (fun c3 => ?_) (fun c3 => ?_)
    · have hw := hw.1 c3
      exact hK40 σ   _ (lv_sub hl [0] rfl) hw
    · have hw := hw.2 c3
      refine ml_aload_n (pc := 16) X hl 0 rfl rfl dX6_findRule_16 ?_
      refine ml_aload_n (pc := 17) X hl 0 rfl rfl dX6_findRule_17 ?_
      refine gf_X6_40 (pc := 18) X (ml_c46 hn) dX6_findRule_18 (fun r4 => ?_)
      have hw := hw r4
      refine ml_callzV (pc := 21) (rest := []) X [.int (Int32.ofInt (σ 46 7))] (by decide) rfl (ml_c46 hn) (c_X6_isEven l base D cA n hn σ (σ 46 7) r4 _ hw) cv_X6_72 ⟨rfl, rfl⟩ ⟨by decide, by decide⟩ rfl rfl hl (Nat.le_of_ble_eq_true rfl) ⟨Nat.zero_le _, Nat.zero_le _⟩ dX6_findRule_21 (fun r5 σ5 t5 hw => ?_)
      have hw := hw t5
      refine ml_if_ne (pc := 24) (tgt := 40) X t5.i dX6_findRule_24 (by decide) (fun c6 => ?_) (fun c6 => ?_)
      · have hw := hw.1 c6
        exact hK40 σ5   _ (lv_sub hl [0] rfl) hw
      · have hw := hw.2 c6
        refine ml_aload_n (pc := 27) X hl 0 rfl rfl dX6_findRule_27 ?_
        refine ml_dup (pc := 28) X dX6_findRule_28 rfl ?_
        refine gf_X6_40 (pc := 29) X (ml_c46 hn) dX6_findRule_29 (fun r7 => ?_)
        have hw := hw r7
        refine ml_iconst (pc := 32) X dX6_findRule_32 ?_
        obtain ⟨v8, hw⟩ := hw
        refine ml_iadd (pc := 33) X dX6_findRule_33 ?_
        refine pf_X6_40 (pc := 34) X (ml_c46 hn) v8 dX6_findRule_34 (fun σ9 g9 => ?_)
        have hw := hw σ9 g9
        refine ml_goto (pc := 37) (tgt := 5) X dX6_findRule_37 (by decide) ?_
        exact ih σ9   _ (lv_sub hl [0] rfl) hw
set_option maxRecDepth 100000 in
set_option maxHeartbeats 4000000 in
theorem u_X6_findRule_64 {p : Program} {e : Env} {s : State} {m : MethodId} {args : Array Value} {below : List Frame} {meth : Method} {c : Code} {base : Nat} {D : va_G} {cA : Nat → ClassId} {n : Nat} {l : Launch} {Q : ml_St → Prop} {K107 : ml_St → Prop} (X : ml_X p s m c meth args D cA cX6_findRule 1 RX6 none) (hn : 214 ≤ n) (hK107 : ∀ (σ : ml_St) (ls : Array Slot), lv_has ls 1 [] → K107 σ → ml_V p l e rm_X6_findRule s m args below meth c (MQ below (ml_Qv base D cA n Q) args s 0 0 (ml_A base)) base D cA 0 0 n n σ (F0 m 107 ls [])) : ∀ (N : Nat) (σ : ml_St) (ls : Array Slot), lv_has ls 1 [(0, .ref (base + (46 : Int).toNat))] → f_X6_findRule_u64 Q K107 N σ → ml_V p l e rm_X6_findRule s m args below meth c (MQ below (ml_Qv base D cA n Q) args s 0 0 (ml_A base)) base D cA 0 0 n n σ (F0 m 64 ls []) := by
  intro N
  induction N with
  | zero => intro σ ls hl hw; exact False.elim hw
  | succ N ih =>
    intro σ ls hl hw
    unfold f_X6_findRule_u64 at hw
    refine ml_aload_n (pc := 64) X hl 0 rfl rfl dX6_findRule_64 ?_
    refine gf_X6_46 (pc := 65) X (ml_c46 hn) dX6_findRule_65 (fun r1 => ?_)
    have hw := hw r1
    refine ml_iconst (pc := 68) X dX6_findRule_68 ?_
    refine ml_icmp_le (pc := 69) (tgt := 107) X r1 ⟨by decide, by decide⟩ dX6_findRule_69 (by decide) (fun c2 => ?_) (fun c2 => ?_)
    · have hw := hw.1 c2
      exact hK107 σ   _ (lv_sub hl [] rfl) hw
    · have hw := hw.2 c2
      refine ml_aload_n (pc := 72) X hl 0 rfl rfl dX6_findRule_72 ?_
      refine ml_aload_n (pc := 73) X hl 0 rfl rfl dX6_findRule_73 ?_
      refine gf_X6_46 (pc := 74) X (ml_c46 hn) dX6_findRule_74 (fun r3 => ?_)
      have hw := hw r3
      refine ml_iconst (pc := 77) X dX6_findRule_77 ?_
      obtain ⟨v4, hw⟩ := hw
      refine ml_isub (pc := 78) X dX6_findRule_78 ?_
      refine ml_aload_n (pc := 79) X hl 0 rfl rfl dX6_findRule_79 ?_
      refine gf_X6_40 (pc := 80) X (ml_c46 hn) dX6_findRule_80 (fun r5 => ?_)
      have hw := hw r5
      refine ml_calllV (pc := 83) (rest := []) X [.int (Int32.ofInt ((σ 46 9) - 1)), .int (Int32.ofInt (σ 46 7))] (by decide) rfl (ml_c46 hn) (c_X6_growth l base D cA n hn σ ((σ 46 9) - 1) (σ 46 7) v4 r5 _ hw) cv_X6_76 ⟨rfl, rfl⟩ ⟨by decide, by decide⟩ rfl rfl hl (Nat.le_of_ble_eq_true rfl) ⟨Nat.zero_le _, Nat.zero_le _⟩ dX6_findRule_83 (fun r6 σ6 t6 hw => ?_)
      have hw := hw t6
      refine ml_aload_n (pc := 86) X hl 0 rfl rfl dX6_findRule_86 ?_
      refine gf_X6_43 (pc := 87) X (ml_c46 hn) dX6_findRule_87 (fun r7 => ?_)
      have hw := hw r7
      refine ml_lcmp_ne (pc := 90) (tgt := 107) X t6 r7 dX6_findRule_90 dX6_findRule_91 (by decide) (fun c8 => ?_) (fun c8 => ?_)
      · have hw := hw.1 c8
        exact hK107 σ6   _ (lv_sub hl [] rfl) hw
      · have hw := hw.2 c8
        refine ml_aload_n (pc := 94) X hl 0 rfl rfl dX6_findRule_94 ?_
        refine ml_dup (pc := 95) X dX6_findRule_95 rfl ?_
        refine gf_X6_46 (pc := 96) X (ml_c46 hn) dX6_findRule_96 (fun r9 => ?_)
        have hw := hw r9
        refine ml_iconst (pc := 99) X dX6_findRule_99 ?_
        obtain ⟨v10, hw⟩ := hw
        refine ml_isub (pc := 100) X dX6_findRule_100 ?_
        refine pf_X6_46 (pc := 101) X (ml_c46 hn) v10 dX6_findRule_101 (fun σ11 g11 => ?_)
        have hw := hw σ11 g11
        refine ml_goto (pc := 104) (tgt := 64) X dX6_findRule_104 (by decide) ?_
        exact ih σ11   _ (lv_sub hl [0] rfl) hw
set_option maxRecDepth 100000 in
set_option maxHeartbeats 4000000 in
theorem u_X6_findRule_107 {p : Program} {e : Env} {s : State} {m : MethodId} {args : Array Value} {below : List Frame} {meth : Method} {c : Code} {base : Nat} {D : va_G} {cA : Nat → ClassId} {n : Nat} {l : Launch} {Q : ml_St → Prop} (X : ml_X p s m c meth args D cA cX6_findRule 1 RX6 none) (hn : 214 ≤ n) (σ : ml_St) (ls : Array Slot) (hl : lv_has ls 1 []) (hw : f_X6_findRule_u107 Q σ) : ml_V p l e rm_X6_findRule s m args below meth c (MQ below (ml_Qv base D cA n Q) args s 0 0 (ml_A base)) base D cA 0 0 n n σ (F0 m 107 ls []) := by
  unfold f_X6_findRule_u107 at hw
  exact ml_vret (pc := 107) X hw dX6_findRule_107
set_option maxRecDepth 100000 in
set_option maxHeartbeats 4000000 in
theorem u_X6_findRule_40 {p : Program} {e : Env} {s : State} {m : MethodId} {args : Array Value} {below : List Frame} {meth : Method} {c : Code} {base : Nat} {D : va_G} {cA : Nat → ClassId} {n : Nat} {l : Launch} {Q : ml_St → Prop} (X : ml_X p s m c meth args D cA cX6_findRule 1 RX6 none) (hn : 214 ≤ n) (σ : ml_St) (ls : Array Slot) (hl : lv_has ls 1 [(0, .ref (base + (46 : Int).toNat))]) (hw : f_X6_findRule_u40 Q σ) : ml_V p l e rm_X6_findRule s m args below meth c (MQ below (ml_Qv base D cA n Q) args s 0 0 (ml_A base)) base D cA 0 0 n n σ (F0 m 40 ls []) := by
  unfold f_X6_findRule_u40 at hw
  refine ml_aload_n (pc := 40) X hl 0 rfl rfl dX6_findRule_40 ?_
  refine ml_aload_n (pc := 41) X hl 0 rfl rfl dX6_findRule_41 ?_
  refine ml_aload_n (pc := 42) X hl 0 rfl rfl dX6_findRule_42 ?_
  refine gf_X6_29 (pc := 43) X (ml_c46 hn) dX6_findRule_43 (fun r1 => ?_)
  have hw := hw r1
  refine ml_aload_n (pc := 46) X hl 0 rfl rfl dX6_findRule_46 ?_
  refine gf_X6_40 (pc := 47) X (ml_c46 hn) dX6_findRule_47 (fun r2 => ?_)
  have hw := hw r2
  refine ml_calllV (pc := 50) (rest := [.ref (base + (46 : Int).toNat)]) X [.int (Int32.ofInt (σ 46 4)), .int (Int32.ofInt (σ 46 7))] (by decide) rfl (ml_c46 hn) (c_X6_growth l base D cA n hn σ (σ 46 4) (σ 46 7) r1 r2 _ hw) cv_X6_76 ⟨rfl, rfl⟩ ⟨by decide, by decide⟩ rfl rfl hl (Nat.le_of_ble_eq_true rfl) ⟨Nat.zero_le _, Nat.zero_le _⟩ dX6_findRule_50 (fun r3 σ3 t3 hw => ?_)
  have hw := hw t3
  refine pf_X6_43 (pc := 53) X (ml_c46 hn) t3 dX6_findRule_53 (fun σ4 g4 => ?_)
  have hw := hw σ4 g4
  refine ml_aload_n (pc := 56) X hl 0 rfl rfl dX6_findRule_56 ?_
  refine ml_aload_n (pc := 57) X hl 0 rfl rfl dX6_findRule_57 ?_
  refine gf_X6_29 (pc := 58) X (ml_c46 hn) dX6_findRule_58 (fun r5 => ?_)
  have hw := hw r5
  refine pf_X6_46 (pc := 61) X (ml_c46 hn) r5 dX6_findRule_61 (fun σ6 g6 => ?_)
  have hw := hw σ6 g6
  obtain ⟨N0, hw⟩ := hw
  exact u_X6_findRule_64 X hn (fun σ   ls hl hw => u_X6_findRule_107 X hn σ   ls hl hw) N0 σ6   _ (lv_sub hl [0] rfl) hw
set_option maxRecDepth 100000 in
set_option maxHeartbeats 4000000 in
theorem u_X6_findRule_0 {p : Program} {e : Env} {s : State} {m : MethodId} {args : Array Value} {below : List Frame} {meth : Method} {c : Code} {base : Nat} {D : va_G} {cA : Nat → ClassId} {n : Nat} {l : Launch} {Q : ml_St → Prop} (X : ml_X p s m c meth args D cA cX6_findRule 1 RX6 none) (hn : 214 ≤ n) (σ : ml_St) (ls : Array Slot) (hl : lv_has ls 1 [(0, .ref (base + (46 : Int).toNat))]) (hw : f_X6_findRule_u0 Q σ) : ml_V p l e rm_X6_findRule s m args below meth c (MQ below (ml_Qv base D cA n Q) args s 0 0 (ml_A base)) base D cA 0 0 n n σ (F0 m 0 ls []) := by
  unfold f_X6_findRule_u0 at hw
  refine ml_aload_n (pc := 0) X hl 0 rfl rfl dX6_findRule_0 ?_
  refine ml_iconst (pc := 1) X dX6_findRule_1 ?_
  refine pf_X6_40 (pc := 2) X (ml_c46 hn) ⟨by decide, by decide⟩ dX6_findRule_2 (fun σ1 g1 => ?_)
  have hw := hw σ1 g1
  obtain ⟨N0, hw⟩ := hw
  exact u_X6_findRule_5 X hn (fun σ   ls hl hw => u_X6_findRule_40 X hn σ   ls hl hw) N0 σ1   _ (lv_sub hl [0] rfl) hw
set_option maxRecDepth 100000 in
theorem c_X6_findRule (l : Launch) (base : Nat) (D : va_G) (cA : Nat → ClassId) (n : Nat) (hn : 214 ≤ n) (σ : ml_St) (Q : ml_St → Prop) (hw : f_X6_findRule σ Q) : Met l yX6_findRule (Cond.code yX6_findRule cX6_findRule 1 none :: ml_T) rm_X6_findRule (va_Pc [.ref (base + (46 : Int).toNat)] (ml_U base D cA n σ)) (ml_Qv base D cA n Q) 0 0 (ml_A base) := by
  refine Met.ofW (cc := cX6_findRule) (maxL := 1) (ret := none) (by decide) rfl ?_
  intro p e s m args below meth c s₁ B hml hv
  obtain ⟨rfl, hP, hK, hok, hro⟩ := hv
  have X : ml_X p s m c meth _ D cA cX6_findRule 1 RX6 none := ⟨B.exec, B.bytes, hml, findClass_of_methodNamed B.named, fun w hw => atoms_spec (ws := Cond.code yX6_findRule cX6_findRule 1 none :: ml_T) B.pre w (List.mem_cons_of_mem _ hw), hK, B.notSynchronized, B.returns⟩
  have hl := lv_entry [.ref (base + (46 : Int).toNat)] (n := 1) (Nat.le_of_ble_eq_true rfl)
  rw [lg_entry_eq]
  generalize (lg_sl [.ref (base + (46 : Int).toNat)] ++ List.replicate (1 - (lg_sl [.ref (base + (46 : Int).toNat)]).length) Slot.unset).toArray = ls at hl ⊢
  have hl : lv_has ls 1 [(0, .ref (base + (46 : Int).toNat))] := hl
  unfold f_X6_findRule at hw
  exact u_X6_findRule_0 X hn σ  _ (lv_sub hl [0] rfl) hw s.heap [] hP va_S.rf hok hro
theorem dX11_rule_0 : decode cX11_rule 0 = .ok (.aload_n 0, 1) := by decide +kernel
theorem dX11_rule_1 : decode cX11_rule 1 = .ok (.iload_n 1, 1) := by decide +kernel
theorem dX11_rule_2 : decode cX11_rule 2 = .ok (.invokevirtual 121, 3) := by decide +kernel
theorem dX11_rule_5 : decode cX11_rule 5 = .ok (.ifCond .eq 12, 3) := by decide +kernel
theorem dX11_rule_8 : decode cX11_rule 8 = .ok (.iload_n 2, 1) := by decide +kernel
theorem dX11_rule_9 : decode cX11_rule 9 = .ok (.ifCond .lt 8, 3) := by decide +kernel
theorem dX11_rule_12 : decode cX11_rule 12 = .ok (.iload_n 2, 1) := by decide +kernel
theorem dX11_rule_13 : decode cX11_rule 13 = .ok (.iconst 2, 1) := by decide +kernel
theorem dX11_rule_14 : decode cX11_rule 14 = .ok (.if_icmp .le 7, 3) := by decide +kernel
theorem dX11_rule_17 : decode cX11_rule 17 = .ok (.ldc2_w 119, 3) := by decide +kernel
theorem dX11_rule_20 : decode cX11_rule 20 = .ok (.lreturn, 1) := by decide +kernel
theorem dX11_rule_21 : decode cX11_rule 21 = .ok (.aload_n 0, 1) := by decide +kernel
theorem dX11_rule_22 : decode cX11_rule 22 = .ok (.getfield 40, 3) := by decide +kernel
theorem dX11_rule_25 : decode cX11_rule 25 = .ok (.aload_n 0, 1) := by decide +kernel
theorem dX11_rule_26 : decode cX11_rule 26 = .ok (.getfield 67, 3) := by decide +kernel
theorem dX11_rule_29 : decode cX11_rule 29 = .ok (.iload_n 1, 1) := by decide +kernel
theorem dX11_rule_30 : decode cX11_rule 30 = .ok (.aaload, 1) := by decide +kernel
theorem dX11_rule_31 : decode cX11_rule 31 = .ok (.getfield 112, 3) := by decide +kernel
theorem dX11_rule_34 : decode cX11_rule 34 = .ok (.aload_n 0, 1) := by decide +kernel
theorem dX11_rule_35 : decode cX11_rule 35 = .ok (.getfield 19, 3) := by decide +kernel
theorem dX11_rule_38 : decode cX11_rule 38 = .ok (.aload_n 0, 1) := by decide +kernel
theorem dX11_rule_39 : decode cX11_rule 39 = .ok (.getfield 82, 3) := by decide +kernel
theorem dX11_rule_42 : decode cX11_rule 42 = .ok (.invokevirtual 148, 3) := by decide +kernel
theorem dX11_rule_45 : decode cX11_rule 45 = .ok (.aload_n 0, 1) := by decide +kernel
theorem dX11_rule_46 : decode cX11_rule 46 = .ok (.getfield 40, 3) := by decide +kernel
theorem dX11_rule_49 : decode cX11_rule 49 = .ok (.invokevirtual 158, 3) := by decide +kernel
theorem dX11_rule_52 : decode cX11_rule 52 = .ok (.iload_n 2, 1) := by decide +kernel
theorem dX11_rule_53 : decode cX11_rule 53 = .ok (.ifCond .ne 12, 3) := by decide +kernel
theorem dX11_rule_56 : decode cX11_rule 56 = .ok (.aload_n 0, 1) := by decide +kernel
theorem dX11_rule_57 : decode cX11_rule 57 = .ok (.getfield 40, 3) := by decide +kernel
theorem dX11_rule_60 : decode cX11_rule 60 = .ok (.getfield 161, 3) := by decide +kernel
theorem dX11_rule_63 : decode cX11_rule 63 = .ok (.i2l, 1) := by decide +kernel
theorem dX11_rule_64 : decode cX11_rule 64 = .ok (.lreturn, 1) := by decide +kernel
theorem dX11_rule_65 : decode cX11_rule 65 = .ok (.iload_n 2, 1) := by decide +kernel
theorem dX11_rule_66 : decode cX11_rule 66 = .ok (.iconst 1, 1) := by decide +kernel
theorem dX11_rule_67 : decode cX11_rule 67 = .ok (.if_icmp .ne 13, 3) := by decide +kernel
theorem dX11_rule_70 : decode cX11_rule 70 = .ok (.aload_n 0, 1) := by decide +kernel
theorem dX11_rule_71 : decode cX11_rule 71 = .ok (.getfield 40, 3) := by decide +kernel
theorem dX11_rule_74 : decode cX11_rule 74 = .ok (.getfield 164, 3) := by decide +kernel
theorem dX11_rule_77 : decode cX11_rule 77 = .ok (.goto 11, 3) := by decide +kernel
theorem dX11_rule_80 : decode cX11_rule 80 = .ok (.aload_n 0, 1) := by decide +kernel
theorem dX11_rule_81 : decode cX11_rule 81 = .ok (.getfield 40, 3) := by decide +kernel
theorem dX11_rule_84 : decode cX11_rule 84 = .ok (.getfield 167, 3) := by decide +kernel
theorem dX11_rule_87 : decode cX11_rule 87 = .ok (.i2l, 1) := by decide +kernel
theorem dX11_rule_88 : decode cX11_rule 88 = .ok (.lreturn, 1) := by decide +kernel
def f_X11_rule_u17 (Q : Int → ml_St → Prop) (σ : ml_St) : Prop :=
Q (-1) σ
def f_X11_rule_u88 (Q : Int → ml_St → Prop) (σ : ml_St) (s0 : Int) : Prop :=
Q s0 σ
def f_X11_rule_u0 (Q : Int → ml_St → Prop) (σ : ml_St) (x1 : Int) (x2 : Int) : Prop :=
f_X11_isMade σ x1 (fun r1 σ1 => ∀ _ : ml_B r1,
(r1 = 0 →
f_X11_rule_u17 Q σ1) ∧
(r1 ≠ 0 →
(x2 < 0 →
f_X11_rule_u17 Q σ1) ∧
(¬ (x2 < 0) →
(x2 ≤ 2 →
(0 : Int) ≤ x1 ∧ (x1 : Int) < 16 ∧
∀ _ : I32 (σ1 1 11),
f_X6_study σ1 ((119 + 6 * x1) + 2) (σ1 1 11) (fun σ7 =>
f_X6_findRule σ7 (fun σ8 =>
(x2 ≠ 0 →
(x2 ≠ 1 →
∀ _ : I32 (σ8 46 9),
f_X11_rule_u88 Q σ8 (σ8 46 9)) ∧
(x2 = 1 →
∀ _ : I64 (σ8 46 8),
f_X11_rule_u88 Q σ8 (σ8 46 8))) ∧
(x2 = 0 →
∀ _ : I32 (σ8 46 7),
Q (σ8 46 7) σ8)))) ∧
(¬ (x2 ≤ 2) →
f_X11_rule_u17 Q σ1))))
def f_X11_rule (σ : ml_St) (x1 : Int) (x2 : Int) (Q : Int → ml_St → Prop) : Prop := f_X11_rule_u0 Q σ x1 x2
def rm_X11_rule : Room := { frames := 4, cells := 0, slots := 0, locals := 141 }
set_option maxRecDepth 100000 in
set_option maxHeartbeats 4000000 in
theorem u_X11_rule_17 {p : Program} {e : Env} {s : State} {m : MethodId} {args : Array Value} {below : List Frame} {meth : Method} {c : Code} {base : Nat} {D : va_G} {cA : Nat → ClassId} {n : Nat} {l : Launch} {Q : Int → ml_St → Prop} (X : ml_X p s m c meth args D cA cX11_rule 3 RX11 (some .long)) (hn : 214 ≤ n) (σ : ml_St) (ls : Array Slot) (hl : lv_has ls 3 []) (hw : f_X11_rule_u17 Q σ) : ml_V p l e rm_X11_rule s m args below meth c (MQ below (ml_Ql base D cA n Q) args s 0 0 (ml_A base)) base D cA 0 0 n n σ (F0 m 17 ls []) := by
  unfold f_X11_rule_u17 at hw
  refine ml_ldc2 (pc := 17) (v := (-1)) X dX11_rule_17 tc_3_125 ?_
  exact ml_lret (pc := 20) X ⟨by decide, by decide⟩ hw dX11_rule_20
set_option maxRecDepth 100000 in
set_option maxHeartbeats 4000000 in
theorem u_X11_rule_88 {p : Program} {e : Env} {s : State} {m : MethodId} {args : Array Value} {below : List Frame} {meth : Method} {c : Code} {base : Nat} {D : va_G} {cA : Nat → ClassId} {n : Nat} {l : Launch} {Q : Int → ml_St → Prop} (X : ml_X p s m c meth args D cA cX11_rule 3 RX11 (some .long)) (hn : 214 ≤ n) (σ : ml_St) (s0 : Int) (h_s0 : I64 s0) (ls : Array Slot) (hl : lv_has ls 3 []) (hw : f_X11_rule_u88 Q σ s0) : ml_V p l e rm_X11_rule s m args below meth c (MQ below (ml_Ql base D cA n Q) args s 0 0 (ml_A base)) base D cA 0 0 n n σ (F0 m 88 ls [.long (Int64.ofInt s0)]) := by
  unfold f_X11_rule_u88 at hw
  exact ml_lret (pc := 88) X h_s0 hw dX11_rule_88
set_option maxRecDepth 100000 in
set_option maxHeartbeats 4000000 in
theorem u_X11_rule_0 {p : Program} {e : Env} {s : State} {m : MethodId} {args : Array Value} {below : List Frame} {meth : Method} {c : Code} {base : Nat} {D : va_G} {cA : Nat → ClassId} {n : Nat} {l : Launch} {Q : Int → ml_St → Prop} (X : ml_X p s m c meth args D cA cX11_rule 3 RX11 (some .long)) (hn : 214 ≤ n) (σ : ml_St) (x1 : Int) (x2 : Int) (h_x1 : I32 x1) (h_x2 : I32 x2) (ls : Array Slot) (hl : lv_has ls 3 [(0, .ref (base + (1 : Int).toNat)), (1, .int (Int32.ofInt x1)), (2, .int (Int32.ofInt x2))]) (hw : f_X11_rule_u0 Q σ x1 x2) : ml_V p l e rm_X11_rule s m args below meth c (MQ below (ml_Ql base D cA n Q) args s 0 0 (ml_A base)) base D cA 0 0 n n σ (F0 m 0 ls []) := by
  unfold f_X11_rule_u0 at hw
  refine ml_aload_n (pc := 0) X hl 0 rfl rfl dX11_rule_0 ?_
  refine ml_iload_n (pc := 1) X hl 1 rfl rfl dX11_rule_1 ?_
  refine ml_callzV (pc := 2) (rest := []) X [.int (Int32.ofInt x1)] (by decide) rfl (ml_c1 hn) (c_X11_isMade l base D cA n hn σ x1 h_x1 _ hw) cv_X11_121 ⟨rfl, rfl⟩ ⟨by decide, by decide⟩ rfl rfl hl (Nat.le_of_ble_eq_true rfl) ⟨Nat.zero_le _, Nat.zero_le _⟩ dX11_rule_2 (fun r1 σ1 t1 hw => ?_)
  have hw := hw t1
  refine ml_if_eq (pc := 5) (tgt := 17) X t1.i dX11_rule_5 (by decide) (fun c2 => ?_) (fun c2 => ?_)
  · have hw := hw.1 c2
    exact u_X11_rule_17 X hn σ1   _ (lv_sub hl [] rfl) hw
  · have hw := hw.2 c2
    refine ml_iload_n (pc := 8) X hl 2 rfl rfl dX11_rule_8 ?_
    refine ml_if_lt (pc := 9) (tgt := 17) X h_x2 dX11_rule_9 (by decide) (fun c3 => ?_) (fun c3 => ?_)
    · have hw := hw.1 c3
      exact u_X11_rule_17 X hn σ1   _ (lv_sub hl [] rfl) hw
    · have hw := hw.2 c3
      refine ml_iload_n (pc := 12) X hl 2 rfl rfl dX11_rule_12 ?_
      refine ml_iconst (pc := 13) X dX11_rule_13 ?_
      refine ml_icmp_le (pc := 14) (tgt := 21) X h_x2 ⟨by decide, by decide⟩ dX11_rule_14 (by decide) (fun c4 => ?_) (fun c4 => ?_)
      · have hw := hw.1 c4
        refine ml_aload_n (pc := 21) X hl 0 rfl rfl dX11_rule_21 ?_
        refine gf_X11_40 (pc := 22) X (ml_c1 hn) dX11_rule_22 ?_
        refine ml_aload_n (pc := 25) X hl 0 rfl rfl dX11_rule_25 ?_
        refine gf_X11_67 (pc := 26) X (ml_c1 hn) dX11_rule_26 ?_
        refine ml_iload_n (pc := 29) X hl 1 rfl rfl dX11_rule_29 ?_
        obtain ⟨a5, b5, hw⟩ := hw
        refine ml_aald_words (pc := 30) X hn a5 b5 dX11_rule_30 ?_
        refine gf_X11_112 (pc := 31) X (ml_at_words hn a5 b5) dX11_rule_31 ?_
        refine ml_aload_n (pc := 34) X hl 0 rfl rfl dX11_rule_34 ?_
        refine gf_X11_19 (pc := 35) X (ml_c1 hn) dX11_rule_35 ?_
        refine ml_aload_n (pc := 38) X hl 0 rfl rfl dX11_rule_38 ?_
        refine gf_X11_82 (pc := 39) X (ml_c1 hn) dX11_rule_39 (fun r6 => ?_)
        have hw := hw r6
        refine ml_callvV (pc := 42) (rest := []) X [.ref (base + (((119 + 6 * x1) + 2) : Int).toNat), .ref (base + (4 : Int).toNat), .int (Int32.ofInt (σ1 1 11))] (by decide) rfl (ml_c46 hn) (c_X6_study l base D cA n hn σ1 ((119 + 6 * x1) + 2) (ml_r20_2 hn (ml_at_words hn a5 b5)) (σ1 1 11) r6 _ hw) cv_X11_148 ⟨rfl, rfl⟩ ⟨by decide, by decide⟩ rfl rfl hl (Nat.le_of_ble_eq_true rfl) ⟨Nat.zero_le _, Nat.zero_le _⟩ dX11_rule_42 (fun σ7 hw => ?_)
        refine ml_aload_n (pc := 45) X hl 0 rfl rfl dX11_rule_45 ?_
        refine gf_X11_40 (pc := 46) X (ml_c1 hn) dX11_rule_46 ?_
        refine ml_callvV (pc := 49) (rest := []) X [] (by decide) rfl (ml_c46 hn) (c_X6_findRule l base D cA n hn σ7 _ hw) cv_X11_158 ⟨rfl, rfl⟩ ⟨by decide, by decide⟩ rfl rfl hl (Nat.le_of_ble_eq_true rfl) ⟨Nat.zero_le _, Nat.zero_le _⟩ dX11_rule_49 (fun σ8 hw => ?_)
        refine ml_iload_n (pc := 52) X hl 2 rfl rfl dX11_rule_52 ?_
        refine ml_if_ne (pc := 53) (tgt := 65) X h_x2 dX11_rule_53 (by decide) (fun c9 => ?_) (fun c9 => ?_)
        · have hw := hw.1 c9
          refine ml_iload_n (pc := 65) X hl 2 rfl rfl dX11_rule_65 ?_
          refine ml_iconst (pc := 66) X dX11_rule_66 ?_
          refine ml_icmp_ne (pc := 67) (tgt := 80) X h_x2 ⟨by decide, by decide⟩ dX11_rule_67 (by decide) (fun c10 => ?_) (fun c10 => ?_)
          · have hw := hw.1 c10
            refine ml_aload_n (pc := 80) X hl 0 rfl rfl dX11_rule_80 ?_
            refine gf_X11_40 (pc := 81) X (ml_c1 hn) dX11_rule_81 ?_
            refine gf_X11_167 (pc := 84) X (ml_c46 hn) dX11_rule_84 (fun r11 => ?_)
            have hw := hw r11
            refine ml_i2l (pc := 87) X r11 dX11_rule_87 ?_
            exact u_X11_rule_88 X hn σ8 (σ8 46 9) (r11).l _ (lv_sub hl [] rfl) hw
          · have hw := hw.2 c10
            refine ml_aload_n (pc := 70) X hl 0 rfl rfl dX11_rule_70 ?_
            refine gf_X11_40 (pc := 71) X (ml_c1 hn) dX11_rule_71 ?_
            refine gf_X11_164 (pc := 74) X (ml_c46 hn) dX11_rule_74 (fun r12 => ?_)
            have hw := hw r12
            refine ml_goto (pc := 77) (tgt := 88) X dX11_rule_77 (by decide) ?_
            exact u_X11_rule_88 X hn σ8 (σ8 46 8) r12 _ (lv_sub hl [] rfl) hw
        · have hw := hw.2 c9
          refine ml_aload_n (pc := 56) X hl 0 rfl rfl dX11_rule_56 ?_
          refine gf_X11_40 (pc := 57) X (ml_c1 hn) dX11_rule_57 ?_
          refine gf_X11_161 (pc := 60) X (ml_c46 hn) dX11_rule_60 (fun r13 => ?_)
          have hw := hw r13
          refine ml_i2l (pc := 63) X r13 dX11_rule_63 ?_
          exact ml_lret (pc := 64) X (r13).l hw dX11_rule_64
      · have hw := hw.2 c4
        exact u_X11_rule_17 X hn σ1   _ (lv_sub hl [] rfl) hw
set_option maxRecDepth 100000 in
theorem c_X11_rule (l : Launch) (base : Nat) (D : va_G) (cA : Nat → ClassId) (n : Nat) (hn : 214 ≤ n) (σ : ml_St) (x1 : Int) (x2 : Int) (h_x1 : I32 x1) (h_x2 : I32 x2) (Q : Int → ml_St → Prop) (hw : f_X11_rule σ x1 x2 Q) : Met l yX11_rule (Cond.code yX11_rule cX11_rule 3 (some .long) :: ml_T) rm_X11_rule (va_Pc [.ref (base + (1 : Int).toNat), .int (Int32.ofInt x1), .int (Int32.ofInt x2)] (ml_U base D cA n σ)) (ml_Ql base D cA n Q) 0 0 (ml_A base) := by
  refine Met.ofW (cc := cX11_rule) (maxL := 3) (ret := (some .long)) (by decide) rfl ?_
  intro p e s m args below meth c s₁ B hml hv
  obtain ⟨rfl, hP, hK, hok, hro⟩ := hv
  have X : ml_X p s m c meth _ D cA cX11_rule 3 RX11 (some .long) := ⟨B.exec, B.bytes, hml, findClass_of_methodNamed B.named, fun w hw => atoms_spec (ws := Cond.code yX11_rule cX11_rule 3 (some .long) :: ml_T) B.pre w (List.mem_cons_of_mem _ hw), hK, B.notSynchronized, B.returns⟩
  have hl := lv_entry [.ref (base + (1 : Int).toNat), .int (Int32.ofInt x1), .int (Int32.ofInt x2)] (n := 3) (Nat.le_of_ble_eq_true rfl)
  rw [lg_entry_eq]
  generalize (lg_sl [.ref (base + (1 : Int).toNat), .int (Int32.ofInt x1), .int (Int32.ofInt x2)] ++ List.replicate (3 - (lg_sl [.ref (base + (1 : Int).toNat), .int (Int32.ofInt x1), .int (Int32.ofInt x2)]).length) Slot.unset).toArray = ls at hl ⊢
  have hl : lv_has ls 3 [(0, .ref (base + (1 : Int).toNat)), (1, .int (Int32.ofInt x1)), (2, .int (Int32.ofInt x2))] := hl
  unfold f_X11_rule at hw
  exact u_X11_rule_0 X hn σ x1 x2 h_x1 h_x2 _ (lv_sub hl [0, 1, 2] rfl) hw s.heap [] hP va_S.rf hok hro
theorem dX11_isPower_0 : decode cX11_isPower 0 = .ok (.lload_n 0, 1) := by decide +kernel
theorem dX11_isPower_1 : decode cX11_isPower 1 = .ok (.lconst 1, 1) := by decide +kernel
theorem dX11_isPower_2 : decode cX11_isPower 2 = .ok (.lcmp, 1) := by decide +kernel
theorem dX11_isPower_3 : decode cX11_isPower 3 = .ok (.ifCond .lt 15, 3) := by decide +kernel
theorem dX11_isPower_6 : decode cX11_isPower 6 = .ok (.lload_n 0, 1) := by decide +kernel
theorem dX11_isPower_7 : decode cX11_isPower 7 = .ok (.ldc2_w 178, 3) := by decide +kernel
theorem dX11_isPower_10 : decode cX11_isPower 10 = .ok (.lcmp, 1) := by decide +kernel
theorem dX11_isPower_11 : decode cX11_isPower 11 = .ok (.ifCond .gt 7, 3) := by decide +kernel
theorem dX11_isPower_14 : decode cX11_isPower 14 = .ok (.iconst 1, 1) := by decide +kernel
theorem dX11_isPower_15 : decode cX11_isPower 15 = .ok (.goto 4, 3) := by decide +kernel
theorem dX11_isPower_18 : decode cX11_isPower 18 = .ok (.iconst 0, 1) := by decide +kernel
theorem dX11_isPower_19 : decode cX11_isPower 19 = .ok (.ireturn, 1) := by decide +kernel
def f_X11_isPower_u19 (Q : Int → ml_St → Prop) (σ : ml_St) (s0 : Int) : Prop :=
Q s0 σ
def f_X11_isPower_u18 (Q : Int → ml_St → Prop) (σ : ml_St) : Prop :=
f_X11_isPower_u19 Q σ 0
def f_X11_isPower_u0 (Q : Int → ml_St → Prop) (σ : ml_St) (x0 : Int) : Prop :=
(x0 < 1 →
f_X11_isPower_u18 Q σ) ∧
(¬ (x0 < 1) →
(1000000000000000000 < x0 →
f_X11_isPower_u18 Q σ) ∧
(¬ (1000000000000000000 < x0) →
f_X11_isPower_u19 Q σ 1))
def f_X11_isPower (σ : ml_St) (x0 : Int) (Q : Int → ml_St → Prop) : Prop := f_X11_isPower_u0 Q σ x0
def rm_X11_isPower : Room := { frames := 0, cells := 0, slots := 0, locals := 0 }
set_option maxRecDepth 100000 in
set_option maxHeartbeats 4000000 in
theorem u_X11_isPower_19 {p : Program} {e : Env} {s : State} {m : MethodId} {args : Array Value} {below : List Frame} {meth : Method} {c : Code} {base : Nat} {D : va_G} {cA : Nat → ClassId} {n : Nat} {l : Launch} {Q : Int → ml_St → Prop} (X : ml_X p s m c meth args D cA cX11_isPower 2 RX11 (some .boolean)) (hn : 214 ≤ n) (σ : ml_St) (s0 : Int) (h_s0 : ml_B s0) (ls : Array Slot) (hl : lv_has ls 2 []) (hw : f_X11_isPower_u19 Q σ s0) : ml_V p l e rm_X11_isPower s m args below meth c (MQ below (ml_Qi ml_B base D cA n Q) args s 0 0 (ml_A base)) base D cA 0 0 n n σ (F0 m 19 ls [.int (Int32.ofInt s0)]) := by
  unfold f_X11_isPower_u19 at hw
  exact ml_zret (pc := 19) X h_s0 hw dX11_isPower_19
set_option maxRecDepth 100000 in
set_option maxHeartbeats 4000000 in
theorem u_X11_isPower_18 {p : Program} {e : Env} {s : State} {m : MethodId} {args : Array Value} {below : List Frame} {meth : Method} {c : Code} {base : Nat} {D : va_G} {cA : Nat → ClassId} {n : Nat} {l : Launch} {Q : Int → ml_St → Prop} (X : ml_X p s m c meth args D cA cX11_isPower 2 RX11 (some .boolean)) (hn : 214 ≤ n) (σ : ml_St) (ls : Array Slot) (hl : lv_has ls 2 []) (hw : f_X11_isPower_u18 Q σ) : ml_V p l e rm_X11_isPower s m args below meth c (MQ below (ml_Qi ml_B base D cA n Q) args s 0 0 (ml_A base)) base D cA 0 0 n n σ (F0 m 18 ls []) := by
  unfold f_X11_isPower_u18 at hw
  refine ml_iconst (pc := 18) X dX11_isPower_18 ?_
  exact u_X11_isPower_19 X hn σ 0 ⟨by decide, by decide⟩ _ (lv_sub hl [] rfl) hw
set_option maxRecDepth 100000 in
set_option maxHeartbeats 4000000 in
theorem u_X11_isPower_0 {p : Program} {e : Env} {s : State} {m : MethodId} {args : Array Value} {below : List Frame} {meth : Method} {c : Code} {base : Nat} {D : va_G} {cA : Nat → ClassId} {n : Nat} {l : Launch} {Q : Int → ml_St → Prop} (X : ml_X p s m c meth args D cA cX11_isPower 2 RX11 (some .boolean)) (hn : 214 ≤ n) (σ : ml_St) (x0 : Int) (h_x0 : I64 x0) (ls : Array Slot) (hl : lv_has ls 2 [(0, .long (Int64.ofInt x0))]) (hw : f_X11_isPower_u0 Q σ x0) : ml_V p l e rm_X11_isPower s m args below meth c (MQ below (ml_Qi ml_B base D cA n Q) args s 0 0 (ml_A base)) base D cA 0 0 n n σ (F0 m 0 ls []) := by
  unfold f_X11_isPower_u0 at hw
  refine ml_lload_n (pc := 0) X hl 0 rfl rfl dX11_isPower_0 ?_
  refine ml_lconst1 (pc := 1) X dX11_isPower_1 ?_
  refine ml_lcmp_lt (pc := 2) (tgt := 18) X h_x0 ⟨by decide, by decide⟩ dX11_isPower_2 dX11_isPower_3 (by decide) (fun c1 => ?_) (fun c1 => ?_)
  · have hw := hw.1 c1
    exact u_X11_isPower_18 X hn σ   _ (lv_sub hl [] rfl) hw
  · have hw := hw.2 c1
    refine ml_lload_n (pc := 6) X hl 0 rfl rfl dX11_isPower_6 ?_
    refine ml_ldc2 (pc := 7) (v := 1000000000000000000) X dX11_isPower_7 tc_3_203 ?_
    refine ml_lcmp_gt (pc := 10) (tgt := 18) X h_x0 ⟨by decide, by decide⟩ dX11_isPower_10 dX11_isPower_11 (by decide) (fun c2 => ?_) (fun c2 => ?_)
    · have hw := hw.1 c2
      exact u_X11_isPower_18 X hn σ   _ (lv_sub hl [] rfl) hw
    · have hw := hw.2 c2
      refine ml_iconst (pc := 14) X dX11_isPower_14 ?_
      refine ml_goto (pc := 15) (tgt := 19) X dX11_isPower_15 (by decide) ?_
      exact u_X11_isPower_19 X hn σ 1 ⟨by decide, by decide⟩ _ (lv_sub hl [] rfl) hw
set_option maxRecDepth 100000 in
theorem c_X11_isPower (l : Launch) (base : Nat) (D : va_G) (cA : Nat → ClassId) (n : Nat) (hn : 214 ≤ n) (σ : ml_St) (x0 : Int) (h_x0 : I64 x0) (Q : Int → ml_St → Prop) (hw : f_X11_isPower σ x0 Q) : Met l yX11_isPower (Cond.code yX11_isPower cX11_isPower 2 (some .boolean) :: ml_T) rm_X11_isPower (va_Pc [.long (Int64.ofInt x0)] (ml_U base D cA n σ)) (ml_Qi ml_B base D cA n Q) 0 0 (ml_A base) := by
  refine Met.ofW (cc := cX11_isPower) (maxL := 2) (ret := (some .boolean)) (by decide) rfl ?_
  intro p e s m args below meth c s₁ B hml hv
  obtain ⟨rfl, hP, hK, hok, hro⟩ := hv
  have X : ml_X p s m c meth _ D cA cX11_isPower 2 RX11 (some .boolean) := ⟨B.exec, B.bytes, hml, findClass_of_methodNamed B.named, fun w hw => atoms_spec (ws := Cond.code yX11_isPower cX11_isPower 2 (some .boolean) :: ml_T) B.pre w (List.mem_cons_of_mem _ hw), hK, B.notSynchronized, B.returns⟩
  have hl := lv_entry [.long (Int64.ofInt x0)] (n := 2) (Nat.le_of_ble_eq_true rfl)
  rw [lg_entry_eq]
  generalize (lg_sl [.long (Int64.ofInt x0)] ++ List.replicate (2 - (lg_sl [.long (Int64.ofInt x0)]).length) Slot.unset).toArray = ls at hl ⊢
  have hl : lv_has ls 2 [(0, .long (Int64.ofInt x0))] := hl
  unfold f_X11_isPower at hw
  exact u_X11_isPower_0 X hn σ x0 h_x0 _ (lv_sub hl [0] rfl) hw s.heap [] hP va_S.rf hok hro
theorem dX11_left_0 : decode cX11_left 0 = .ok (.aload_n 0, 1) := by decide +kernel
theorem dX11_left_1 : decode cX11_left 1 = .ok (.iload_n 1, 1) := by decide +kernel
theorem dX11_left_2 : decode cX11_left 2 = .ok (.invokevirtual 121, 3) := by decide +kernel
theorem dX11_left_5 : decode cX11_left 5 = .ok (.ifCond .eq 10, 3) := by decide +kernel
theorem dX11_left_8 : decode cX11_left 8 = .ok (.lload_n 2, 1) := by decide +kernel
theorem dX11_left_9 : decode cX11_left 9 = .ok (.invokestatic 170, 3) := by decide +kernel
theorem dX11_left_12 : decode cX11_left 12 = .ok (.ifCond .ne 7, 3) := by decide +kernel
theorem dX11_left_15 : decode cX11_left 15 = .ok (.ldc2_w 119, 3) := by decide +kernel
theorem dX11_left_18 : decode cX11_left 18 = .ok (.lreturn, 1) := by decide +kernel
theorem dX11_left_19 : decode cX11_left 19 = .ok (.aload_n 0, 1) := by decide +kernel
theorem dX11_left_20 : decode cX11_left 20 = .ok (.getfield 40, 3) := by decide +kernel
theorem dX11_left_23 : decode cX11_left 23 = .ok (.aload_n 0, 1) := by decide +kernel
theorem dX11_left_24 : decode cX11_left 24 = .ok (.getfield 67, 3) := by decide +kernel
theorem dX11_left_27 : decode cX11_left 27 = .ok (.iload_n 1, 1) := by decide +kernel
theorem dX11_left_28 : decode cX11_left 28 = .ok (.aaload, 1) := by decide +kernel
theorem dX11_left_29 : decode cX11_left 29 = .ok (.getfield 112, 3) := by decide +kernel
theorem dX11_left_32 : decode cX11_left 32 = .ok (.aload_n 0, 1) := by decide +kernel
theorem dX11_left_33 : decode cX11_left 33 = .ok (.getfield 19, 3) := by decide +kernel
theorem dX11_left_36 : decode cX11_left 36 = .ok (.aload_n 0, 1) := by decide +kernel
theorem dX11_left_37 : decode cX11_left 37 = .ok (.getfield 82, 3) := by decide +kernel
theorem dX11_left_40 : decode cX11_left 40 = .ok (.invokevirtual 148, 3) := by decide +kernel
theorem dX11_left_43 : decode cX11_left 43 = .ok (.aload_n 0, 1) := by decide +kernel
theorem dX11_left_44 : decode cX11_left 44 = .ok (.getfield 40, 3) := by decide +kernel
theorem dX11_left_47 : decode cX11_left 47 = .ok (.lload_n 2, 1) := by decide +kernel
theorem dX11_left_48 : decode cX11_left 48 = .ok (.invokevirtual 174, 3) := by decide +kernel
theorem dX11_left_51 : decode cX11_left 51 = .ok (.lreturn, 1) := by decide +kernel
def f_X11_left_u15 (Q : Int → ml_St → Prop) (σ : ml_St) : Prop :=
Q (-1) σ
def f_X11_left_u0 (Q : Int → ml_St → Prop) (σ : ml_St) (x1 : Int) (x2 : Int) : Prop :=
f_X11_isMade σ x1 (fun r1 σ1 => ∀ _ : ml_B r1,
(r1 = 0 →
f_X11_left_u15 Q σ1) ∧
(r1 ≠ 0 →
f_X11_isPower σ1 x2 (fun r3 σ3 => ∀ _ : ml_B r3,
(r3 ≠ 0 →
(0 : Int) ≤ x1 ∧ (x1 : Int) < 16 ∧
∀ _ : I32 (σ3 1 11),
f_X6_study σ3 ((119 + 6 * x1) + 2) (σ3 1 11) (fun σ7 =>
f_X6_loopsOf σ7 x2 (fun r8 σ8 => ∀ _ : I64 r8,
Q r8 σ8))) ∧
(r3 = 0 →
f_X11_left_u15 Q σ3))))
def f_X11_left (σ : ml_St) (x1 : Int) (x2 : Int) (Q : Int → ml_St → Prop) : Prop := f_X11_left_u0 Q σ x1 x2
def rm_X11_left : Room := { frames := 4, cells := 0, slots := 0, locals := 141 }
set_option maxRecDepth 100000 in
set_option maxHeartbeats 4000000 in
theorem u_X11_left_15 {p : Program} {e : Env} {s : State} {m : MethodId} {args : Array Value} {below : List Frame} {meth : Method} {c : Code} {base : Nat} {D : va_G} {cA : Nat → ClassId} {n : Nat} {l : Launch} {Q : Int → ml_St → Prop} (X : ml_X p s m c meth args D cA cX11_left 4 RX11 (some .long)) (hn : 214 ≤ n) (σ : ml_St) (ls : Array Slot) (hl : lv_has ls 4 []) (hw : f_X11_left_u15 Q σ) : ml_V p l e rm_X11_left s m args below meth c (MQ below (ml_Ql base D cA n Q) args s 0 0 (ml_A base)) base D cA 0 0 n n σ (F0 m 15 ls []) := by
  unfold f_X11_left_u15 at hw
  refine ml_ldc2 (pc := 15) (v := (-1)) X dX11_left_15 tc_3_125 ?_
  exact ml_lret (pc := 18) X ⟨by decide, by decide⟩ hw dX11_left_18
set_option maxRecDepth 100000 in
set_option maxHeartbeats 4000000 in
theorem u_X11_left_0 {p : Program} {e : Env} {s : State} {m : MethodId} {args : Array Value} {below : List Frame} {meth : Method} {c : Code} {base : Nat} {D : va_G} {cA : Nat → ClassId} {n : Nat} {l : Launch} {Q : Int → ml_St → Prop} (X : ml_X p s m c meth args D cA cX11_left 4 RX11 (some .long)) (hn : 214 ≤ n) (σ : ml_St) (x1 : Int) (x2 : Int) (h_x1 : I32 x1) (h_x2 : I64 x2) (ls : Array Slot) (hl : lv_has ls 4 [(0, .ref (base + (1 : Int).toNat)), (1, .int (Int32.ofInt x1)), (2, .long (Int64.ofInt x2))]) (hw : f_X11_left_u0 Q σ x1 x2) : ml_V p l e rm_X11_left s m args below meth c (MQ below (ml_Ql base D cA n Q) args s 0 0 (ml_A base)) base D cA 0 0 n n σ (F0 m 0 ls []) := by
  unfold f_X11_left_u0 at hw
  refine ml_aload_n (pc := 0) X hl 0 rfl rfl dX11_left_0 ?_
  refine ml_iload_n (pc := 1) X hl 1 rfl rfl dX11_left_1 ?_
  refine ml_callzV (pc := 2) (rest := []) X [.int (Int32.ofInt x1)] (by decide) rfl (ml_c1 hn) (c_X11_isMade l base D cA n hn σ x1 h_x1 _ hw) cv_X11_121 ⟨rfl, rfl⟩ ⟨by decide, by decide⟩ rfl rfl hl (Nat.le_of_ble_eq_true rfl) ⟨Nat.zero_le _, Nat.zero_le _⟩ dX11_left_2 (fun r1 σ1 t1 hw => ?_)
  have hw := hw t1
  refine ml_if_eq (pc := 5) (tgt := 15) X t1.i dX11_left_5 (by decide) (fun c2 => ?_) (fun c2 => ?_)
  · have hw := hw.1 c2
    exact u_X11_left_15 X hn σ1   _ (lv_sub hl [] rfl) hw
  · have hw := hw.2 c2
    refine ml_lload_n (pc := 8) X hl 2 rfl rfl dX11_left_8 ?_
    refine ml_callzS (pc := 9) (rest := []) X [.long (Int64.ofInt x2)] (c_X11_isPower l base D cA n hn σ1 x2 h_x2 _ hw) cv_X11_170 ⟨rfl, rfl⟩ ⟨by decide, by decide⟩ rfl rfl hl (Nat.le_of_ble_eq_true rfl) ⟨Nat.zero_le _, Nat.zero_le _⟩ dX11_left_9 (fun r3 σ3 t3 hw => ?_)
    have hw := hw t3
    refine ml_if_ne (pc := 12) (tgt := 19) X t3.i dX11_left_12 (by decide) (fun c4 => ?_) (fun c4 => ?_)
    · have hw := hw.1 c4
      refine ml_aload_n (pc := 19) X hl 0 rfl rfl dX11_left_19 ?_
      refine gf_X11_40 (pc := 20) X (ml_c1 hn) dX11_left_20 ?_
      refine ml_aload_n (pc := 23) X hl 0 rfl rfl dX11_left_23 ?_
      refine gf_X11_67 (pc := 24) X (ml_c1 hn) dX11_left_24 ?_
      refine ml_iload_n (pc := 27) X hl 1 rfl rfl dX11_left_27 ?_
      obtain ⟨a5, b5, hw⟩ := hw
      refine ml_aald_words (pc := 28) X hn a5 b5 dX11_left_28 ?_
      refine gf_X11_112 (pc := 29) X (ml_at_words hn a5 b5) dX11_left_29 ?_
      refine ml_aload_n (pc := 32) X hl 0 rfl rfl dX11_left_32 ?_
      refine gf_X11_19 (pc := 33) X (ml_c1 hn) dX11_left_33 ?_
      refine ml_aload_n (pc := 36) X hl 0 rfl rfl dX11_left_36 ?_
      refine gf_X11_82 (pc := 37) X (ml_c1 hn) dX11_left_37 (fun r6 => ?_)
      have hw := hw r6
      refine ml_callvV (pc := 40) (rest := []) X [.ref (base + (((119 + 6 * x1) + 2) : Int).toNat), .ref (base + (4 : Int).toNat), .int (Int32.ofInt (σ3 1 11))] (by decide) rfl (ml_c46 hn) (c_X6_study l base D cA n hn σ3 ((119 + 6 * x1) + 2) (ml_r20_2 hn (ml_at_words hn a5 b5)) (σ3 1 11) r6 _ hw) cv_X11_148 ⟨rfl, rfl⟩ ⟨by decide, by decide⟩ rfl rfl hl (Nat.le_of_ble_eq_true rfl) ⟨Nat.zero_le _, Nat.zero_le _⟩ dX11_left_40 (fun σ7 hw => ?_)
      refine ml_aload_n (pc := 43) X hl 0 rfl rfl dX11_left_43 ?_
      refine gf_X11_40 (pc := 44) X (ml_c1 hn) dX11_left_44 ?_
      refine ml_lload_n (pc := 47) X hl 2 rfl rfl dX11_left_47 ?_
      refine ml_calllV (pc := 48) (rest := []) X [.long (Int64.ofInt x2)] (by decide) rfl (ml_c46 hn) (c_X6_loopsOf l base D cA n hn σ7 x2 h_x2 _ hw) cv_X11_174 ⟨rfl, rfl⟩ ⟨by decide, by decide⟩ rfl rfl hl (Nat.le_of_ble_eq_true rfl) ⟨Nat.zero_le _, Nat.zero_le _⟩ dX11_left_48 (fun r8 σ8 t8 hw => ?_)
      have hw := hw t8
      exact ml_lret (pc := 51) X t8 hw dX11_left_51
    · have hw := hw.2 c4
      exact u_X11_left_15 X hn σ3   _ (lv_sub hl [] rfl) hw
set_option maxRecDepth 100000 in
theorem c_X11_left (l : Launch) (base : Nat) (D : va_G) (cA : Nat → ClassId) (n : Nat) (hn : 214 ≤ n) (σ : ml_St) (x1 : Int) (x2 : Int) (h_x1 : I32 x1) (h_x2 : I64 x2) (Q : Int → ml_St → Prop) (hw : f_X11_left σ x1 x2 Q) : Met l yX11_left (Cond.code yX11_left cX11_left 4 (some .long) :: ml_T) rm_X11_left (va_Pc [.ref (base + (1 : Int).toNat), .int (Int32.ofInt x1), .long (Int64.ofInt x2)] (ml_U base D cA n σ)) (ml_Ql base D cA n Q) 0 0 (ml_A base) := by
  refine Met.ofW (cc := cX11_left) (maxL := 4) (ret := (some .long)) (by decide) rfl ?_
  intro p e s m args below meth c s₁ B hml hv
  obtain ⟨rfl, hP, hK, hok, hro⟩ := hv
  have X : ml_X p s m c meth _ D cA cX11_left 4 RX11 (some .long) := ⟨B.exec, B.bytes, hml, findClass_of_methodNamed B.named, fun w hw => atoms_spec (ws := Cond.code yX11_left cX11_left 4 (some .long) :: ml_T) B.pre w (List.mem_cons_of_mem _ hw), hK, B.notSynchronized, B.returns⟩
  have hl := lv_entry [.ref (base + (1 : Int).toNat), .int (Int32.ofInt x1), .long (Int64.ofInt x2)] (n := 4) (Nat.le_of_ble_eq_true rfl)
  rw [lg_entry_eq]
  generalize (lg_sl [.ref (base + (1 : Int).toNat), .int (Int32.ofInt x1), .long (Int64.ofInt x2)] ++ List.replicate (4 - (lg_sl [.ref (base + (1 : Int).toNat), .int (Int32.ofInt x1), .long (Int64.ofInt x2)]).length) Slot.unset).toArray = ls at hl ⊢
  have hl : lv_has ls 4 [(0, .ref (base + (1 : Int).toNat)), (1, .int (Int32.ofInt x1)), (2, .long (Int64.ofInt x2))] := hl
  unfold f_X11_left at hw
  exact u_X11_left_0 X hn σ x1 x2 h_x1 h_x2 _ (lv_sub hl [0, 1, 2] rfl) hw s.heap [] hP va_S.rf hok hro
