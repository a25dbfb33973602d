theorem dJ6_bitCount_0f7a4_0 : decode cJ6_bitCount_0f7a4 0 = .ok (.iload_n 0, 1) := by decide +kernel
theorem dJ6_bitCount_0f7a4_1 : decode cJ6_bitCount_0f7a4 1 = .ok (.iload_n 0, 1) := by decide +kernel
theorem dJ6_bitCount_0f7a4_2 : decode cJ6_bitCount_0f7a4 2 = .ok (.iconst 1, 1) := by decide +kernel
theorem dJ6_bitCount_0f7a4_3 : decode cJ6_bitCount_0f7a4 3 = .ok (.iushr, 1) := by decide +kernel
theorem dJ6_bitCount_0f7a4_4 : decode cJ6_bitCount_0f7a4 4 = .ok (.ldc_w 265, 3) := by decide +kernel
theorem dJ6_bitCount_0f7a4_7 : decode cJ6_bitCount_0f7a4 7 = .ok (.iand, 1) := by decide +kernel
theorem dJ6_bitCount_0f7a4_8 : decode cJ6_bitCount_0f7a4 8 = .ok (.isub, 1) := by decide +kernel
theorem dJ6_bitCount_0f7a4_9 : decode cJ6_bitCount_0f7a4 9 = .ok (.istore_n 0, 1) := by decide +kernel
theorem dJ6_bitCount_0f7a4_10 : decode cJ6_bitCount_0f7a4 10 = .ok (.iload_n 0, 1) := by decide +kernel
theorem dJ6_bitCount_0f7a4_11 : decode cJ6_bitCount_0f7a4 11 = .ok (.ldc_w 266, 3) := by decide +kernel
theorem dJ6_bitCount_0f7a4_14 : decode cJ6_bitCount_0f7a4 14 = .ok (.iand, 1) := by decide +kernel
theorem dJ6_bitCount_0f7a4_15 : decode cJ6_bitCount_0f7a4 15 = .ok (.iload_n 0, 1) := by decide +kernel
theorem dJ6_bitCount_0f7a4_16 : decode cJ6_bitCount_0f7a4 16 = .ok (.iconst 2, 1) := by decide +kernel
theorem dJ6_bitCount_0f7a4_17 : decode cJ6_bitCount_0f7a4 17 = .ok (.iushr, 1) := by decide +kernel
theorem dJ6_bitCount_0f7a4_18 : decode cJ6_bitCount_0f7a4 18 = .ok (.ldc_w 266, 3) := by decide +kernel
theorem dJ6_bitCount_0f7a4_21 : decode cJ6_bitCount_0f7a4 21 = .ok (.iand, 1) := by decide +kernel
theorem dJ6_bitCount_0f7a4_22 : decode cJ6_bitCount_0f7a4 22 = .ok (.iadd, 1) := by decide +kernel
theorem dJ6_bitCount_0f7a4_23 : decode cJ6_bitCount_0f7a4 23 = .ok (.istore_n 0, 1) := by decide +kernel
theorem dJ6_bitCount_0f7a4_24 : decode cJ6_bitCount_0f7a4 24 = .ok (.iload_n 0, 1) := by decide +kernel
theorem dJ6_bitCount_0f7a4_25 : decode cJ6_bitCount_0f7a4 25 = .ok (.iload_n 0, 1) := by decide +kernel
theorem dJ6_bitCount_0f7a4_26 : decode cJ6_bitCount_0f7a4 26 = .ok (.iconst 4, 1) := by decide +kernel
theorem dJ6_bitCount_0f7a4_27 : decode cJ6_bitCount_0f7a4 27 = .ok (.iushr, 1) := by decide +kernel
theorem dJ6_bitCount_0f7a4_28 : decode cJ6_bitCount_0f7a4 28 = .ok (.iadd, 1) := by decide +kernel
theorem dJ6_bitCount_0f7a4_29 : decode cJ6_bitCount_0f7a4 29 = .ok (.ldc_w 267, 3) := by decide +kernel
theorem dJ6_bitCount_0f7a4_32 : decode cJ6_bitCount_0f7a4 32 = .ok (.iand, 1) := by decide +kernel
theorem dJ6_bitCount_0f7a4_33 : decode cJ6_bitCount_0f7a4 33 = .ok (.istore_n 0, 1) := by decide +kernel
theorem dJ6_bitCount_0f7a4_34 : decode cJ6_bitCount_0f7a4 34 = .ok (.iload_n 0, 1) := by decide +kernel
theorem dJ6_bitCount_0f7a4_35 : decode cJ6_bitCount_0f7a4 35 = .ok (.iload_n 0, 1) := by decide +kernel
theorem dJ6_bitCount_0f7a4_36 : decode cJ6_bitCount_0f7a4 36 = .ok (.bipush 8, 2) := by decide +kernel
theorem dJ6_bitCount_0f7a4_38 : decode cJ6_bitCount_0f7a4 38 = .ok (.iushr, 1) := by decide +kernel
theorem dJ6_bitCount_0f7a4_39 : decode cJ6_bitCount_0f7a4 39 = .ok (.iadd, 1) := by decide +kernel
theorem dJ6_bitCount_0f7a4_40 : decode cJ6_bitCount_0f7a4 40 = .ok (.istore_n 0, 1) := by decide +kernel
theorem dJ6_bitCount_0f7a4_41 : decode cJ6_bitCount_0f7a4 41 = .ok (.iload_n 0, 1) := by decide +kernel
theorem dJ6_bitCount_0f7a4_42 : decode cJ6_bitCount_0f7a4 42 = .ok (.iload_n 0, 1) := by decide +kernel
theorem dJ6_bitCount_0f7a4_43 : decode cJ6_bitCount_0f7a4 43 = .ok (.bipush 16, 2) := by decide +kernel
theorem dJ6_bitCount_0f7a4_45 : decode cJ6_bitCount_0f7a4 45 = .ok (.iushr, 1) := by decide +kernel
theorem dJ6_bitCount_0f7a4_46 : decode cJ6_bitCount_0f7a4 46 = .ok (.iadd, 1) := by decide +kernel
theorem dJ6_bitCount_0f7a4_47 : decode cJ6_bitCount_0f7a4 47 = .ok (.istore_n 0, 1) := by decide +kernel
theorem dJ6_bitCount_0f7a4_48 : decode cJ6_bitCount_0f7a4 48 = .ok (.iload_n 0, 1) := by decide +kernel
theorem dJ6_bitCount_0f7a4_49 : decode cJ6_bitCount_0f7a4 49 = .ok (.bipush 63, 2) := by decide +kernel
theorem dJ6_bitCount_0f7a4_51 : decode cJ6_bitCount_0f7a4 51 = .ok (.iand, 1) := by decide +kernel
theorem dJ6_bitCount_0f7a4_52 : decode cJ6_bitCount_0f7a4 52 = .ok (.ireturn, 1) := by decide +kernel
def f_J6_bitCount_0f7a4_u0 (Q : Int → ml_St → Prop) (σ : ml_St) (x0 : Int) : Prop :=
I32 (x0 - (b_and (b_ushr x0 1) 1431655765)) ∧
∀ y2 : Int, y2 = x0 - (b_and (b_ushr x0 1) 1431655765) →
I32 ((b_and y2 858993459) + (b_and (b_ushr y2 2) 858993459)) ∧
∀ y4 : Int, y4 = (b_and y2 858993459) + (b_and (b_ushr y2 2) 858993459) →
I32 (y4 + (b_ushr y4 4)) ∧
∀ y6 : Int, y6 = b_and (y4 + (b_ushr y4 4)) 252645135 →
I32 (y6 + (b_ushr y6 8)) ∧
∀ y8 : Int, y8 = y6 + (b_ushr y6 8) →
I32 (y8 + (b_ushr y8 16)) ∧
∀ y10 : Int, y10 = y8 + (b_ushr y8 16) →
Q (b_and y10 63) σ
def f_J6_bitCount_0f7a4 (σ : ml_St) (x0 : Int) (Q : Int → ml_St → Prop) : Prop := f_J6_bitCount_0f7a4_u0 Q σ x0
def rm_J6_bitCount_0f7a4 : Room := { frames := 0, cells := 0, slots := 0, locals := 0 }
set_option maxRecDepth 100000 in
set_option maxHeartbeats 4000000 in
theorem u_J6_bitCount_0f7a4_0 {p : Program} {e : Env} {s : State} {m : MethodId} {args : Array Value} {below : List Frame} {meth : Method} {c : Code} {base : Nat} {D : va_G} {cA : Nat → ClassId} {n : Nat} {l : Launch} {Q : Int → ml_St → Prop} (X : ml_X p s m c meth args D cA cJ6_bitCount_0f7a4 1 RJ6 (some .int)) (hn : 214 ≤ n) (σ : ml_St) (x0 : Int) (h_x0 : I32 x0) (ls : Array Slot) (hl : lv_has ls 1 [(0, .int (Int32.ofInt x0))]) (hw : f_J6_bitCount_0f7a4_u0 Q σ x0) : ml_V p l e rm_J6_bitCount_0f7a4 s m args below meth c (MQ below (ml_Qi I32 base D cA n Q) args s 0 0 (ml_A base)) base D cA 0 0 n n σ (F0 m 0 ls []) := by
  unfold f_J6_bitCount_0f7a4_u0 at hw
  refine ml_iload_n (pc := 0) X hl 0 rfl rfl dJ6_bitCount_0f7a4_0 ?_
  refine ml_iload_n (pc := 1) X hl 0 rfl rfl dJ6_bitCount_0f7a4_1 ?_
  refine ml_iconst (pc := 2) X dJ6_bitCount_0f7a4_2 ?_
  refine ml_iushr (pc := 3) X dJ6_bitCount_0f7a4_3 ?_
  refine ml_ldcw (pc := 4) (v := 1431655765) X dJ6_bitCount_0f7a4_4 tc_3_171 ?_
  refine ml_iand (pc := 7) X dJ6_bitCount_0f7a4_7 ?_
  obtain ⟨v1, hw⟩ := hw
  refine ml_isub (pc := 8) X dJ6_bitCount_0f7a4_8 ?_
  refine ml_topI (pc := 9) (fun y2 e2 => ?_)
  have hw := hw y2 e2
  have q2 : I32 y2 := by rw [e2]; exact v1
  refine ml_istore_n (pc := 9) X rfl hl (by decide) (lst' := [(0, .int (Int32.ofInt y2))]) rfl dJ6_bitCount_0f7a4_9 (fun ls hl => ?_)
  refine ml_iload_n (pc := 10) X hl 0 rfl rfl dJ6_bitCount_0f7a4_10 ?_
  refine ml_ldcw (pc := 11) (v := 858993459) X dJ6_bitCount_0f7a4_11 tc_3_172 ?_
  refine ml_iand (pc := 14) X dJ6_bitCount_0f7a4_14 ?_
  refine ml_iload_n (pc := 15) X hl 0 rfl rfl dJ6_bitCount_0f7a4_15 ?_
  refine ml_iconst (pc := 16) X dJ6_bitCount_0f7a4_16 ?_
  refine ml_iushr (pc := 17) X dJ6_bitCount_0f7a4_17 ?_
  refine ml_ldcw (pc := 18) (v := 858993459) X dJ6_bitCount_0f7a4_18 tc_3_172 ?_
  refine ml_iand (pc := 21) X dJ6_bitCount_0f7a4_21 ?_
  obtain ⟨v3, hw⟩ := hw
  refine ml_iadd (pc := 22) X dJ6_bitCount_0f7a4_22 ?_
  refine ml_topI (pc := 23) (fun y4 e4 => ?_)
  have hw := hw y4 e4
  have q4 : I32 y4 := by rw [e4]; exact v3
  refine ml_istore_n (pc := 23) X rfl hl (by decide) (lst' := [(0, .int (Int32.ofInt y4))]) rfl dJ6_bitCount_0f7a4_23 (fun ls hl => ?_)
  refine ml_iload_n (pc := 24) X hl 0 rfl rfl dJ6_bitCount_0f7a4_24 ?_
  refine ml_iload_n (pc := 25) X hl 0 rfl rfl dJ6_bitCount_0f7a4_25 ?_
  refine ml_iconst (pc := 26) X dJ6_bitCount_0f7a4_26 ?_
  refine ml_iushr (pc := 27) X dJ6_bitCount_0f7a4_27 ?_
  obtain ⟨v5, hw⟩ := hw
  refine ml_iadd (pc := 28) X dJ6_bitCount_0f7a4_28 ?_
  refine ml_ldcw (pc := 29) (v := 252645135) X dJ6_bitCount_0f7a4_29 tc_3_173 ?_
  refine ml_iand (pc := 32) X dJ6_bitCount_0f7a4_32 ?_
  refine ml_topI (pc := 33) (fun y6 e6 => ?_)
  have hw := hw y6 e6
  have q6 : I32 y6 := by rw [e6]; exact (b_and_r _ _)
  refine ml_istore_n (pc := 33) X rfl hl (by decide) (lst' := [(0, .int (Int32.ofInt y6))]) rfl dJ6_bitCount_0f7a4_33 (fun ls hl => ?_)
  refine ml_iload_n (pc := 34) X hl 0 rfl rfl dJ6_bitCount_0f7a4_34 ?_
  refine ml_iload_n (pc := 35) X hl 0 rfl rfl dJ6_bitCount_0f7a4_35 ?_
  refine ml_bipush (pc := 36) X dJ6_bitCount_0f7a4_36 (by decide) ?_
  refine ml_iushr (pc := 38) X dJ6_bitCount_0f7a4_38 ?_
  obtain ⟨v7, hw⟩ := hw
  refine ml_iadd (pc := 39) X dJ6_bitCount_0f7a4_39 ?_
  refine ml_topI (pc := 40) (fun y8 e8 => ?_)
  have hw := hw y8 e8
  have q8 : I32 y8 := by rw [e8]; exact v7
  refine ml_istore_n (pc := 40) X rfl hl (by decide) (lst' := [(0, .int (Int32.ofInt y8))]) rfl dJ6_bitCount_0f7a4_40 (fun ls hl => ?_)
  refine ml_iload_n (pc := 41) X hl 0 rfl rfl dJ6_bitCount_0f7a4_41 ?_
  refine ml_iload_n (pc := 42) X hl 0 rfl rfl dJ6_bitCount_0f7a4_42 ?_
  refine ml_bipush (pc := 43) X dJ6_bitCount_0f7a4_43 (by decide) ?_
  refine ml_iushr (pc := 45) X dJ6_bitCount_0f7a4_45 ?_
  obtain ⟨v9, hw⟩ := hw
  refine ml_iadd (pc := 46) X dJ6_bitCount_0f7a4_46 ?_
  refine ml_topI (pc := 47) (fun y10 e10 => ?_)
  have hw := hw y10 e10
  have q10 : I32 y10 := by rw [e10]; exact v9
  refine ml_istore_n (pc := 47) X rfl hl (by decide) (lst' := [(0, .int (Int32.ofInt y10))]) rfl dJ6_bitCount_0f7a4_47 (fun ls hl => ?_)
  refine ml_iload_n (pc := 48) X hl 0 rfl rfl dJ6_bitCount_0f7a4_48 ?_
  refine ml_bipush (pc := 49) X dJ6_bitCount_0f7a4_49 (by decide) ?_
  refine ml_iand (pc := 51) X dJ6_bitCount_0f7a4_51 ?_
  exact ml_iret (pc := 52) X (b_and_r _ _) hw dJ6_bitCount_0f7a4_52
set_option maxRecDepth 100000 in
theorem c_J6_bitCount_0f7a4 (l : Launch) (base : Nat) (D : va_G) (cA : Nat → ClassId) (n : Nat) (hn : 214 ≤ n) (σ : ml_St) (x0 : Int) (h_x0 : I32 x0) (Q : Int → ml_St → Prop) (hw : f_J6_bitCount_0f7a4 σ x0 Q) : Met l yJ6_bitCount_0f7a4 (Cond.code yJ6_bitCount_0f7a4 cJ6_bitCount_0f7a4 1 (some .int) :: ml_T) rm_J6_bitCount_0f7a4 (va_Pc [.int (Int32.ofInt x0)] (ml_U base D cA n σ)) (ml_Qi I32 base D cA n Q) 0 0 (ml_A base) := by
  refine Met.ofW (cc := cJ6_bitCount_0f7a4) (maxL := 1) (ret := (some .int)) (by decide) rfl ?_
  intro p e s m args below meth c s₁ B hml hv
  obtain ⟨rfl, hP, hK, hok, hro⟩ := hv
  have X : ml_X p s m c meth _ D cA cJ6_bitCount_0f7a4 1 RJ6 (some .int) := ⟨B.exec, B.bytes, hml, findClass_of_methodNamed B.named, fun w hw => atoms_spec (ws := Cond.code yJ6_bitCount_0f7a4 cJ6_bitCount_0f7a4 1 (some .int) :: ml_T) B.pre w (List.mem_cons_of_mem _ hw), hK, B.notSynchronized, B.returns⟩
  have hl := lv_entry [.int (Int32.ofInt x0)] (n := 1) (Nat.le_of_ble_eq_true rfl)
  rw [lg_entry_eq]
  generalize (lg_sl [.int (Int32.ofInt x0)] ++ List.replicate (1 - (lg_sl [.int (Int32.ofInt x0)]).length) Slot.unset).toArray = ls at hl ⊢
  have hl : lv_has ls 1 [(0, .int (Int32.ofInt x0))] := hl
  unfold f_J6_bitCount_0f7a4 at hw
  exact u_J6_bitCount_0f7a4_0 X hn σ x0 h_x0 _ (lv_sub hl [0] rfl) hw s.heap [] hP va_S.rf hok hro
theorem dX11_openLetters_0 : decode cX11_openLetters 0 = .ok (.iload_n 1, 1) := by decide +kernel
theorem dX11_openLetters_1 : decode cX11_openLetters 1 = .ok (.iconst 1, 1) := by decide +kernel
theorem dX11_openLetters_2 : decode cX11_openLetters 2 = .ok (.if_icmp .lt 22, 3) := by decide +kernel
theorem dX11_openLetters_5 : decode cX11_openLetters 5 = .ok (.iload_n 1, 1) := by decide +kernel
theorem dX11_openLetters_6 : decode cX11_openLetters 6 = .ok (.iconst 1, 1) := by decide +kernel
theorem dX11_openLetters_7 : decode cX11_openLetters 7 = .ok (.aload_n 0, 1) := by decide +kernel
theorem dX11_openLetters_8 : decode cX11_openLetters 8 = .ok (.getfield 86, 3) := by decide +kernel
theorem dX11_openLetters_11 : decode cX11_openLetters 11 = .ok (.ishl, 1) := by decide +kernel
theorem dX11_openLetters_12 : decode cX11_openLetters 12 = .ok (.if_icmp .ge 12, 3) := by decide +kernel
theorem dX11_openLetters_15 : decode cX11_openLetters 15 = .ok (.iload_n 1, 1) := by decide +kernel
theorem dX11_openLetters_16 : decode cX11_openLetters 16 = .ok (.invokestatic 310, 3) := by decide +kernel
theorem dX11_openLetters_19 : decode cX11_openLetters 19 = .ok (.bipush 6, 2) := by decide +kernel
theorem dX11_openLetters_21 : decode cX11_openLetters 21 = .ok (.if_icmp .le 5, 3) := by decide +kernel
theorem dX11_openLetters_24 : decode cX11_openLetters 24 = .ok (.iconst 0, 1) := by decide +kernel
theorem dX11_openLetters_25 : decode cX11_openLetters 25 = .ok (.ireturn, 1) := by decide +kernel
theorem dX11_openLetters_26 : decode cX11_openLetters 26 = .ok (.iconst 0, 1) := by decide +kernel
theorem dX11_openLetters_27 : decode cX11_openLetters 27 = .ok (.istore_n 2, 1) := by decide +kernel
theorem dX11_openLetters_28 : decode cX11_openLetters 28 = .ok (.iload_n 2, 1) := by decide +kernel
theorem dX11_openLetters_29 : decode cX11_openLetters 29 = .ok (.aload_n 0, 1) := by decide +kernel
theorem dX11_openLetters_30 : decode cX11_openLetters 30 = .ok (.getfield 86, 3) := by decide +kernel
theorem dX11_openLetters_33 : decode cX11_openLetters 33 = .ok (.if_icmp .ge 27, 3) := by decide +kernel
theorem dX11_openLetters_36 : decode cX11_openLetters 36 = .ok (.iload_n 1, 1) := by decide +kernel
theorem dX11_openLetters_37 : decode cX11_openLetters 37 = .ok (.iload_n 2, 1) := by decide +kernel
theorem dX11_openLetters_38 : decode cX11_openLetters 38 = .ok (.ishr, 1) := by decide +kernel
theorem dX11_openLetters_39 : decode cX11_openLetters 39 = .ok (.iconst 1, 1) := by decide +kernel
theorem dX11_openLetters_40 : decode cX11_openLetters 40 = .ok (.iand, 1) := by decide +kernel
theorem dX11_openLetters_41 : decode cX11_openLetters 41 = .ok (.ifCond .eq 13, 3) := by decide +kernel
theorem dX11_openLetters_44 : decode cX11_openLetters 44 = .ok (.aload_n 0, 1) := by decide +kernel
theorem dX11_openLetters_45 : decode cX11_openLetters 45 = .ok (.iload_n 2, 1) := by decide +kernel
theorem dX11_openLetters_46 : decode cX11_openLetters 46 = .ok (.invokevirtual 121, 3) := by decide +kernel
theorem dX11_openLetters_49 : decode cX11_openLetters 49 = .ok (.ifCond .ne 5, 3) := by decide +kernel
theorem dX11_openLetters_52 : decode cX11_openLetters 52 = .ok (.iconst 0, 1) := by decide +kernel
theorem dX11_openLetters_53 : decode cX11_openLetters 53 = .ok (.ireturn, 1) := by decide +kernel
theorem dX11_openLetters_54 : decode cX11_openLetters 54 = .ok (.iinc 2 1, 3) := by decide +kernel
theorem dX11_openLetters_57 : decode cX11_openLetters 57 = .ok (.goto (-29), 3) := by decide +kernel
theorem dX11_openLetters_60 : decode cX11_openLetters 60 = .ok (.aload_n 0, 1) := by decide +kernel
theorem dX11_openLetters_61 : decode cX11_openLetters 61 = .ok (.getfield 47, 3) := by decide +kernel
theorem dX11_openLetters_64 : decode cX11_openLetters 64 = .ok (.iload_n 1, 1) := by decide +kernel
theorem dX11_openLetters_65 : decode cX11_openLetters 65 = .ok (.aload_n 0, 1) := by decide +kernel
theorem dX11_openLetters_66 : decode cX11_openLetters 66 = .ok (.getfield 67, 3) := by decide +kernel
theorem dX11_openLetters_69 : decode cX11_openLetters 69 = .ok (.aload_n 0, 1) := by decide +kernel
theorem dX11_openLetters_70 : decode cX11_openLetters 70 = .ok (.getfield 82, 3) := by decide +kernel
theorem dX11_openLetters_73 : decode cX11_openLetters 73 = .ok (.invokevirtual 315, 3) := by decide +kernel
theorem dX11_openLetters_76 : decode cX11_openLetters 76 = .ok (.iconst 1, 1) := by decide +kernel
theorem dX11_openLetters_77 : decode cX11_openLetters 77 = .ok (.ireturn, 1) := by decide +kernel
def f_X11_openLetters_u24 (Q : Int → ml_St → Prop) (σ : ml_St) : Prop :=
Q 0 σ
def f_X11_openLetters_u54 (Q : Int → ml_St → Prop) (K28 : ml_St → Int → Int → Prop) (σ : ml_St) (x1 : Int) (x2 : Int) : Prop :=
I32 (x2 + 1) ∧
∀ y1 : Int, y1 = x2 + 1 →
K28 σ x1 y1
def f_X11_openLetters_u28 (Q : Int → ml_St → Prop) (K52 : ml_St → Prop) (K60 : ml_St → Int → Prop) : Nat → ml_St → Int → Int → Prop
| 0, _, _, _ => False
| N + 1, σ, x1, x2 =>
∀ _ : I32 (σ 1 12),
((σ 1 12) ≤ x2 →
K60 σ x1) ∧
(¬ ((σ 1 12) ≤ x2) →
(((b_and (b_shr x1 x2) 1) : Int) = 0 →
f_X11_openLetters_u54 Q (f_X11_openLetters_u28 Q K52 K60 N) σ x1 x2) ∧
((b_and (b_shr x1 x2) 1) ≠ 0 →
f_X11_isMade σ x2 (fun r4 σ4 => ∀ _ : ml_B r4,
(r4 ≠ 0 →
f_X11_openLetters_u54 Q (f_X11_openLetters_u28 Q K52 K60 N) σ4 x1 x2) ∧
(r4 = 0 →
K52 σ4))))
def f_X11_openLetters_u52 (Q : Int → ml_St → Prop) (σ : ml_St) : Prop :=
Q 0 σ
def f_X11_openLetters_u60 (Q : Int → ml_St → Prop) (σ : ml_St) (x1 : Int) : Prop :=
∀ _ : I32 (σ 1 11),
False
def f_X11_openLetters_u0 (Q : Int → ml_St → Prop) (σ : ml_St) (x1 : Int) : Prop :=
(x1 < 1 →
f_X11_openLetters_u24 Q σ) ∧
(¬ (x1 < 1) →
∀ _ : I32 (σ 1 12),
((b_shl 1 (σ 1 12)) ≤ x1 →
f_X11_openLetters_u24 Q σ) ∧
(¬ ((b_shl 1 (σ 1 12)) ≤ x1) →
f_J6_bitCount_0f7a4 σ x1 (fun r4 σ4 => ∀ _ : I32 r4,
(r4 ≤ 6 →
∃ N1, f_X11_openLetters_u28 Q (f_X11_openLetters_u52 Q) (f_X11_openLetters_u60 Q) N1 σ4 x1 0) ∧
(¬ (r4 ≤ 6) →
f_X11_openLetters_u24 Q σ4))))
def f_X11_openLetters (σ : ml_St) (x1 : Int) (Q : Int → ml_St → Prop) : Prop := f_X11_openLetters_u0 Q σ x1
def rm_X11_openLetters : Room := { frames := 2, cells := 0, slots := 0, locals := 42 }
set_option maxRecDepth 100000 in
set_option maxHeartbeats 4000000 in
theorem u_X11_openLetters_24 {p : Program} {e : Env} {s : State} {m : MethodId} {args : Array Value} {below : List Frame} {meth : Method} {c : Code} {base : Nat} {D : va_G} {cA : Nat → ClassId} {n : Nat} {l : Launch} {Q : Int → ml_St → Prop} (X : ml_X p s m c meth args D cA cX11_openLetters 3 RX11 (some .boolean)) (hn : 214 ≤ n) (σ : ml_St) (ls : Array Slot) (hl : lv_has ls 3 []) (hw : f_X11_openLetters_u24 Q σ) : ml_V p l e rm_X11_openLetters s m args below meth c (MQ below (ml_Qi ml_B base D cA n Q) args s 0 0 (ml_A base)) base D cA 0 0 n n σ (F0 m 24 ls []) := by
  unfold f_X11_openLetters_u24 at hw
  refine ml_iconst (pc := 24) X dX11_openLetters_24 ?_
  exact ml_zret (pc := 25) X ⟨by decide, by decide⟩ hw dX11_openLetters_25
set_option maxRecDepth 100000 in
set_option maxHeartbeats 4000000 in
theorem u_X11_openLetters_54 {p : Program} {e : Env} {s : State} {m : MethodId} {args : Array Value} {below : List Frame} {meth : Method} {c : Code} {base : Nat} {D : va_G} {cA : Nat → ClassId} {n : Nat} {l : Launch} {Q : Int → ml_St → Prop} {K28 : ml_St → Int → Int → Prop} (X : ml_X p s m c meth args D cA cX11_openLetters 3 RX11 (some .boolean)) (hn : 214 ≤ n) (hK28 : ∀ (σ : ml_St) (x1 : Int) (x2 : Int) (h_x1 : I32 x1) (h_x2 : I32 x2) (ls : Array Slot), lv_has ls 3 [(0, .ref (base + (1 : Int).toNat)), (1, .int (Int32.ofInt x1)), (2, .int (Int32.ofInt x2))] → K28 σ x1 x2 → ml_V p l e rm_X11_openLetters s m args below meth c (MQ below (ml_Qi ml_B base D cA n Q) args s 0 0 (ml_A base)) base D cA 0 0 n n σ (F0 m 28 ls [])) (σ : ml_St) (x1 : Int) (x2 : Int) (h_x1 : I32 x1) (h_x2 : I32 x2) (ls : Array Slot) (hl : lv_has ls 3 [(0, .ref (base + (1 : Int).toNat)), (1, .int (Int32.ofInt x1)), (2, .int (Int32.ofInt x2))]) (hw : f_X11_openLetters_u54 Q K28 σ x1 x2) : ml_V p l e rm_X11_openLetters s m args below meth c (MQ below (ml_Qi ml_B base D cA n Q) args s 0 0 (ml_A base)) base D cA 0 0 n n σ (F0 m 54 ls []) := by
  unfold f_X11_openLetters_u54 at hw
  obtain ⟨v1, hw⟩ := hw
  obtain ⟨y1, e1⟩ : ∃ y : Int, y = x2 + 1 := ⟨_, rfl⟩
  have hw := hw y1 e1
  rw [← e1] at v1
  refine ml_iinc (pc := 54) X e1 hl 2 rfl (by decide) (lst' := [(2, .int (Int32.ofInt y1)), (0, .ref (base + (1 : Int).toNat)), (1, .int (Int32.ofInt x1))]) rfl dX11_openLetters_54 (fun ls hl => ?_)
  refine ml_goto (pc := 57) (tgt := 28) X dX11_openLetters_57 (by decide) ?_
  exact hK28 σ x1 y1 h_x1 v1 _ (lv_sub hl [1, 2, 0] rfl) hw
set_option maxRecDepth 100000 in
set_option maxHeartbeats 4000000 in
theorem u_X11_openLetters_28 {p : Program} {e : Env} {s : State} {m : MethodId} {args : Array Value} {below : List Frame} {meth : Method} {c : Code} {base : Nat} {D : va_G} {cA : Nat → ClassId} {n : Nat} {l : Launch} {Q : Int → ml_St → Prop} {K52 : ml_St → Prop} {K60 : ml_St → Int → Prop} (X : ml_X p s m c meth args D cA cX11_openLetters 3 RX11 (some .boolean)) (hn : 214 ≤ n) (hK52 : ∀ (σ : ml_St) (ls : Array Slot), lv_has ls 3 [] → K52 σ → ml_V p l e rm_X11_openLetters s m args below meth c (MQ below (ml_Qi ml_B base D cA n Q) args s 0 0 (ml_A base)) base D cA 0 0 n n σ (F0 m 52 ls [])) (hK60 : ∀ (σ : ml_St) (x1 : Int) (h_x1 : I32 x1) (ls : Array Slot), lv_has ls 3 [(0, .ref (base + (1 : Int).toNat)), (1, .int (Int32.ofInt x1))] → K60 σ x1 → ml_V p l e rm_X11_openLetters s m args below meth c (MQ below (ml_Qi ml_B base D cA n Q) args s 0 0 (ml_A base)) base D cA 0 0 n n σ (F0 m 60 ls [])) : ∀ (N : Nat) (σ : ml_St) (x1 : Int) (x2 : Int) (h_x1 : I32 x1) (h_x2 : I32 x2) (ls : Array Slot), lv_has ls 3 [(0, .ref (base + (1 : Int).toNat)), (1, .int (Int32.ofInt x1)), (2, .int (Int32.ofInt x2))] → f_X11_openLetters_u28 Q K52 K60 N σ x1 x2 → ml_V p l e rm_X11_openLetters s m args below meth c (MQ below (ml_Qi ml_B base D cA n Q) args s 0 0 (ml_A base)) base D cA 0 0 n n σ (F0 m 28 ls []) := by
  intro N
  induction N with
  | zero => intro σ x1 x2 h_x1 h_x2 ls hl hw; exact False.elim hw
  | succ N ih =>
    intro σ x1 x2 h_x1 h_x2 ls hl hw
    unfold f_X11_openLetters_u28 at hw
    refine ml_iload_n (pc := 28) X hl 2 rfl rfl dX11_openLetters_28 ?_
    refine ml_aload_n (pc := 29) X hl 0 rfl rfl dX11_openLetters_29 ?_
    refine gf_X11_86 (pc := 30) X (ml_c1 hn) dX11_openLetters_30 (fun r1 => ?_)
    have hw := hw r1
    refine ml_icmp_ge (pc := 33) (tgt := 60) X h_x2 r1 dX11_openLetters_33 (by decide) (fun c2 => ?_) (fun c2 => ?_)
    · have hw := hw.1 c2
      exact hK60 σ x1 h_x1 _ (lv_sub hl [0, 1] rfl) hw
    · have hw := hw.2 c2
      refine ml_iload_n (pc := 36) X hl 1 rfl rfl dX11_openLetters_36 ?_
      refine ml_iload_n (pc := 37) X hl 2 rfl rfl dX11_openLetters_37 ?_
      refine ml_ishr (pc := 38) X dX11_openLetters_38 ?_
      refine ml_iconst (pc := 39) X dX11_openLetters_39 ?_
      refine ml_iand (pc := 40) X dX11_openLetters_40 ?_
      refine ml_if_eq (pc := 41) (tgt := 54) X (b_and_r _ _) dX11_openLetters_41 (by decide) (fun c3 => ?_) (fun c3 => ?_)
      · have hw := hw.1 c3
        exact u_X11_openLetters_54 X hn ih σ x1 x2 h_x1 h_x2 _ (lv_sub hl [0, 1, 2] rfl) hw
      · have hw := hw.2 c3
        refine ml_aload_n (pc := 44) X hl 0 rfl rfl dX11_openLetters_44 ?_
        refine ml_iload_n (pc := 45) X hl 2 rfl rfl dX11_openLetters_45 ?_
        refine ml_callzV (pc := 46) (rest := []) X [.int (Int32.ofInt x2)] (by decide) rfl (ml_c1 hn) (c_X11_isMade l base D cA n hn σ x2 h_x2 _ hw) cv_X11_121 ⟨rfl, rfl⟩ ⟨by decide, by decide⟩ rfl rfl hl (Nat.le_of_ble_eq_true rfl) ⟨Nat.zero_le _, Nat.zero_le _⟩ dX11_openLetters_46 (fun r4 σ4 t4 hw => ?_)
        have hw := hw t4
        refine ml_if_ne (pc := 49) (tgt := 54) X t4.i dX11_openLetters_49 (by decide) (fun c5 => ?_) (fun c5 => ?_)
        · have hw := hw.1 c5
          exact u_X11_openLetters_54 X hn ih σ4 x1 x2 h_x1 h_x2 _ (lv_sub hl [0, 1, 2] rfl) hw
        · have hw := hw.2 c5
          exact hK52 σ4   _ (lv_sub hl [] rfl) hw
set_option maxRecDepth 100000 in
set_option maxHeartbeats 4000000 in
theorem u_X11_openLetters_52 {p : Program} {e : Env} {s : State} {m : MethodId} {args : Array Value} {below : List Frame} {meth : Method} {c : Code} {base : Nat} {D : va_G} {cA : Nat → ClassId} {n : Nat} {l : Launch} {Q : Int → ml_St → Prop} (X : ml_X p s m c meth args D cA cX11_openLetters 3 RX11 (some .boolean)) (hn : 214 ≤ n) (σ : ml_St) (ls : Array Slot) (hl : lv_has ls 3 []) (hw : f_X11_openLetters_u52 Q σ) : ml_V p l e rm_X11_openLetters s m args below meth c (MQ below (ml_Qi ml_B base D cA n Q) args s 0 0 (ml_A base)) base D cA 0 0 n n σ (F0 m 52 ls []) := by
  unfold f_X11_openLetters_u52 at hw
  refine ml_iconst (pc := 52) X dX11_openLetters_52 ?_
  exact ml_zret (pc := 53) X ⟨by decide, by decide⟩ hw dX11_openLetters_53
set_option maxRecDepth 100000 in
set_option maxHeartbeats 4000000 in
theorem u_X11_openLetters_60 {p : Program} {e : Env} {s : State} {m : MethodId} {args : Array Value} {below : List Frame} {meth : Method} {c : Code} {base : Nat} {D : va_G} {cA : Nat → ClassId} {n : Nat} {l : Launch} {Q : Int → ml_St → Prop} (X : ml_X p s m c meth args D cA cX11_openLetters 3 RX11 (some .boolean)) (hn : 214 ≤ n) (σ : ml_St) (x1 : Int) (h_x1 : I32 x1) (ls : Array Slot) (hl : lv_has ls 3 [(0, .ref (base + (1 : Int).toNat)), (1, .int (Int32.ofInt x1))]) (hw : f_X11_openLetters_u60 Q σ x1) : ml_V p l e rm_X11_openLetters s m args below meth c (MQ below (ml_Qi ml_B base D cA n Q) args s 0 0 (ml_A base)) base D cA 0 0 n n σ (F0 m 60 ls []) := by
  unfold f_X11_openLetters_u60 at hw
  refine ml_aload_n (pc := 60) X hl 0 rfl rfl dX11_openLetters_60 ?_
  refine gf_X11_47 (pc := 61) X (ml_c1 hn) dX11_openLetters_61 ?_
  refine ml_iload_n (pc := 64) X hl 1 rfl rfl dX11_openLetters_64 ?_
  refine ml_aload_n (pc := 65) X hl 0 rfl rfl dX11_openLetters_65 ?_
  refine gf_X11_67 (pc := 66) X (ml_c1 hn) dX11_openLetters_66 ?_
  refine ml_aload_n (pc := 69) X hl 0 rfl rfl dX11_openLetters_69 ?_
  refine gf_X11_82 (pc := 70) X (ml_c1 hn) dX11_openLetters_70 (fun r1 => ?_)
  have hw := hw r1
  exact hw.elim
set_option maxRecDepth 100000 in
set_option maxHeartbeats 4000000 in
theorem u_X11_openLetters_0 {p : Program} {e : Env} {s : State} {m : MethodId} {args : Array Value} {below : List Frame} {meth : Method} {c : Code} {base : Nat} {D : va_G} {cA : Nat → ClassId} {n : Nat} {l : Launch} {Q : Int → ml_St → Prop} (X : ml_X p s m c meth args D cA cX11_openLetters 3 RX11 (some .boolean)) (hn : 214 ≤ n) (σ : ml_St) (x1 : Int) (h_x1 : I32 x1) (ls : Array Slot) (hl : lv_has ls 3 [(0, .ref (base + (1 : Int).toNat)), (1, .int (Int32.ofInt x1))]) (hw : f_X11_openLetters_u0 Q σ x1) : ml_V p l e rm_X11_openLetters s m args below meth c (MQ below (ml_Qi ml_B base D cA n Q) args s 0 0 (ml_A base)) base D cA 0 0 n n σ (F0 m 0 ls []) := by
  unfold f_X11_openLetters_u0 at hw
  refine ml_iload_n (pc := 0) X hl 1 rfl rfl dX11_openLetters_0 ?_
  refine ml_iconst (pc := 1) X dX11_openLetters_1 ?_
  refine ml_icmp_lt (pc := 2) (tgt := 24) X h_x1 ⟨by decide, by decide⟩ dX11_openLetters_2 (by decide) (fun c1 => ?_) (fun c1 => ?_)
  · have hw := hw.1 c1
    exact u_X11_openLetters_24 X hn σ   _ (lv_sub hl [] rfl) hw
  · have hw := hw.2 c1
    refine ml_iload_n (pc := 5) X hl 1 rfl rfl dX11_openLetters_5 ?_
    refine ml_iconst (pc := 6) X dX11_openLetters_6 ?_
    refine ml_aload_n (pc := 7) X hl 0 rfl rfl dX11_openLetters_7 ?_
    refine gf_X11_86 (pc := 8) X (ml_c1 hn) dX11_openLetters_8 (fun r2 => ?_)
    have hw := hw r2
    refine ml_ishl (pc := 11) X dX11_openLetters_11 ?_
    refine ml_icmp_ge (pc := 12) (tgt := 24) X h_x1 (b_shl_r _ _) dX11_openLetters_12 (by decide) (fun c3 => ?_) (fun c3 => ?_)
    · have hw := hw.1 c3
      exact u_X11_openLetters_24 X hn σ   _ (lv_sub hl [] rfl) hw
    · have hw := hw.2 c3
      refine ml_iload_n (pc := 15) X hl 1 rfl rfl dX11_openLetters_15 ?_
      refine ml_calliS (pc := 16) (rest := []) X [.int (Int32.ofInt x1)] (c_J6_bitCount_0f7a4 l base D cA n hn σ x1 h_x1 _ hw) cv_X11_310 ⟨rfl, rfl⟩ ⟨by decide, by decide⟩ rfl rfl hl (Nat.le_of_ble_eq_true rfl) ⟨Nat.zero_le _, Nat.zero_le _⟩ dX11_openLetters_16 (fun r4 σ4 t4 hw => ?_)
      have hw := hw t4
      refine ml_bipush (pc := 19) X dX11_openLetters_19 (by decide) ?_
      refine ml_icmp_le (pc := 21) (tgt := 26) X t4 ⟨by decide, by decide⟩ dX11_openLetters_21 (by decide) (fun c5 => ?_) (fun c5 => ?_)
      · have hw := hw.1 c5
        refine ml_iconst (pc := 26) X dX11_openLetters_26 ?_
        refine ml_istore_n (pc := 27) X rfl hl (by decide) (lst' := [(2, .int (Int32.ofInt 0)), (0, .ref (base + (1 : Int).toNat)), (1, .int (Int32.ofInt x1))]) rfl dX11_openLetters_27 (fun ls hl => ?_)
        obtain ⟨N0, hw⟩ := hw
        exact u_X11_openLetters_28 X hn (fun σ   ls hl hw => u_X11_openLetters_52 X hn σ   ls hl hw) (fun σ x1 h_x1 ls hl hw => u_X11_openLetters_60 X hn σ x1 h_x1 ls hl hw) N0 σ4 x1 0 h_x1 ⟨by decide, by decide⟩ _ (lv_sub hl [1, 2, 0] rfl) hw
      · have hw := hw.2 c5
        exact u_X11_openLetters_24 X hn σ4   _ (lv_sub hl [] rfl) hw
set_option maxRecDepth 100000 in
theorem c_X11_openLetters (l : Launch) (base : Nat) (D : va_G) (cA : Nat → ClassId) (n : Nat) (hn : 214 ≤ n) (σ : ml_St) (x1 : Int) (h_x1 : I32 x1) (Q : Int → ml_St → Prop) (hw : f_X11_openLetters σ x1 Q) : Met l yX11_openLetters (Cond.code yX11_openLetters cX11_openLetters 3 (some .boolean) :: ml_T) rm_X11_openLetters (va_Pc [.ref (base + (1 : Int).toNat), .int (Int32.ofInt x1)] (ml_U base D cA n σ)) (ml_Qi ml_B base D cA n Q) 0 0 (ml_A base) := by
  refine Met.ofW (cc := cX11_openLetters) (maxL := 3) (ret := (some .boolean)) (by decide) rfl ?_
  intro p e s m args below meth c s₁ B hml hv
  obtain ⟨rfl, hP, hK, hok, hro⟩ := hv
  have X : ml_X p s m c meth _ D cA cX11_openLetters 3 RX11 (some .boolean) := ⟨B.exec, B.bytes, hml, findClass_of_methodNamed B.named, fun w hw => atoms_spec (ws := Cond.code yX11_openLetters cX11_openLetters 3 (some .boolean) :: ml_T) B.pre w (List.mem_cons_of_mem _ hw), hK, B.notSynchronized, B.returns⟩
  have hl := lv_entry [.ref (base + (1 : Int).toNat), .int (Int32.ofInt x1)] (n := 3) (Nat.le_of_ble_eq_true rfl)
  rw [lg_entry_eq]
  generalize (lg_sl [.ref (base + (1 : Int).toNat), .int (Int32.ofInt x1)] ++ List.replicate (3 - (lg_sl [.ref (base + (1 : Int).toNat), .int (Int32.ofInt x1)]).length) Slot.unset).toArray = ls at hl ⊢
  have hl : lv_has ls 3 [(0, .ref (base + (1 : Int).toNat)), (1, .int (Int32.ofInt x1))] := hl
  unfold f_X11_openLetters at hw
  exact u_X11_openLetters_0 X hn σ x1 h_x1 _ (lv_sub hl [0, 1] rfl) hw s.heap [] hP va_S.rf hok hro
theorem dX11_many_0 : decode cX11_many 0 = .ok (.iload_n 2, 1) := by decide +kernel
theorem dX11_many_1 : decode cX11_many 1 = .ok (.iconst 1, 1) := by decide +kernel
theorem dX11_many_2 : decode cX11_many 2 = .ok (.if_icmp .lt 27, 3) := by decide +kernel
theorem dX11_many_5 : decode cX11_many 5 = .ok (.iload_n 2, 1) := by decide +kernel
theorem dX11_many_6 : decode cX11_many 6 = .ok (.sipush 1000, 3) := by decide +kernel
theorem dX11_many_9 : decode cX11_many 9 = .ok (.if_icmp .gt 20, 3) := by decide +kernel
theorem dX11_many_12 : decode cX11_many 12 = .ok (.iload_n 3, 1) := by decide +kernel
theorem dX11_many_13 : decode cX11_many 13 = .ok (.ifCond .lt 16, 3) := by decide +kernel
theorem dX11_many_16 : decode cX11_many 16 = .ok (.iload_n 3, 1) := by decide +kernel
theorem dX11_many_17 : decode cX11_many 17 = .ok (.iconst 3, 1) := by decide +kernel
theorem dX11_many_18 : decode cX11_many 18 = .ok (.if_icmp .gt 11, 3) := by decide +kernel
theorem dX11_many_21 : decode cX11_many 21 = .ok (.aload_n 0, 1) := by decide +kernel
theorem dX11_many_22 : decode cX11_many 22 = .ok (.iload_n 1, 1) := by decide +kernel
theorem dX11_many_23 : decode cX11_many 23 = .ok (.invokevirtual 219, 3) := by decide +kernel
theorem dX11_many_26 : decode cX11_many 26 = .ok (.ifCond .ne 5, 3) := by decide +kernel
theorem dX11_many_29 : decode cX11_many 29 = .ok (.iconst (-1), 1) := by decide +kernel
theorem dX11_many_30 : decode cX11_many 30 = .ok (.ireturn, 1) := by decide +kernel
theorem dX11_many_31 : decode cX11_many 31 = .ok (.aload_n 0, 1) := by decide +kernel
theorem dX11_many_32 : decode cX11_many 32 = .ok (.getfield 47, 3) := by decide +kernel
theorem dX11_many_35 : decode cX11_many 35 = .ok (.aload_n 0, 1) := by decide +kernel
theorem dX11_many_36 : decode cX11_many 36 = .ok (.getfield 19, 3) := by decide +kernel
theorem dX11_many_39 : decode cX11_many 39 = .ok (.aload_n 0, 1) := by decide +kernel
theorem dX11_many_40 : decode cX11_many 40 = .ok (.getfield 82, 3) := by decide +kernel
theorem dX11_many_43 : decode cX11_many 43 = .ok (.invokevirtual 222, 3) := by decide +kernel
theorem dX11_many_46 : decode cX11_many 46 = .ok (.aload_n 0, 1) := by decide +kernel
theorem dX11_many_47 : decode cX11_many 47 = .ok (.getfield 47, 3) := by decide +kernel
theorem dX11_many_50 : decode cX11_many 50 = .ok (.iload_n 2, 1) := by decide +kernel
theorem dX11_many_51 : decode cX11_many 51 = .ok (.iload_n 3, 1) := by decide +kernel
theorem dX11_many_52 : decode cX11_many 52 = .ok (.invokevirtual 226, 3) := by decide +kernel
theorem dX11_many_55 : decode cX11_many 55 = .ok (.ireturn, 1) := by decide +kernel
def f_X11_many_u29 (Q : Int → ml_St → Prop) (σ : ml_St) : Prop :=
Q (-1) σ
def f_X11_many_u0 (Q : Int → ml_St → Prop) (σ : ml_St) (x1 : Int) (x2 : Int) (x3 : Int) : Prop :=
(x2 < 1 →
f_X11_many_u29 Q σ) ∧
(¬ (x2 < 1) →
(1000 < x2 →
f_X11_many_u29 Q σ) ∧
(¬ (1000 < x2) →
(x3 < 0 →
f_X11_many_u29 Q σ) ∧
(¬ (x3 < 0) →
(3 < x3 →
f_X11_many_u29 Q σ) ∧
(¬ (3 < x3) →
f_X11_openLetters σ x1 (fun r5 σ5 => ∀ _ : ml_B r5,
(r5 ≠ 0 →
∀ _ : I32 (σ5 1 11),
False) ∧
(r5 = 0 →
f_X11_many_u29 Q σ5))))))
def f_X11_many (σ : ml_St) (x1 : Int) (x2 : Int) (x3 : Int) (Q : Int → ml_St → Prop) : Prop := f_X11_many_u0 Q σ x1 x2 x3
def rm_X11_many : Room := { frames := 3, cells := 0, slots := 0, locals := 64 }
set_option maxRecDepth 100000 in
set_option maxHeartbeats 4000000 in
theorem u_X11_many_29 {p : Program} {e : Env} {s : State} {m : MethodId} {args : Array Value} {below : List Frame} {meth : Method} {c : Code} {base : Nat} {D : va_G} {cA : Nat → ClassId} {n : Nat} {l : Launch} {Q : Int → ml_St → Prop} (X : ml_X p s m c meth args D cA cX11_many 4 RX11 (some .int)) (hn : 214 ≤ n) (σ : ml_St) (ls : Array Slot) (hl : lv_has ls 4 []) (hw : f_X11_many_u29 Q σ) : ml_V p l e rm_X11_many s m args below meth c (MQ below (ml_Qi I32 base D cA n Q) args s 0 0 (ml_A base)) base D cA 0 0 n n σ (F0 m 29 ls []) := by
  unfold f_X11_many_u29 at hw
  refine ml_iconst (pc := 29) X dX11_many_29 ?_
  exact ml_iret (pc := 30) X ⟨by decide, by decide⟩ hw dX11_many_30
set_option maxRecDepth 100000 in
set_option maxHeartbeats 4000000 in
theorem u_X11_many_0 {p : Program} {e : Env} {s : State} {m : MethodId} {args : Array Value} {below : List Frame} {meth : Method} {c : Code} {base : Nat} {D : va_G} {cA : Nat → ClassId} {n : Nat} {l : Launch} {Q : Int → ml_St → Prop} (X : ml_X p s m c meth args D cA cX11_many 4 RX11 (some .int)) (hn : 214 ≤ n) (σ : ml_St) (x1 : Int) (x2 : Int) (x3 : Int) (h_x1 : I32 x1) (h_x2 : I32 x2) (h_x3 : I32 x3) (ls : Array Slot) (hl : lv_has ls 4 [(0, .ref (base + (1 : Int).toNat)), (1, .int (Int32.ofInt x1)), (2, .int (Int32.ofInt x2)), (3, .int (Int32.ofInt x3))]) (hw : f_X11_many_u0 Q σ x1 x2 x3) : ml_V p l e rm_X11_many s m args below meth c (MQ below (ml_Qi I32 base D cA n Q) args s 0 0 (ml_A base)) base D cA 0 0 n n σ (F0 m 0 ls []) := by
  unfold f_X11_many_u0 at hw
  refine ml_iload_n (pc := 0) X hl 2 rfl rfl dX11_many_0 ?_
  refine ml_iconst (pc := 1) X dX11_many_1 ?_
  refine ml_icmp_lt (pc := 2) (tgt := 29) X h_x2 ⟨by decide, by decide⟩ dX11_many_2 (by decide) (fun c1 => ?_) (fun c1 => ?_)
  · have hw := hw.1 c1
    exact u_X11_many_29 X hn σ   _ (lv_sub hl [] rfl) hw
  · have hw := hw.2 c1
    refine ml_iload_n (pc := 5) X hl 2 rfl rfl dX11_many_5 ?_
    refine ml_sipush (pc := 6) X dX11_many_6 (by decide) ?_
    refine ml_icmp_gt (pc := 9) (tgt := 29) X h_x2 ⟨by decide, by decide⟩ dX11_many_9 (by decide) (fun c2 => ?_) (fun c2 => ?_)
    · have hw := hw.1 c2
      exact u_X11_many_29 X hn σ   _ (lv_sub hl [] rfl) hw
    · have hw := hw.2 c2
      refine ml_iload_n (pc := 12) X hl 3 rfl rfl dX11_many_12 ?_
      refine ml_if_lt (pc := 13) (tgt := 29) X h_x3 dX11_many_13 (by decide) (fun c3 => ?_) (fun c3 => ?_)
      · have hw := hw.1 c3
        exact u_X11_many_29 X hn σ   _ (lv_sub hl [] rfl) hw
      · have hw := hw.2 c3
        refine ml_iload_n (pc := 16) X hl 3 rfl rfl dX11_many_16 ?_
        refine ml_iconst (pc := 17) X dX11_many_17 ?_
        refine ml_icmp_gt (pc := 18) (tgt := 29) X h_x3 ⟨by decide, by decide⟩ dX11_many_18 (by decide) (fun c4 => ?_) (fun c4 => ?_)
        · have hw := hw.1 c4
          exact u_X11_many_29 X hn σ   _ (lv_sub hl [] rfl) hw
        · have hw := hw.2 c4
          refine ml_aload_n (pc := 21) X hl 0 rfl rfl dX11_many_21 ?_
          refine ml_iload_n (pc := 22) X hl 1 rfl rfl dX11_many_22 ?_
          refine ml_callzV (pc := 23) (rest := []) X [.int (Int32.ofInt x1)] (by decide) rfl (ml_c1 hn) (c_X11_openLetters l base D cA n hn σ x1 h_x1 _ hw) cv_X11_219 ⟨rfl, rfl⟩ ⟨by decide, by decide⟩ rfl rfl hl (Nat.le_of_ble_eq_true rfl) ⟨Nat.zero_le _, Nat.zero_le _⟩ dX11_many_23 (fun r5 σ5 t5 hw => ?_)
          have hw := hw t5
          refine ml_if_ne (pc := 26) (tgt := 31) X t5.i dX11_many_26 (by decide) (fun c6 => ?_) (fun c6 => ?_)
          · have hw := hw.1 c6
            refine ml_aload_n (pc := 31) X hl 0 rfl rfl dX11_many_31 ?_
            refine gf_X11_47 (pc := 32) X (ml_c1 hn) dX11_many_32 ?_
            refine ml_aload_n (pc := 35) X hl 0 rfl rfl dX11_many_35 ?_
            refine gf_X11_19 (pc := 36) X (ml_c1 hn) dX11_many_36 ?_
            refine ml_aload_n (pc := 39) X hl 0 rfl rfl dX11_many_39 ?_
            refine gf_X11_82 (pc := 40) X (ml_c1 hn) dX11_many_40 (fun r7 => ?_)
            have hw := hw r7
            exact hw.elim
          · have hw := hw.2 c6
            exact u_X11_many_29 X hn σ5   _ (lv_sub hl [] rfl) hw
set_option maxRecDepth 100000 in
theorem c_X11_many (l : Launch) (base : Nat) (D : va_G) (cA : Nat → ClassId) (n : Nat) (hn : 214 ≤ n) (σ : ml_St) (x1 : Int) (x2 : Int) (x3 : Int) (h_x1 : I32 x1) (h_x2 : I32 x2) (h_x3 : I32 x3) (Q : Int → ml_St → Prop) (hw : f_X11_many σ x1 x2 x3 Q) : Met l yX11_many (Cond.code yX11_many cX11_many 4 (some .int) :: ml_T) rm_X11_many (va_Pc [.ref (base + (1 : Int).toNat), .int (Int32.ofInt x1), .int (Int32.ofInt x2), .int (Int32.ofInt x3)] (ml_U base D cA n σ)) (ml_Qi I32 base D cA n Q) 0 0 (ml_A base) := by
  refine Met.ofW (cc := cX11_many) (maxL := 4) (ret := (some .int)) (by decide) rfl ?_
  intro p e s m args below meth c s₁ B hml hv
  obtain ⟨rfl, hP, hK, hok, hro⟩ := hv
  have X : ml_X p s m c meth _ D cA cX11_many 4 RX11 (some .int) := ⟨B.exec, B.bytes, hml, findClass_of_methodNamed B.named, fun w hw => atoms_spec (ws := Cond.code yX11_many cX11_many 4 (some .int) :: ml_T) B.pre w (List.mem_cons_of_mem _ hw), hK, B.notSynchronized, B.returns⟩
  have hl := lv_entry [.ref (base + (1 : Int).toNat), .int (Int32.ofInt x1), .int (Int32.ofInt x2), .int (Int32.ofInt x3)] (n := 4) (Nat.le_of_ble_eq_true rfl)
  rw [lg_entry_eq]
  generalize (lg_sl [.ref (base + (1 : Int).toNat), .int (Int32.ofInt x1), .int (Int32.ofInt x2), .int (Int32.ofInt x3)] ++ List.replicate (4 - (lg_sl [.ref (base + (1 : Int).toNat), .int (Int32.ofInt x1), .int (Int32.ofInt x2), .int (Int32.ofInt x3)]).length) Slot.unset).toArray = ls at hl ⊢
  have hl : lv_has ls 4 [(0, .ref (base + (1 : Int).toNat)), (1, .int (Int32.ofInt x1)), (2, .int (Int32.ofInt x2)), (3, .int (Int32.ofInt x3))] := hl
  unfold f_X11_many at hw
  exact u_X11_many_0 X hn σ x1 x2 x3 h_x1 h_x2 h_x3 _ (lv_sub hl [0, 1, 2, 3] rfl) hw s.heap [] hP va_S.rf hok hro
theorem dX11_made_0 : decode cX11_made 0 = .ok (.aload_n 0, 1) := by decide +kernel
theorem dX11_made_1 : decode cX11_made 1 = .ok (.iload_n 1, 1) := by decide +kernel
theorem dX11_made_2 : decode cX11_made 2 = .ok (.invokevirtual 219, 3) := by decide +kernel
theorem dX11_made_5 : decode cX11_made 5 = .ok (.ifCond .eq 15, 3) := by decide +kernel
theorem dX11_made_8 : decode cX11_made 8 = .ok (.aload_n 0, 1) := by decide +kernel
theorem dX11_made_9 : decode cX11_made 9 = .ok (.getfield 47, 3) := by decide +kernel
theorem dX11_made_12 : decode cX11_made 12 = .ok (.getfield 228, 3) := by decide +kernel
theorem dX11_made_15 : decode cX11_made 15 = .ok (.iconst 1, 1) := by decide +kernel
theorem dX11_made_16 : decode cX11_made 16 = .ok (.isub, 1) := by decide +kernel
theorem dX11_made_17 : decode cX11_made 17 = .ok (.goto 4, 3) := by decide +kernel
theorem dX11_made_20 : decode cX11_made 20 = .ok (.iconst (-1), 1) := by decide +kernel
theorem dX11_made_21 : decode cX11_made 21 = .ok (.ireturn, 1) := by decide +kernel
def f_X11_made_u21 (Q : Int → ml_St → Prop) (σ : ml_St) (s0 : Int) : Prop :=
Q s0 σ
def f_X11_made_u0 (Q : Int → ml_St → Prop) (σ : ml_St) (x1 : Int) : Prop :=
f_X11_openLetters σ x1 (fun r1 σ1 => ∀ _ : ml_B r1,
(r1 = 0 →
f_X11_made_u21 Q σ1 (-1)) ∧
(r1 ≠ 0 →
∀ _ : I32 (σ1 55 2),
I32 ((σ1 55 2) - 1) ∧
f_X11_made_u21 Q σ1 ((σ1 55 2) - 1)))
def f_X11_made (σ : ml_St) (x1 : Int) (Q : Int → ml_St → Prop) : Prop := f_X11_made_u0 Q σ x1
def rm_X11_made : Room := { frames := 3, cells := 0, slots := 0, locals := 64 }
set_option maxRecDepth 100000 in
set_option maxHeartbeats 4000000 in
theorem u_X11_made_21 {p : Program} {e : Env} {s : State} {m : MethodId} {args : Array Value} {below : List Frame} {meth : Method} {c : Code} {base : Nat} {D : va_G} {cA : Nat → ClassId} {n : Nat} {l : Launch} {Q : Int → ml_St → Prop} (X : ml_X p s m c meth args D cA cX11_made 2 RX11 (some .int)) (hn : 214 ≤ n) (σ : ml_St) (s0 : Int) (h_s0 : I32 s0) (ls : Array Slot) (hl : lv_has ls 2 []) (hw : f_X11_made_u21 Q σ s0) : ml_V p l e rm_X11_made s m args below meth c (MQ below (ml_Qi I32 base D cA n Q) args s 0 0 (ml_A base)) base D cA 0 0 n n σ (F0 m 21 ls [.int (Int32.ofInt s0)]) := by
  unfold f_X11_made_u21 at hw
  exact ml_iret (pc := 21) X h_s0 hw dX11_made_21
set_option maxRecDepth 100000 in
set_option maxHeartbeats 4000000 in
theorem u_X11_made_0 {p : Program} {e : Env} {s : State} {m : MethodId} {args : Array Value} {below : List Frame} {meth : Method} {c : Code} {base : Nat} {D : va_G} {cA : Nat → ClassId} {n : Nat} {l : Launch} {Q : Int → ml_St → Prop} (X : ml_X p s m c meth args D cA cX11_made 2 RX11 (some .int)) (hn : 214 ≤ n) (σ : ml_St) (x1 : Int) (h_x1 : I32 x1) (ls : Array Slot) (hl : lv_has ls 2 [(0, .ref (base + (1 : Int).toNat)), (1, .int (Int32.ofInt x1))]) (hw : f_X11_made_u0 Q σ x1) : ml_V p l e rm_X11_made s m args below meth c (MQ below (ml_Qi I32 base D cA n Q) args s 0 0 (ml_A base)) base D cA 0 0 n n σ (F0 m 0 ls []) := by
  unfold f_X11_made_u0 at hw
  refine ml_aload_n (pc := 0) X hl 0 rfl rfl dX11_made_0 ?_
  refine ml_iload_n (pc := 1) X hl 1 rfl rfl dX11_made_1 ?_
  refine ml_callzV (pc := 2) (rest := []) X [.int (Int32.ofInt x1)] (by decide) rfl (ml_c1 hn) (c_X11_openLetters l base D cA n hn σ x1 h_x1 _ hw) cv_X11_219 ⟨rfl, rfl⟩ ⟨by decide, by decide⟩ rfl rfl hl (Nat.le_of_ble_eq_true rfl) ⟨Nat.zero_le _, Nat.zero_le _⟩ dX11_made_2 (fun r1 σ1 t1 hw => ?_)
  have hw := hw t1
  refine ml_if_eq (pc := 5) (tgt := 20) X t1.i dX11_made_5 (by decide) (fun c2 => ?_) (fun c2 => ?_)
  · have hw := hw.1 c2
    refine ml_iconst (pc := 20) X dX11_made_20 ?_
    exact u_X11_made_21 X hn σ1 (-1) ⟨by decide, by decide⟩ _ (lv_sub hl [] rfl) hw
  · have hw := hw.2 c2
    refine ml_aload_n (pc := 8) X hl 0 rfl rfl dX11_made_8 ?_
    refine gf_X11_47 (pc := 9) X (ml_c1 hn) dX11_made_9 ?_
    refine gf_X11_228 (pc := 12) X (ml_c55 hn) dX11_made_12 (fun r3 => ?_)
    have hw := hw r3
    refine ml_iconst (pc := 15) X dX11_made_15 ?_
    obtain ⟨v4, hw⟩ := hw
    refine ml_isub (pc := 16) X dX11_made_16 ?_
    refine ml_goto (pc := 17) (tgt := 21) X dX11_made_17 (by decide) ?_
    exact u_X11_made_21 X hn σ1 ((σ1 55 2) - 1) v4 _ (lv_sub hl [] rfl) hw
set_option maxRecDepth 100000 in
theorem c_X11_made (l : Launch) (base : Nat) (D : va_G) (cA : Nat → ClassId) (n : Nat) (hn : 214 ≤ n) (σ : ml_St) (x1 : Int) (h_x1 : I32 x1) (Q : Int → ml_St → Prop) (hw : f_X11_made σ x1 Q) : Met l yX11_made (Cond.code yX11_made cX11_made 2 (some .int) :: ml_T) rm_X11_made (va_Pc [.ref (base + (1 : Int).toNat), .int (Int32.ofInt x1)] (ml_U base D cA n σ)) (ml_Qi I32 base D cA n Q) 0 0 (ml_A base) := by
  refine Met.ofW (cc := cX11_made) (maxL := 2) (ret := (some .int)) (by decide) rfl ?_
  intro p e s m args below meth c s₁ B hml hv
  obtain ⟨rfl, hP, hK, hok, hro⟩ := hv
  have X : ml_X p s m c meth _ D cA cX11_made 2 RX11 (some .int) := ⟨B.exec, B.bytes, hml, findClass_of_methodNamed B.named, fun w hw => atoms_spec (ws := Cond.code yX11_made cX11_made 2 (some .int) :: ml_T) B.pre w (List.mem_cons_of_mem _ hw), hK, B.notSynchronized, B.returns⟩
  have hl := lv_entry [.ref (base + (1 : Int).toNat), .int (Int32.ofInt x1)] (n := 2) (Nat.le_of_ble_eq_true rfl)
  rw [lg_entry_eq]
  generalize (lg_sl [.ref (base + (1 : Int).toNat), .int (Int32.ofInt x1)] ++ List.replicate (2 - (lg_sl [.ref (base + (1 : Int).toNat), .int (Int32.ofInt x1)]).length) Slot.unset).toArray = ls at hl ⊢
  have hl : lv_has ls 2 [(0, .ref (base + (1 : Int).toNat)), (1, .int (Int32.ofInt x1))] := hl
  unfold f_X11_made at hw
  exact u_X11_made_0 X hn σ x1 h_x1 _ (lv_sub hl [0, 1] rfl) hw s.heap [] hP va_S.rf hok hro
theorem dX11_shortest_0 : decode cX11_shortest 0 = .ok (.iload_n 2, 1) := by decide +kernel
theorem dX11_shortest_1 : decode cX11_shortest 1 = .ok (.ifCond .lt 21, 3) := by decide +kernel
theorem dX11_shortest_4 : decode cX11_shortest 4 = .ok (.iload_n 2, 1) := by decide +kernel
theorem dX11_shortest_5 : decode cX11_shortest 5 = .ok (.iconst 3, 1) := by decide +kernel
theorem dX11_shortest_6 : decode cX11_shortest 6 = .ok (.if_icmp .gt 16, 3) := by decide +kernel
theorem dX11_shortest_9 : decode cX11_shortest 9 = .ok (.iload_n 3, 1) := by decide +kernel
theorem dX11_shortest_10 : decode cX11_shortest 10 = .ok (.iconst (-1), 1) := by decide +kernel
theorem dX11_shortest_11 : decode cX11_shortest 11 = .ok (.if_icmp .lt 11, 3) := by decide +kernel
theorem dX11_shortest_14 : decode cX11_shortest 14 = .ok (.aload_n 0, 1) := by decide +kernel
theorem dX11_shortest_15 : decode cX11_shortest 15 = .ok (.iload_n 1, 1) := by decide +kernel
theorem dX11_shortest_16 : decode cX11_shortest 16 = .ok (.invokevirtual 219, 3) := by decide +kernel
theorem dX11_shortest_19 : decode cX11_shortest 19 = .ok (.ifCond .ne 5, 3) := by decide +kernel
theorem dX11_shortest_22 : decode cX11_shortest 22 = .ok (.iconst (-1), 1) := by decide +kernel
theorem dX11_shortest_23 : decode cX11_shortest 23 = .ok (.ireturn, 1) := by decide +kernel
theorem dX11_shortest_24 : decode cX11_shortest 24 = .ok (.aload_n 0, 1) := by decide +kernel
theorem dX11_shortest_25 : decode cX11_shortest 25 = .ok (.getfield 47, 3) := by decide +kernel
theorem dX11_shortest_28 : decode cX11_shortest 28 = .ok (.aload_n 0, 1) := by decide +kernel
theorem dX11_shortest_29 : decode cX11_shortest 29 = .ok (.getfield 19, 3) := by decide +kernel
theorem dX11_shortest_32 : decode cX11_shortest 32 = .ok (.aload_n 0, 1) := by decide +kernel
theorem dX11_shortest_33 : decode cX11_shortest 33 = .ok (.getfield 82, 3) := by decide +kernel
theorem dX11_shortest_36 : decode cX11_shortest 36 = .ok (.invokevirtual 222, 3) := by decide +kernel
theorem dX11_shortest_39 : decode cX11_shortest 39 = .ok (.aload_n 0, 1) := by decide +kernel
theorem dX11_shortest_40 : decode cX11_shortest 40 = .ok (.getfield 54, 3) := by decide +kernel
theorem dX11_shortest_43 : decode cX11_shortest 43 = .ok (.aload_n 0, 1) := by decide +kernel
theorem dX11_shortest_44 : decode cX11_shortest 44 = .ok (.getfield 47, 3) := by decide +kernel
theorem dX11_shortest_47 : decode cX11_shortest 47 = .ok (.iload_n 2, 1) := by decide +kernel
theorem dX11_shortest_48 : decode cX11_shortest 48 = .ok (.invokevirtual 231, 3) := by decide +kernel
theorem dX11_shortest_51 : decode cX11_shortest 51 = .ok (.aload_n 0, 1) := by decide +kernel
theorem dX11_shortest_52 : decode cX11_shortest 52 = .ok (.getfield 54, 3) := by decide +kernel
theorem dX11_shortest_55 : decode cX11_shortest 55 = .ok (.iload_n 3, 1) := by decide +kernel
theorem dX11_shortest_56 : decode cX11_shortest 56 = .ok (.invokevirtual 235, 3) := by decide +kernel
theorem dX11_shortest_59 : decode cX11_shortest 59 = .ok (.ireturn, 1) := by decide +kernel
def f_X11_shortest_u22 (Q : Int → ml_St → Prop) (σ : ml_St) : Prop :=
Q (-1) σ
def f_X11_shortest_u0 (Q : Int → ml_St → Prop) (σ : ml_St) (x1 : Int) (x2 : Int) (x3 : Int) : Prop :=
(x2 < 0 →
f_X11_shortest_u22 Q σ) ∧
(¬ (x2 < 0) →
(3 < x2 →
f_X11_shortest_u22 Q σ) ∧
(¬ (3 < x2) →
(x3 < (-1) →
f_X11_shortest_u22 Q σ) ∧
(¬ (x3 < (-1)) →
f_X11_openLetters σ x1 (fun r4 σ4 => ∀ _ : ml_B r4,
(r4 ≠ 0 →
∀ _ : I32 (σ4 1 11),
False) ∧
(r4 = 0 →
f_X11_shortest_u22 Q σ4)))))
def f_X11_shortest (σ : ml_St) (x1 : Int) (x2 : Int) (x3 : Int) (Q : Int → ml_St → Prop) : Prop := f_X11_shortest_u0 Q σ x1 x2 x3
def rm_X11_shortest : Room := { frames := 3, cells := 0, slots := 0, locals := 64 }
set_option maxRecDepth 100000 in
set_option maxHeartbeats 4000000 in
theorem u_X11_shortest_22 {p : Program} {e : Env} {s : State} {m : MethodId} {args : Array Value} {below : List Frame} {meth : Method} {c : Code} {base : Nat} {D : va_G} {cA : Nat → ClassId} {n : Nat} {l : Launch} {Q : Int → ml_St → Prop} (X : ml_X p s m c meth args D cA cX11_shortest 4 RX11 (some .int)) (hn : 214 ≤ n) (σ : ml_St) (ls : Array Slot) (hl : lv_has ls 4 []) (hw : f_X11_shortest_u22 Q σ) : ml_V p l e rm_X11_shortest s m args below meth c (MQ below (ml_Qi I32 base D cA n Q) args s 0 0 (ml_A base)) base D cA 0 0 n n σ (F0 m 22 ls []) := by
  unfold f_X11_shortest_u22 at hw
  refine ml_iconst (pc := 22) X dX11_shortest_22 ?_
  exact ml_iret (pc := 23) X ⟨by decide, by decide⟩ hw dX11_shortest_23
set_option maxRecDepth 100000 in
set_option maxHeartbeats 4000000 in
theorem u_X11_shortest_0 {p : Program} {e : Env} {s : State} {m : MethodId} {args : Array Value} {below : List Frame} {meth : Method} {c : Code} {base : Nat} {D : va_G} {cA : Nat → ClassId} {n : Nat} {l : Launch} {Q : Int → ml_St → Prop} (X : ml_X p s m c meth args D cA cX11_shortest 4 RX11 (some .int)) (hn : 214 ≤ n) (σ : ml_St) (x1 : Int) (x2 : Int) (x3 : Int) (h_x1 : I32 x1) (h_x2 : I32 x2) (h_x3 : I32 x3) (ls : Array Slot) (hl : lv_has ls 4 [(0, .ref (base + (1 : Int).toNat)), (1, .int (Int32.ofInt x1)), (2, .int (Int32.ofInt x2)), (3, .int (Int32.ofInt x3))]) (hw : f_X11_shortest_u0 Q σ x1 x2 x3) : ml_V p l e rm_X11_shortest s m args below meth c (MQ below (ml_Qi I32 base D cA n Q) args s 0 0 (ml_A base)) base D cA 0 0 n n σ (F0 m 0 ls []) := by
  unfold f_X11_shortest_u0 at hw
  refine ml_iload_n (pc := 0) X hl 2 rfl rfl dX11_shortest_0 ?_
  refine ml_if_lt (pc := 1) (tgt := 22) X h_x2 dX11_shortest_1 (by decide) (fun c1 => ?_) (fun c1 => ?_)
  · have hw := hw.1 c1
    exact u_X11_shortest_22 X hn σ   _ (lv_sub hl [] rfl) hw
  · have hw := hw.2 c1
    refine ml_iload_n (pc := 4) X hl 2 rfl rfl dX11_shortest_4 ?_
    refine ml_iconst (pc := 5) X dX11_shortest_5 ?_
    refine ml_icmp_gt (pc := 6) (tgt := 22) X h_x2 ⟨by decide, by decide⟩ dX11_shortest_6 (by decide) (fun c2 => ?_) (fun c2 => ?_)
    · have hw := hw.1 c2
      exact u_X11_shortest_22 X hn σ   _ (lv_sub hl [] rfl) hw
    · have hw := hw.2 c2
      refine ml_iload_n (pc := 9) X hl 3 rfl rfl dX11_shortest_9 ?_
      refine ml_iconst (pc := 10) X dX11_shortest_10 ?_
      refine ml_icmp_lt (pc := 11) (tgt := 22) X h_x3 ⟨by decide, by decide⟩ dX11_shortest_11 (by decide) (fun c3 => ?_) (fun c3 => ?_)
      · have hw := hw.1 c3
        exact u_X11_shortest_22 X hn σ   _ (lv_sub hl [] rfl) hw
      · have hw := hw.2 c3
        refine ml_aload_n (pc := 14) X hl 0 rfl rfl dX11_shortest_14 ?_
        refine ml_iload_n (pc := 15) X hl 1 rfl rfl dX11_shortest_15 ?_
        refine ml_callzV (pc := 16) (rest := []) X [.int (Int32.ofInt x1)] (by decide) rfl (ml_c1 hn) (c_X11_openLetters l base D cA n hn σ x1 h_x1 _ hw) cv_X11_219 ⟨rfl, rfl⟩ ⟨by decide, by decide⟩ rfl rfl hl (Nat.le_of_ble_eq_true rfl) ⟨Nat.zero_le _, Nat.zero_le _⟩ dX11_shortest_16 (fun r4 σ4 t4 hw => ?_)
        have hw := hw t4
        refine ml_if_ne (pc := 19) (tgt := 24) X t4.i dX11_shortest_19 (by decide) (fun c5 => ?_) (fun c5 => ?_)
        · have hw := hw.1 c5
          refine ml_aload_n (pc := 24) X hl 0 rfl rfl dX11_shortest_24 ?_
          refine gf_X11_47 (pc := 25) X (ml_c1 hn) dX11_shortest_25 ?_
          refine ml_aload_n (pc := 28) X hl 0 rfl rfl dX11_shortest_28 ?_
          refine gf_X11_19 (pc := 29) X (ml_c1 hn) dX11_shortest_29 ?_
          refine ml_aload_n (pc := 32) X hl 0 rfl rfl dX11_shortest_32 ?_
          refine gf_X11_82 (pc := 33) X (ml_c1 hn) dX11_shortest_33 (fun r6 => ?_)
          have hw := hw r6
          exact hw.elim
        · have hw := hw.2 c5
          exact u_X11_shortest_22 X hn σ4   _ (lv_sub hl [] rfl) hw
set_option maxRecDepth 100000 in
theorem c_X11_shortest (l : Launch) (base : Nat) (D : va_G) (cA : Nat → ClassId) (n : Nat) (hn : 214 ≤ n) (σ : ml_St) (x1 : Int) (x2 : Int) (x3 : Int) (h_x1 : I32 x1) (h_x2 : I32 x2) (h_x3 : I32 x3) (Q : Int → ml_St → Prop) (hw : f_X11_shortest σ x1 x2 x3 Q) : Met l yX11_shortest (Cond.code yX11_shortest cX11_shortest 4 (some .int) :: ml_T) rm_X11_shortest (va_Pc [.ref (base + (1 : Int).toNat), .int (Int32.ofInt x1), .int (Int32.ofInt x2), .int (Int32.ofInt x3)] (ml_U base D cA n σ)) (ml_Qi I32 base D cA n Q) 0 0 (ml_A base) := by
  refine Met.ofW (cc := cX11_shortest) (maxL := 4) (ret := (some .int)) (by decide) rfl ?_
  intro p e s m args below meth c s₁ B hml hv
  obtain ⟨rfl, hP, hK, hok, hro⟩ := hv
  have X : ml_X p s m c meth _ D cA cX11_shortest 4 RX11 (some .int) := ⟨B.exec, B.bytes, hml, findClass_of_methodNamed B.named, fun w hw => atoms_spec (ws := Cond.code yX11_shortest cX11_shortest 4 (some .int) :: ml_T) B.pre w (List.mem_cons_of_mem _ hw), hK, B.notSynchronized, B.returns⟩
  have hl := lv_entry [.ref (base + (1 : Int).toNat), .int (Int32.ofInt x1), .int (Int32.ofInt x2), .int (Int32.ofInt x3)] (n := 4) (Nat.le_of_ble_eq_true rfl)
  rw [lg_entry_eq]
  generalize (lg_sl [.ref (base + (1 : Int).toNat), .int (Int32.ofInt x1), .int (Int32.ofInt x2), .int (Int32.ofInt x3)] ++ List.replicate (4 - (lg_sl [.ref (base + (1 : Int).toNat), .int (Int32.ofInt x1), .int (Int32.ofInt x2), .int (Int32.ofInt x3)]).length) Slot.unset).toArray = ls at hl ⊢
  have hl : lv_has ls 4 [(0, .ref (base + (1 : Int).toNat)), (1, .int (Int32.ofInt x1)), (2, .int (Int32.ofInt x2)), (3, .int (Int32.ofInt x3))] := hl
  unfold f_X11_shortest at hw
  exact u_X11_shortest_0 X hn σ x1 x2 x3 h_x1 h_x2 h_x3 _ (lv_sub hl [0, 1, 2, 3] rfl) hw s.heap [] hP va_S.rf hok hro
theorem dX11_cost_0 : decode cX11_cost 0 = .ok (.aload_n 0, 1) := by decide +kernel
theorem dX11_cost_1 : decode cX11_cost 1 = .ok (.iload_n 1, 1) := by decide +kernel
theorem dX11_cost_2 : decode cX11_cost 2 = .ok (.invokevirtual 104, 3) := by decide +kernel
theorem dX11_cost_5 : decode cX11_cost 5 = .ok (.ifCond .eq 15, 3) := by decide +kernel
theorem dX11_cost_8 : decode cX11_cost 8 = .ok (.iload_n 2, 1) := by decide +kernel
theorem dX11_cost_9 : decode cX11_cost 9 = .ok (.iconst 1, 1) := by decide +kernel
theorem dX11_cost_10 : decode cX11_cost 10 = .ok (.if_icmp .lt 10, 3) := by decide +kernel
theorem dX11_cost_13 : decode cX11_cost 13 = .ok (.iload_n 2, 1) := by decide +kernel
theorem dX11_cost_14 : decode cX11_cost 14 = .ok (.sipush 1000, 3) := by decide +kernel
theorem dX11_cost_17 : decode cX11_cost 17 = .ok (.if_icmp .le 5, 3) := by decide +kernel
theorem dX11_cost_20 : decode cX11_cost 20 = .ok (.iconst 0, 1) := by decide +kernel
theorem dX11_cost_21 : decode cX11_cost 21 = .ok (.ireturn, 1) := by decide +kernel
theorem dX11_cost_22 : decode cX11_cost 22 = .ok (.aload_n 0, 1) := by decide +kernel
theorem dX11_cost_23 : decode cX11_cost 23 = .ok (.getfield 67, 3) := by decide +kernel
theorem dX11_cost_26 : decode cX11_cost 26 = .ok (.iload_n 1, 1) := by decide +kernel
theorem dX11_cost_27 : decode cX11_cost 27 = .ok (.aaload, 1) := by decide +kernel
theorem dX11_cost_28 : decode cX11_cost 28 = .ok (.iload_n 2, 1) := by decide +kernel
theorem dX11_cost_29 : decode cX11_cost 29 = .ok (.putfield 239, 3) := by decide +kernel
theorem dX11_cost_32 : decode cX11_cost 32 = .ok (.iconst 1, 1) := by decide +kernel
theorem dX11_cost_33 : decode cX11_cost 33 = .ok (.ireturn, 1) := by decide +kernel
def f_X11_cost_u20 (Q : Int → ml_St → Prop) (σ : ml_St) : Prop :=
Q 0 σ
def f_X11_cost_u0 (Q : Int → ml_St → Prop) (σ : ml_St) (x1 : Int) (x2 : Int) : Prop :=
f_X11_isTold σ x1 (fun r1 σ1 => ∀ _ : ml_B r1,
(r1 = 0 →
f_X11_cost_u20 Q σ1) ∧
(r1 ≠ 0 →
(x2 < 1 →
f_X11_cost_u20 Q σ1) ∧
(¬ (x2 < 1) →
(x2 ≤ 1000 →
(0 : Int) ≤ x1 ∧ (x1 : Int) < 16 ∧
∀ σ6, σ6 = ml_up σ1 (119 + 6 * x1) 3 x2 →
Q 1 σ6) ∧
(¬ (x2 ≤ 1000) →
f_X11_cost_u20 Q σ1))))
def f_X11_cost (σ : ml_St) (x1 : Int) (x2 : Int) (Q : Int → ml_St → Prop) : Prop := f_X11_cost_u0 Q σ x1 x2
def rm_X11_cost : Room := { frames := 1, cells := 0, slots := 0, locals := 21 }
set_option maxRecDepth 100000 in
set_option maxHeartbeats 4000000 in
theorem u_X11_cost_20 {p : Program} {e : Env} {s : State} {m : MethodId} {args : Array Value} {below : List Frame} {meth : Method} {c : Code} {base : Nat} {D : va_G} {cA : Nat → ClassId} {n : Nat} {l : Launch} {Q : Int → ml_St → Prop} (X : ml_X p s m c meth args D cA cX11_cost 3 RX11 (some .boolean)) (hn : 214 ≤ n) (σ : ml_St) (ls : Array Slot) (hl : lv_has ls 3 []) (hw : f_X11_cost_u20 Q σ) : ml_V p l e rm_X11_cost s m args below meth c (MQ below (ml_Qi ml_B base D cA n Q) args s 0 0 (ml_A base)) base D cA 0 0 n n σ (F0 m 20 ls []) := by
  unfold f_X11_cost_u20 at hw
  refine ml_iconst (pc := 20) X dX11_cost_20 ?_
  exact ml_zret (pc := 21) X ⟨by decide, by decide⟩ hw dX11_cost_21
set_option maxRecDepth 100000 in
set_option maxHeartbeats 4000000 in
theorem u_X11_cost_0 {p : Program} {e : Env} {s : State} {m : MethodId} {args : Array Value} {below : List Frame} {meth : Method} {c : Code} {base : Nat} {D : va_G} {cA : Nat → ClassId} {n : Nat} {l : Launch} {Q : Int → ml_St → Prop} (X : ml_X p s m c meth args D cA cX11_cost 3 RX11 (some .boolean)) (hn : 214 ≤ n) (σ : ml_St) (x1 : Int) (x2 : Int) (h_x1 : I32 x1) (h_x2 : I32 x2) (ls : Array Slot) (hl : lv_has ls 3 [(0, .ref (base + (1 : Int).toNat)), (1, .int (Int32.ofInt x1)), (2, .int (Int32.ofInt x2))]) (hw : f_X11_cost_u0 Q σ x1 x2) : ml_V p l e rm_X11_cost s m args below meth c (MQ below (ml_Qi ml_B base D cA n Q) args s 0 0 (ml_A base)) base D cA 0 0 n n σ (F0 m 0 ls []) := by
  unfold f_X11_cost_u0 at hw
  refine ml_aload_n (pc := 0) X hl 0 rfl rfl dX11_cost_0 ?_
  refine ml_iload_n (pc := 1) X hl 1 rfl rfl dX11_cost_1 ?_
  refine ml_callzV (pc := 2) (rest := []) X [.int (Int32.ofInt x1)] (by decide) rfl (ml_c1 hn) (c_X11_isTold l base D cA n hn σ x1 h_x1 _ hw) cv_X11_104 ⟨rfl, rfl⟩ ⟨by decide, by decide⟩ rfl rfl hl (Nat.le_of_ble_eq_true rfl) ⟨Nat.zero_le _, Nat.zero_le _⟩ dX11_cost_2 (fun r1 σ1 t1 hw => ?_)
  have hw := hw t1
  refine ml_if_eq (pc := 5) (tgt := 20) X t1.i dX11_cost_5 (by decide) (fun c2 => ?_) (fun c2 => ?_)
  · have hw := hw.1 c2
    exact u_X11_cost_20 X hn σ1   _ (lv_sub hl [] rfl) hw
  · have hw := hw.2 c2
    refine ml_iload_n (pc := 8) X hl 2 rfl rfl dX11_cost_8 ?_
    refine ml_iconst (pc := 9) X dX11_cost_9 ?_
    refine ml_icmp_lt (pc := 10) (tgt := 20) X h_x2 ⟨by decide, by decide⟩ dX11_cost_10 (by decide) (fun c3 => ?_) (fun c3 => ?_)
    · have hw := hw.1 c3
      exact u_X11_cost_20 X hn σ1   _ (lv_sub hl [] rfl) hw
    · have hw := hw.2 c3
      refine ml_iload_n (pc := 13) X hl 2 rfl rfl dX11_cost_13 ?_
      refine ml_sipush (pc := 14) X dX11_cost_14 (by decide) ?_
      refine ml_icmp_le (pc := 17) (tgt := 22) X h_x2 ⟨by decide, by decide⟩ dX11_cost_17 (by decide) (fun c4 => ?_) (fun c4 => ?_)
      · have hw := hw.1 c4
        refine ml_aload_n (pc := 22) X hl 0 rfl rfl dX11_cost_22 ?_
        refine gf_X11_67 (pc := 23) X (ml_c1 hn) dX11_cost_23 ?_
        refine ml_iload_n (pc := 26) X hl 1 rfl rfl dX11_cost_26 ?_
        obtain ⟨a5, b5, hw⟩ := hw
        refine ml_aald_words (pc := 27) X hn a5 b5 dX11_cost_27 ?_
        refine ml_iload_n (pc := 28) X hl 2 rfl rfl dX11_cost_28 ?_
        refine pf_X11_239 (pc := 29) X (ml_at_words hn a5 b5) h_x2 dX11_cost_29 (fun σ6 g6 => ?_)
        have hw := hw σ6 g6
        refine ml_iconst (pc := 32) X dX11_cost_32 ?_
        exact ml_zret (pc := 33) X ⟨by decide, by decide⟩ hw dX11_cost_33
      · have hw := hw.2 c4
        exact u_X11_cost_20 X hn σ1   _ (lv_sub hl [] rfl) hw
set_option maxRecDepth 100000 in
theorem c_X11_cost (l : Launch) (base : Nat) (D : va_G) (cA : Nat → ClassId) (n : Nat) (hn : 214 ≤ n) (σ : ml_St) (x1 : Int) (x2 : Int) (h_x1 : I32 x1) (h_x2 : I32 x2) (Q : Int → ml_St → Prop) (hw : f_X11_cost σ x1 x2 Q) : Met l yX11_cost (Cond.code yX11_cost cX11_cost 3 (some .boolean) :: ml_T) rm_X11_cost (va_Pc [.ref (base + (1 : Int).toNat), .int (Int32.ofInt x1), .int (Int32.ofInt x2)] (ml_U base D cA n σ)) (ml_Qi ml_B base D cA n Q) 0 0 (ml_A base) := by
  refine Met.ofW (cc := cX11_cost) (maxL := 3) (ret := (some .boolean)) (by decide) rfl ?_
  intro p e s m args below meth c s₁ B hml hv
  obtain ⟨rfl, hP, hK, hok, hro⟩ := hv
  have X : ml_X p s m c meth _ D cA cX11_cost 3 RX11 (some .boolean) := ⟨B.exec, B.bytes, hml, findClass_of_methodNamed B.named, fun w hw => atoms_spec (ws := Cond.code yX11_cost cX11_cost 3 (some .boolean) :: ml_T) B.pre w (List.mem_cons_of_mem _ hw), hK, B.notSynchronized, B.returns⟩
  have hl := lv_entry [.ref (base + (1 : Int).toNat), .int (Int32.ofInt x1), .int (Int32.ofInt x2)] (n := 3) (Nat.le_of_ble_eq_true rfl)
  rw [lg_entry_eq]
  generalize (lg_sl [.ref (base + (1 : Int).toNat), .int (Int32.ofInt x1), .int (Int32.ofInt x2)] ++ List.replicate (3 - (lg_sl [.ref (base + (1 : Int).toNat), .int (Int32.ofInt x1), .int (Int32.ofInt x2)]).length) Slot.unset).toArray = ls at hl ⊢
  have hl : lv_has ls 3 [(0, .ref (base + (1 : Int).toNat)), (1, .int (Int32.ofInt x1)), (2, .int (Int32.ofInt x2))] := hl
  unfold f_X11_cost at hw
  exact u_X11_cost_0 X hn σ x1 x2 h_x1 h_x2 _ (lv_sub hl [0, 1, 2] rfl) hw s.heap [] hP va_S.rf hok hro
theorem dX11_cheapest_0 : decode cX11_cheapest 0 = .ok (.aload_n 0, 1) := by decide +kernel
theorem dX11_cheapest_1 : decode cX11_cheapest 1 = .ok (.iload_n 2, 1) := by decide +kernel
theorem dX11_cheapest_2 : decode cX11_cheapest 2 = .ok (.invokevirtual 121, 3) := by decide +kernel
theorem dX11_cheapest_5 : decode cX11_cheapest 5 = .ok (.ifCond .eq 17, 3) := by decide +kernel
theorem dX11_cheapest_8 : decode cX11_cheapest 8 = .ok (.iload_n 3, 1) := by decide +kernel
theorem dX11_cheapest_9 : decode cX11_cheapest 9 = .ok (.bipush (-2), 2) := by decide +kernel
theorem dX11_cheapest_11 : decode cX11_cheapest 11 = .ok (.if_icmp .lt 11, 3) := by decide +kernel
theorem dX11_cheapest_14 : decode cX11_cheapest 14 = .ok (.aload_n 0, 1) := by decide +kernel
theorem dX11_cheapest_15 : decode cX11_cheapest 15 = .ok (.iload_n 1, 1) := by decide +kernel
theorem dX11_cheapest_16 : decode cX11_cheapest 16 = .ok (.invokevirtual 219, 3) := by decide +kernel
theorem dX11_cheapest_19 : decode cX11_cheapest 19 = .ok (.ifCond .ne 5, 3) := by decide +kernel
theorem dX11_cheapest_22 : decode cX11_cheapest 22 = .ok (.iconst (-1), 1) := by decide +kernel
theorem dX11_cheapest_23 : decode cX11_cheapest 23 = .ok (.ireturn, 1) := by decide +kernel
theorem dX11_cheapest_24 : decode cX11_cheapest 24 = .ok (.aload_n 0, 1) := by decide +kernel
theorem dX11_cheapest_25 : decode cX11_cheapest 25 = .ok (.getfield 47, 3) := by decide +kernel
theorem dX11_cheapest_28 : decode cX11_cheapest 28 = .ok (.getfield 242, 3) := by decide +kernel
theorem dX11_cheapest_31 : decode cX11_cheapest 31 = .ok (.aload_n 0, 1) := by decide +kernel
theorem dX11_cheapest_32 : decode cX11_cheapest 32 = .ok (.getfield 67, 3) := by decide +kernel
theorem dX11_cheapest_35 : decode cX11_cheapest 35 = .ok (.iload_n 2, 1) := by decide +kernel
theorem dX11_cheapest_36 : decode cX11_cheapest 36 = .ok (.aaload, 1) := by decide +kernel
theorem dX11_cheapest_37 : decode cX11_cheapest 37 = .ok (.getfield 112, 3) := by decide +kernel
theorem dX11_cheapest_40 : decode cX11_cheapest 40 = .ok (.aload_n 0, 1) := by decide +kernel
theorem dX11_cheapest_41 : decode cX11_cheapest 41 = .ok (.getfield 82, 3) := by decide +kernel
theorem dX11_cheapest_44 : decode cX11_cheapest 44 = .ok (.invokevirtual 245, 3) := by decide +kernel
theorem dX11_cheapest_47 : decode cX11_cheapest 47 = .ok (.iaload, 1) := by decide +kernel
theorem dX11_cheapest_48 : decode cX11_cheapest 48 = .ok (.istore 4, 2) := by decide +kernel
theorem dX11_cheapest_50 : decode cX11_cheapest 50 = .ok (.aload_n 0, 1) := by decide +kernel
theorem dX11_cheapest_51 : decode cX11_cheapest 51 = .ok (.getfield 54, 3) := by decide +kernel
theorem dX11_cheapest_54 : decode cX11_cheapest 54 = .ok (.aload_n 0, 1) := by decide +kernel
theorem dX11_cheapest_55 : decode cX11_cheapest 55 = .ok (.getfield 47, 3) := by decide +kernel
theorem dX11_cheapest_58 : decode cX11_cheapest 58 = .ok (.aload_n 0, 1) := by decide +kernel
theorem dX11_cheapest_59 : decode cX11_cheapest 59 = .ok (.getfield 67, 3) := by decide +kernel
theorem dX11_cheapest_62 : decode cX11_cheapest 62 = .ok (.iload 4, 2) := by decide +kernel
theorem dX11_cheapest_64 : decode cX11_cheapest 64 = .ok (.invokevirtual 248, 3) := by decide +kernel
theorem dX11_cheapest_67 : decode cX11_cheapest 67 = .ok (.iload_n 3, 1) := by decide +kernel
theorem dX11_cheapest_68 : decode cX11_cheapest 68 = .ok (.bipush (-2), 2) := by decide +kernel
theorem dX11_cheapest_70 : decode cX11_cheapest 70 = .ok (.if_icmp .ne 13, 3) := by decide +kernel
theorem dX11_cheapest_73 : decode cX11_cheapest 73 = .ok (.aload_n 0, 1) := by decide +kernel
theorem dX11_cheapest_74 : decode cX11_cheapest 74 = .ok (.getfield 54, 3) := by decide +kernel
theorem dX11_cheapest_77 : decode cX11_cheapest 77 = .ok (.getfield 252, 3) := by decide +kernel
theorem dX11_cheapest_80 : decode cX11_cheapest 80 = .ok (.goto 11, 3) := by decide +kernel
theorem dX11_cheapest_83 : decode cX11_cheapest 83 = .ok (.aload_n 0, 1) := by decide +kernel
theorem dX11_cheapest_84 : decode cX11_cheapest 84 = .ok (.getfield 54, 3) := by decide +kernel
theorem dX11_cheapest_87 : decode cX11_cheapest 87 = .ok (.iload_n 3, 1) := by decide +kernel
theorem dX11_cheapest_88 : decode cX11_cheapest 88 = .ok (.invokevirtual 235, 3) := by decide +kernel
theorem dX11_cheapest_91 : decode cX11_cheapest 91 = .ok (.ireturn, 1) := by decide +kernel
def f_X11_cheapest_u22 (Q : Int → ml_St → Prop) (σ : ml_St) : Prop :=
Q (-1) σ
def f_X11_cheapest_u91 (Q : Int → ml_St → Prop) (σ : ml_St) (s0 : Int) : Prop :=
Q s0 σ
def f_X11_cheapest_u0 (Q : Int → ml_St → Prop) (σ : ml_St) (x1 : Int) (x2 : Int) (x3 : Int) : Prop :=
f_X11_isMade σ x2 (fun r1 σ1 => ∀ _ : ml_B r1,
(r1 = 0 →
f_X11_cheapest_u22 Q σ1) ∧
(r1 ≠ 0 →
(x3 < (-2) →
f_X11_cheapest_u22 Q σ1) ∧
(¬ (x3 < (-2)) →
f_X11_openLetters σ1 x1 (fun r4 σ4 => ∀ _ : ml_B r4,
(r4 ≠ 0 →
(0 : Int) ≤ x2 ∧ (x2 : Int) < 16 ∧
∀ _ : I32 (σ4 1 11),
False) ∧
(r4 = 0 →
f_X11_cheapest_u22 Q σ4)))))
def f_X11_cheapest (σ : ml_St) (x1 : Int) (x2 : Int) (x3 : Int) (Q : Int → ml_St → Prop) : Prop := f_X11_cheapest_u0 Q σ x1 x2 x3
def rm_X11_cheapest : Room := { frames := 3, cells := 0, slots := 0, locals := 64 }
set_option maxRecDepth 100000 in
set_option maxHeartbeats 4000000 in
theorem u_X11_cheapest_22 {p : Program} {e : Env} {s : State} {m : MethodId} {args : Array Value} {below : List Frame} {meth : Method} {c : Code} {base : Nat} {D : va_G} {cA : Nat → ClassId} {n : Nat} {l : Launch} {Q : Int → ml_St → Prop} (X : ml_X p s m c meth args D cA cX11_cheapest 5 RX11 (some .int)) (hn : 214 ≤ n) (σ : ml_St) (ls : Array Slot) (hl : lv_has ls 5 []) (hw : f_X11_cheapest_u22 Q σ) : ml_V p l e rm_X11_cheapest s m args below meth c (MQ below (ml_Qi I32 base D cA n Q) args s 0 0 (ml_A base)) base D cA 0 0 n n σ (F0 m 22 ls []) := by
  unfold f_X11_cheapest_u22 at hw
  refine ml_iconst (pc := 22) X dX11_cheapest_22 ?_
  exact ml_iret (pc := 23) X ⟨by decide, by decide⟩ hw dX11_cheapest_23
set_option maxRecDepth 100000 in
set_option maxHeartbeats 4000000 in
theorem u_X11_cheapest_91 {p : Program} {e : Env} {s : State} {m : MethodId} {args : Array Value} {below : List Frame} {meth : Method} {c : Code} {base : Nat} {D : va_G} {cA : Nat → ClassId} {n : Nat} {l : Launch} {Q : Int → ml_St → Prop} (X : ml_X p s m c meth args D cA cX11_cheapest 5 RX11 (some .int)) (hn : 214 ≤ n) (σ : ml_St) (s0 : Int) (h_s0 : I32 s0) (ls : Array Slot) (hl : lv_has ls 5 []) (hw : f_X11_cheapest_u91 Q σ s0) : ml_V p l e rm_X11_cheapest s m args below meth c (MQ below (ml_Qi I32 base D cA n Q) args s 0 0 (ml_A base)) base D cA 0 0 n n σ (F0 m 91 ls [.int (Int32.ofInt s0)]) := by
  unfold f_X11_cheapest_u91 at hw
  exact ml_iret (pc := 91) X h_s0 hw dX11_cheapest_91
set_option maxRecDepth 100000 in
set_option maxHeartbeats 4000000 in
theorem u_X11_cheapest_0 {p : Program} {e : Env} {s : State} {m : MethodId} {args : Array Value} {below : List Frame} {meth : Method} {c : Code} {base : Nat} {D : va_G} {cA : Nat → ClassId} {n : Nat} {l : Launch} {Q : Int → ml_St → Prop} (X : ml_X p s m c meth args D cA cX11_cheapest 5 RX11 (some .int)) (hn : 214 ≤ n) (σ : ml_St) (x1 : Int) (x2 : Int) (x3 : Int) (h_x1 : I32 x1) (h_x2 : I32 x2) (h_x3 : I32 x3) (ls : Array Slot) (hl : lv_has ls 5 [(0, .ref (base + (1 : Int).toNat)), (1, .int (Int32.ofInt x1)), (2, .int (Int32.ofInt x2)), (3, .int (Int32.ofInt x3))]) (hw : f_X11_cheapest_u0 Q σ x1 x2 x3) : ml_V p l e rm_X11_cheapest s m args below meth c (MQ below (ml_Qi I32 base D cA n Q) args s 0 0 (ml_A base)) base D cA 0 0 n n σ (F0 m 0 ls []) := by
  unfold f_X11_cheapest_u0 at hw
  refine ml_aload_n (pc := 0) X hl 0 rfl rfl dX11_cheapest_0 ?_
  refine ml_iload_n (pc := 1) X hl 2 rfl rfl dX11_cheapest_1 ?_
  refine ml_callzV (pc := 2) (rest := []) X [.int (Int32.ofInt x2)] (by decide) rfl (ml_c1 hn) (c_X11_isMade l base D cA n hn σ x2 h_x2 _ hw) cv_X11_121 ⟨rfl, rfl⟩ ⟨by decide, by decide⟩ rfl rfl hl (Nat.le_of_ble_eq_true rfl) ⟨Nat.zero_le _, Nat.zero_le _⟩ dX11_cheapest_2 (fun r1 σ1 t1 hw => ?_)
  have hw := hw t1
  refine ml_if_eq (pc := 5) (tgt := 22) X t1.i dX11_cheapest_5 (by decide) (fun c2 => ?_) (fun c2 => ?_)
  · have hw := hw.1 c2
    exact u_X11_cheapest_22 X hn σ1   _ (lv_sub hl [] rfl) hw
  · have hw := hw.2 c2
    refine ml_iload_n (pc := 8) X hl 3 rfl rfl dX11_cheapest_8 ?_
    refine ml_bipush (pc := 9) X dX11_cheapest_9 (by decide) ?_
    refine ml_icmp_lt (pc := 11) (tgt := 22) X h_x3 ⟨by decide, by decide⟩ dX11_cheapest_11 (by decide) (fun c3 => ?_) (fun c3 => ?_)
    · have hw := hw.1 c3
      exact u_X11_cheapest_22 X hn σ1   _ (lv_sub hl [] rfl) hw
    · have hw := hw.2 c3
      refine ml_aload_n (pc := 14) X hl 0 rfl rfl dX11_cheapest_14 ?_
      refine ml_iload_n (pc := 15) X hl 1 rfl rfl dX11_cheapest_15 ?_
      refine ml_callzV (pc := 16) (rest := []) X [.int (Int32.ofInt x1)] (by decide) rfl (ml_c1 hn) (c_X11_openLetters l base D cA n hn σ1 x1 h_x1 _ hw) cv_X11_219 ⟨rfl, rfl⟩ ⟨by decide, by decide⟩ rfl rfl hl (Nat.le_of_ble_eq_true rfl) ⟨Nat.zero_le _, Nat.zero_le _⟩ dX11_cheapest_16 (fun r4 σ4 t4 hw => ?_)
      have hw := hw t4
      refine ml_if_ne (pc := 19) (tgt := 24) X t4.i dX11_cheapest_19 (by decide) (fun c5 => ?_) (fun c5 => ?_)
      · have hw := hw.1 c5
        refine ml_aload_n (pc := 24) X hl 0 rfl rfl dX11_cheapest_24 ?_
        refine gf_X11_47 (pc := 25) X (ml_c1 hn) dX11_cheapest_25 ?_
        refine gf_X11_242 (pc := 28) X (ml_c55 hn) dX11_cheapest_28 ?_
        refine ml_aload_n (pc := 31) X hl 0 rfl rfl dX11_cheapest_31 ?_
        refine gf_X11_67 (pc := 32) X (ml_c1 hn) dX11_cheapest_32 ?_
        refine ml_iload_n (pc := 35) X hl 2 rfl rfl dX11_cheapest_35 ?_
        obtain ⟨a6, b6, hw⟩ := hw
        refine ml_aald_words (pc := 36) X hn a6 b6 dX11_cheapest_36 ?_
        refine gf_X11_112 (pc := 37) X (ml_at_words hn a6 b6) dX11_cheapest_37 ?_
        refine ml_aload_n (pc := 40) X hl 0 rfl rfl dX11_cheapest_40 ?_
        refine gf_X11_82 (pc := 41) X (ml_c1 hn) dX11_cheapest_41 (fun r7 => ?_)
        have hw := hw r7
        exact hw.elim
      · have hw := hw.2 c5
        exact u_X11_cheapest_22 X hn σ4   _ (lv_sub hl [] rfl) hw
set_option maxRecDepth 100000 in
theorem c_X11_cheapest (l : Launch) (base : Nat) (D : va_G) (cA : Nat → ClassId) (n : Nat) (hn : 214 ≤ n) (σ : ml_St) (x1 : Int) (x2 : Int) (x3 : Int) (h_x1 : I32 x1) (h_x2 : I32 x2) (h_x3 : I32 x3) (Q : Int → ml_St → Prop) (hw : f_X11_cheapest σ x1 x2 x3 Q) : Met l yX11_cheapest (Cond.code yX11_cheapest cX11_cheapest 5 (some .int) :: ml_T) rm_X11_cheapest (va_Pc [.ref (base + (1 : Int).toNat), .int (Int32.ofInt x1), .int (Int32.ofInt x2), .int (Int32.ofInt x3)] (ml_U base D cA n σ)) (ml_Qi I32 base D cA n Q) 0 0 (ml_A base) := by
  refine Met.ofW (cc := cX11_cheapest) (maxL := 5) (ret := (some .int)) (by decide) rfl ?_
  intro p e s m args below meth c s₁ B hml hv
  obtain ⟨rfl, hP, hK, hok, hro⟩ := hv
  have X : ml_X p s m c meth _ D cA cX11_cheapest 5 RX11 (some .int) := ⟨B.exec, B.bytes, hml, findClass_of_methodNamed B.named, fun w hw => atoms_spec (ws := Cond.code yX11_cheapest cX11_cheapest 5 (some .int) :: ml_T) B.pre w (List.mem_cons_of_mem _ hw), hK, B.notSynchronized, B.returns⟩
  have hl := lv_entry [.ref (base + (1 : Int).toNat), .int (Int32.ofInt x1), .int (Int32.ofInt x2), .int (Int32.ofInt x3)] (n := 5) (Nat.le_of_ble_eq_true rfl)
  rw [lg_entry_eq]
  generalize (lg_sl [.ref (base + (1 : Int).toNat), .int (Int32.ofInt x1), .int (Int32.ofInt x2), .int (Int32.ofInt x3)] ++ List.replicate (5 - (lg_sl [.ref (base + (1 : Int).toNat), .int (Int32.ofInt x1), .int (Int32.ofInt x2), .int (Int32.ofInt x3)]).length) Slot.unset).toArray = ls at hl ⊢
  have hl : lv_has ls 5 [(0, .ref (base + (1 : Int).toNat)), (1, .int (Int32.ofInt x1)), (2, .int (Int32.ofInt x2)), (3, .int (Int32.ofInt x3))] := hl
  unfold f_X11_cheapest at hw
  exact u_X11_cheapest_0 X hn σ x1 x2 x3 h_x1 h_x2 h_x3 _ (lv_sub hl [0, 1, 2, 3] rfl) hw s.heap [] hP va_S.rf hok hro
theorem dX11_mend_0 : decode cX11_mend 0 = .ok (.aload_n 0, 1) := by decide +kernel
theorem dX11_mend_1 : decode cX11_mend 1 = .ok (.iload_n 1, 1) := by decide +kernel
theorem dX11_mend_2 : decode cX11_mend 2 = .ok (.invokevirtual 104, 3) := by decide +kernel
theorem dX11_mend_5 : decode cX11_mend 5 = .ok (.ifCond .eq 29, 3) := by decide +kernel
theorem dX11_mend_8 : decode cX11_mend 8 = .ok (.aload_n 0, 1) := by decide +kernel
theorem dX11_mend_9 : decode cX11_mend 9 = .ok (.getfield 67, 3) := by decide +kernel
theorem dX11_mend_12 : decode cX11_mend 12 = .ok (.iload_n 1, 1) := by decide +kernel
theorem dX11_mend_13 : decode cX11_mend 13 = .ok (.aaload, 1) := by decide +kernel
theorem dX11_mend_14 : decode cX11_mend 14 = .ok (.getfield 212, 3) := by decide +kernel
theorem dX11_mend_17 : decode cX11_mend 17 = .ok (.ifCond .eq 17, 3) := by decide +kernel
theorem dX11_mend_20 : decode cX11_mend 20 = .ok (.aload_n 0, 1) := by decide +kernel
theorem dX11_mend_21 : decode cX11_mend 21 = .ok (.getfield 67, 3) := by decide +kernel
theorem dX11_mend_24 : decode cX11_mend 24 = .ok (.iload_n 1, 1) := by decide +kernel
theorem dX11_mend_25 : decode cX11_mend 25 = .ok (.aaload, 1) := by decide +kernel
theorem dX11_mend_26 : decode cX11_mend 26 = .ok (.getfield 253, 3) := by decide +kernel
theorem dX11_mend_29 : decode cX11_mend 29 = .ok (.bipush 20, 2) := by decide +kernel
theorem dX11_mend_31 : decode cX11_mend 31 = .ok (.if_icmp .le 5, 3) := by decide +kernel
theorem dX11_mend_34 : decode cX11_mend 34 = .ok (.iconst (-1), 1) := by decide +kernel
theorem dX11_mend_35 : decode cX11_mend 35 = .ok (.ireturn, 1) := by decide +kernel
theorem dX11_mend_36 : decode cX11_mend 36 = .ok (.aload_n 0, 1) := by decide +kernel
theorem dX11_mend_37 : decode cX11_mend 37 = .ok (.getfield 61, 3) := by decide +kernel
theorem dX11_mend_40 : decode cX11_mend 40 = .ok (.aload_n 0, 1) := by decide +kernel
theorem dX11_mend_41 : decode cX11_mend 41 = .ok (.getfield 67, 3) := by decide +kernel
theorem dX11_mend_44 : decode cX11_mend 44 = .ok (.iload_n 1, 1) := by decide +kernel
theorem dX11_mend_45 : decode cX11_mend 45 = .ok (.aaload, 1) := by decide +kernel
theorem dX11_mend_46 : decode cX11_mend 46 = .ok (.aload_n 0, 1) := by decide +kernel
theorem dX11_mend_47 : decode cX11_mend 47 = .ok (.getfield 40, 3) := by decide +kernel
theorem dX11_mend_50 : decode cX11_mend 50 = .ok (.aload_n 0, 1) := by decide +kernel
theorem dX11_mend_51 : decode cX11_mend 51 = .ok (.getfield 19, 3) := by decide +kernel
theorem dX11_mend_54 : decode cX11_mend 54 = .ok (.aload_n 0, 1) := by decide +kernel
theorem dX11_mend_55 : decode cX11_mend 55 = .ok (.getfield 82, 3) := by decide +kernel
theorem dX11_mend_58 : decode cX11_mend 58 = .ok (.invokevirtual 254, 3) := by decide +kernel
theorem dX11_mend_61 : decode cX11_mend 61 = .ok (.ireturn, 1) := by decide +kernel
def f_X11_mend_u34 (Q : Int → ml_St → Prop) (σ : ml_St) : Prop :=
Q (-1) σ
def f_X11_mend_u0 (Q : Int → ml_St → Prop) (σ : ml_St) (x1 : Int) : Prop :=
f_X11_isTold σ x1 (fun r1 σ1 => ∀ _ : ml_B r1,
(r1 = 0 →
f_X11_mend_u34 Q σ1) ∧
(r1 ≠ 0 →
(0 : Int) ≤ x1 ∧ (x1 : Int) < 16 ∧
∀ _ : ml_B (σ1 (119 + 6 * x1) 2),
(((σ1 (119 + 6 * x1) 2) : Int) = 0 →
f_X11_mend_u34 Q σ1) ∧
((σ1 (119 + 6 * x1) 2) ≠ 0 →
(0 : Int) ≤ x1 ∧ (x1 : Int) < 16 ∧
∀ _ : I32 (σ1 (119 + 6 * x1) 1),
(((σ1 (119 + 6 * x1) 1) : Int) ≤ 20 →
(0 : Int) ≤ x1 ∧ (x1 : Int) < 16 ∧
∀ _ : I32 (σ1 1 11),
False) ∧
(¬ (((σ1 (119 + 6 * x1) 1) : Int) ≤ 20) →
f_X11_mend_u34 Q σ1))))
def f_X11_mend (σ : ml_St) (x1 : Int) (Q : Int → ml_St → Prop) : Prop := f_X11_mend_u0 Q σ x1
def rm_X11_mend : Room := { frames := 1, cells := 0, slots := 0, locals := 21 }
set_option maxRecDepth 100000 in
set_option maxHeartbeats 4000000 in
theorem u_X11_mend_34 {p : Program} {e : Env} {s : State} {m : MethodId} {args : Array Value} {below : List Frame} {meth : Method} {c : Code} {base : Nat} {D : va_G} {cA : Nat → ClassId} {n : Nat} {l : Launch} {Q : Int → ml_St → Prop} (X : ml_X p s m c meth args D cA cX11_mend 2 RX11 (some .int)) (hn : 214 ≤ n) (σ : ml_St) (ls : Array Slot) (hl : lv_has ls 2 []) (hw : f_X11_mend_u34 Q σ) : ml_V p l e rm_X11_mend s m args below meth c (MQ below (ml_Qi I32 base D cA n Q) args s 0 0 (ml_A base)) base D cA 0 0 n n σ (F0 m 34 ls []) := by
  unfold f_X11_mend_u34 at hw
  refine ml_iconst (pc := 34) X dX11_mend_34 ?_
  exact ml_iret (pc := 35) X ⟨by decide, by decide⟩ hw dX11_mend_35
set_option maxRecDepth 100000 in
set_option maxHeartbeats 4000000 in
theorem u_X11_mend_0 {p : Program} {e : Env} {s : State} {m : MethodId} {args : Array Value} {below : List Frame} {meth : Method} {c : Code} {base : Nat} {D : va_G} {cA : Nat → ClassId} {n : Nat} {l : Launch} {Q : Int → ml_St → Prop} (X : ml_X p s m c meth args D cA cX11_mend 2 RX11 (some .int)) (hn : 214 ≤ n) (σ : ml_St) (x1 : Int) (h_x1 : I32 x1) (ls : Array Slot) (hl : lv_has ls 2 [(0, .ref (base + (1 : Int).toNat)), (1, .int (Int32.ofInt x1))]) (hw : f_X11_mend_u0 Q σ x1) : ml_V p l e rm_X11_mend s m args below meth c (MQ below (ml_Qi I32 base D cA n Q) args s 0 0 (ml_A base)) base D cA 0 0 n n σ (F0 m 0 ls []) := by
  unfold f_X11_mend_u0 at hw
  refine ml_aload_n (pc := 0) X hl 0 rfl rfl dX11_mend_0 ?_
  refine ml_iload_n (pc := 1) X hl 1 rfl rfl dX11_mend_1 ?_
  refine ml_callzV (pc := 2) (rest := []) X [.int (Int32.ofInt x1)] (by decide) rfl (ml_c1 hn) (c_X11_isTold l base D cA n hn σ x1 h_x1 _ hw) cv_X11_104 ⟨rfl, rfl⟩ ⟨by decide, by decide⟩ rfl rfl hl (Nat.le_of_ble_eq_true rfl) ⟨Nat.zero_le _, Nat.zero_le _⟩ dX11_mend_2 (fun r1 σ1 t1 hw => ?_)
  have hw := hw t1
  refine ml_if_eq (pc := 5) (tgt := 34) X t1.i dX11_mend_5 (by decide) (fun c2 => ?_) (fun c2 => ?_)
  · have hw := hw.1 c2
    exact u_X11_mend_34 X hn σ1   _ (lv_sub hl [] rfl) hw
  · have hw := hw.2 c2
    refine ml_aload_n (pc := 8) X hl 0 rfl rfl dX11_mend_8 ?_
    refine gf_X11_67 (pc := 9) X (ml_c1 hn) dX11_mend_9 ?_
    refine ml_iload_n (pc := 12) X hl 1 rfl rfl dX11_mend_12 ?_
    obtain ⟨a3, b3, hw⟩ := hw
    refine ml_aald_words (pc := 13) X hn a3 b3 dX11_mend_13 ?_
    refine gf_X11_212 (pc := 14) X (ml_at_words hn a3 b3) dX11_mend_14 (fun r4 => ?_)
    have hw := hw r4
    refine ml_if_eq (pc := 17) (tgt := 34) X r4.i dX11_mend_17 (by decide) (fun c5 => ?_) (fun c5 => ?_)
    · have hw := hw.1 c5
      exact u_X11_mend_34 X hn σ1   _ (lv_sub hl [] rfl) hw
    · have hw := hw.2 c5
      refine ml_aload_n (pc := 20) X hl 0 rfl rfl dX11_mend_20 ?_
      refine gf_X11_67 (pc := 21) X (ml_c1 hn) dX11_mend_21 ?_
      refine ml_iload_n (pc := 24) X hl 1 rfl rfl dX11_mend_24 ?_
      obtain ⟨a6, b6, hw⟩ := hw
      refine ml_aald_words (pc := 25) X hn a6 b6 dX11_mend_25 ?_
      refine gf_X11_253 (pc := 26) X (ml_at_words hn a6 b6) dX11_mend_26 (fun r7 => ?_)
      have hw := hw r7
      refine ml_bipush (pc := 29) X dX11_mend_29 (by decide) ?_
      refine ml_icmp_le (pc := 31) (tgt := 36) X r7 ⟨by decide, by decide⟩ dX11_mend_31 (by decide) (fun c8 => ?_) (fun c8 => ?_)
      · have hw := hw.1 c8
        refine ml_aload_n (pc := 36) X hl 0 rfl rfl dX11_mend_36 ?_
        refine gf_X11_61 (pc := 37) X (ml_c1 hn) dX11_mend_37 ?_
        refine ml_aload_n (pc := 40) X hl 0 rfl rfl dX11_mend_40 ?_
        refine gf_X11_67 (pc := 41) X (ml_c1 hn) dX11_mend_41 ?_
        refine ml_iload_n (pc := 44) X hl 1 rfl rfl dX11_mend_44 ?_
        obtain ⟨a9, b9, hw⟩ := hw
        refine ml_aald_words (pc := 45) X hn a9 b9 dX11_mend_45 ?_
        refine ml_aload_n (pc := 46) X hl 0 rfl rfl dX11_mend_46 ?_
        refine gf_X11_40 (pc := 47) X (ml_c1 hn) dX11_mend_47 ?_
        refine ml_aload_n (pc := 50) X hl 0 rfl rfl dX11_mend_50 ?_
        refine gf_X11_19 (pc := 51) X (ml_c1 hn) dX11_mend_51 ?_
        refine ml_aload_n (pc := 54) X hl 0 rfl rfl dX11_mend_54 ?_
        refine gf_X11_82 (pc := 55) X (ml_c1 hn) dX11_mend_55 (fun r10 => ?_)
        have hw := hw r10
        exact hw.elim
      · have hw := hw.2 c8
        exact u_X11_mend_34 X hn σ1   _ (lv_sub hl [] rfl) hw
set_option maxRecDepth 100000 in
theorem c_X11_mend (l : Launch) (base : Nat) (D : va_G) (cA : Nat → ClassId) (n : Nat) (hn : 214 ≤ n) (σ : ml_St) (x1 : Int) (h_x1 : I32 x1) (Q : Int → ml_St → Prop) (hw : f_X11_mend σ x1 Q) : Met l yX11_mend (Cond.code yX11_mend cX11_mend 2 (some .int) :: ml_T) rm_X11_mend (va_Pc [.ref (base + (1 : Int).toNat), .int (Int32.ofInt x1)] (ml_U base D cA n σ)) (ml_Qi I32 base D cA n Q) 0 0 (ml_A base) := by
  refine Met.ofW (cc := cX11_mend) (maxL := 2) (ret := (some .int)) (by decide) rfl ?_
  intro p e s m args below meth c s₁ B hml hv
  obtain ⟨rfl, hP, hK, hok, hro⟩ := hv
  have X : ml_X p s m c meth _ D cA cX11_mend 2 RX11 (some .int) := ⟨B.exec, B.bytes, hml, findClass_of_methodNamed B.named, fun w hw => atoms_spec (ws := Cond.code yX11_mend cX11_mend 2 (some .int) :: ml_T) B.pre w (List.mem_cons_of_mem _ hw), hK, B.notSynchronized, B.returns⟩
  have hl := lv_entry [.ref (base + (1 : Int).toNat), .int (Int32.ofInt x1)] (n := 2) (Nat.le_of_ble_eq_true rfl)
  rw [lg_entry_eq]
  generalize (lg_sl [.ref (base + (1 : Int).toNat), .int (Int32.ofInt x1)] ++ List.replicate (2 - (lg_sl [.ref (base + (1 : Int).toNat), .int (Int32.ofInt x1)]).length) Slot.unset).toArray = ls at hl ⊢
  have hl : lv_has ls 2 [(0, .ref (base + (1 : Int).toNat)), (1, .int (Int32.ofInt x1))] := hl
  unfold f_X11_mend at hw
  exact u_X11_mend_0 X hn σ x1 h_x1 _ (lv_sub hl [0, 1] rfl) hw s.heap [] hP va_S.rf hok hro
theorem dX11_back_0 : decode cX11_back 0 = .ok (.iload_n 1, 1) := by decide +kernel
theorem dX11_back_1 : decode cX11_back 1 = .ok (.iconst 1, 1) := by decide +kernel
theorem dX11_back_2 : decode cX11_back 2 = .ok (.if_icmp .lt 22, 3) := by decide +kernel
theorem dX11_back_5 : decode cX11_back 5 = .ok (.iload_n 1, 1) := by decide +kernel
theorem dX11_back_6 : decode cX11_back 6 = .ok (.bipush 8, 2) := by decide +kernel
theorem dX11_back_8 : decode cX11_back 8 = .ok (.if_icmp .gt 16, 3) := by decide +kernel
theorem dX11_back_11 : decode cX11_back 11 = .ok (.aload_n 0, 1) := by decide +kernel
theorem dX11_back_12 : decode cX11_back 12 = .ok (.getfield 10, 3) := by decide +kernel
theorem dX11_back_15 : decode cX11_back 15 = .ok (.getfield 94, 3) := by decide +kernel
theorem dX11_back_18 : decode cX11_back 18 = .ok (.iconst 4, 1) := by decide +kernel
theorem dX11_back_19 : decode cX11_back 19 = .ok (.iload_n 1, 1) := by decide +kernel
theorem dX11_back_20 : decode cX11_back 20 = .ok (.imul, 1) := by decide +kernel
theorem dX11_back_21 : decode cX11_back 21 = .ok (.if_icmp .ge 5, 3) := by decide +kernel
theorem dX11_back_24 : decode cX11_back 24 = .ok (.iconst (-1), 1) := by decide +kernel
theorem dX11_back_25 : decode cX11_back 25 = .ok (.ireturn, 1) := by decide +kernel
theorem dX11_back_26 : decode cX11_back 26 = .ok (.iconst 0, 1) := by decide +kernel
theorem dX11_back_27 : decode cX11_back 27 = .ok (.istore_n 2, 1) := by decide +kernel
theorem dX11_back_28 : decode cX11_back 28 = .ok (.iconst 0, 1) := by decide +kernel
theorem dX11_back_29 : decode cX11_back 29 = .ok (.istore_n 3, 1) := by decide +kernel
theorem dX11_back_30 : decode cX11_back 30 = .ok (.iload_n 3, 1) := by decide +kernel
theorem dX11_back_31 : decode cX11_back 31 = .ok (.aload_n 0, 1) := by decide +kernel
theorem dX11_back_32 : decode cX11_back 32 = .ok (.getfield 86, 3) := by decide +kernel
theorem dX11_back_35 : decode cX11_back 35 = .ok (.if_icmp .ge 32, 3) := by decide +kernel
theorem dX11_back_38 : decode cX11_back 38 = .ok (.aload_n 0, 1) := by decide +kernel
theorem dX11_back_39 : decode cX11_back 39 = .ok (.iload_n 3, 1) := by decide +kernel
theorem dX11_back_40 : decode cX11_back 40 = .ok (.invokevirtual 121, 3) := by decide +kernel
theorem dX11_back_43 : decode cX11_back 43 = .ok (.ifCond .eq 18, 3) := by decide +kernel
theorem dX11_back_46 : decode cX11_back 46 = .ok (.aload_n 0, 1) := by decide +kernel
theorem dX11_back_47 : decode cX11_back 47 = .ok (.iload_n 3, 1) := by decide +kernel
theorem dX11_back_48 : decode cX11_back 48 = .ok (.iload_n 1, 1) := by decide +kernel
theorem dX11_back_49 : decode cX11_back 49 = .ok (.invokevirtual 258, 3) := by decide +kernel
theorem dX11_back_52 : decode cX11_back 52 = .ok (.ifCond .eq 9, 3) := by decide +kernel
theorem dX11_back_55 : decode cX11_back 55 = .ok (.iload_n 2, 1) := by decide +kernel
theorem dX11_back_56 : decode cX11_back 56 = .ok (.iconst 1, 1) := by decide +kernel
theorem dX11_back_57 : decode cX11_back 57 = .ok (.iload_n 3, 1) := by decide +kernel
theorem dX11_back_58 : decode cX11_back 58 = .ok (.ishl, 1) := by decide +kernel
theorem dX11_back_59 : decode cX11_back 59 = .ok (.ior, 1) := by decide +kernel
theorem dX11_back_60 : decode cX11_back 60 = .ok (.istore_n 2, 1) := by decide +kernel
theorem dX11_back_61 : decode cX11_back 61 = .ok (.iinc 3 1, 3) := by decide +kernel
theorem dX11_back_64 : decode cX11_back 64 = .ok (.goto (-34), 3) := by decide +kernel
theorem dX11_back_67 : decode cX11_back 67 = .ok (.aload_n 0, 1) := by decide +kernel
theorem dX11_back_68 : decode cX11_back 68 = .ok (.getfield 10, 3) := by decide +kernel
theorem dX11_back_71 : decode cX11_back 71 = .ok (.iconst 0, 1) := by decide +kernel
theorem dX11_back_72 : decode cX11_back 72 = .ok (.putfield 94, 3) := by decide +kernel
theorem dX11_back_75 : decode cX11_back 75 = .ok (.iload_n 2, 1) := by decide +kernel
theorem dX11_back_76 : decode cX11_back 76 = .ok (.ireturn, 1) := by decide +kernel
def f_X11_back_u24 (Q : Int → ml_St → Prop) (σ : ml_St) : Prop :=
Q (-1) σ
def f_X11_back_u61 (Q : Int → ml_St → Prop) (K30 : ml_St → Int → Int → Int → Prop) (σ : ml_St) (x1 : Int) (x2 : Int) (x3 : Int) : Prop :=
I32 (x3 + 1) ∧
∀ y1 : Int, y1 = x3 + 1 →
K30 σ x1 x2 y1
def f_X11_back_u30 (Q : Int → ml_St → Prop) (K67 : ml_St → Int → Prop) : Nat → ml_St → Int → Int → Int → Prop
| 0, _, _, _, _ => False
| N + 1, σ, x1, x2, x3 =>
∀ _ : I32 (σ 1 12),
((σ 1 12) ≤ x3 →
K67 σ x2) ∧
(¬ ((σ 1 12) ≤ x3) →
f_X11_isMade σ x3 (fun r3 σ3 => ∀ _ : ml_B r3,
(r3 = 0 →
f_X11_back_u61 Q (f_X11_back_u30 Q K67 N) σ3 x1 x2 x3) ∧
(r3 ≠ 0 →
False)))
def f_X11_back_u67 (Q : Int → ml_St → Prop) (σ : ml_St) (x2 : Int) : Prop :=
∀ σ1, σ1 = ml_up σ 2 1 0 →
Q x2 σ1
def f_X11_back_u0 (Q : Int → ml_St → Prop) (σ : ml_St) (x1 : Int) : Prop :=
(x1 < 1 →
f_X11_back_u24 Q σ) ∧
(¬ (x1 < 1) →
(8 < x1 →
f_X11_back_u24 Q σ) ∧
(¬ (8 < x1) →
∀ _ : I32 (σ 2 1),
I32 (4 * x1) ∧
((4 * x1) ≤ ((σ 2 1) : Int) →
∃ N1, f_X11_back_u30 Q (f_X11_back_u67 Q) N1 σ x1 0 0) ∧
(¬ ((4 * x1) ≤ ((σ 2 1) : Int)) →
f_X11_back_u24 Q σ)))
def f_X11_back (σ : ml_St) (x1 : Int) (Q : Int → ml_St → Prop) : Prop := f_X11_back_u0 Q σ x1
def rm_X11_back : Room := { frames := 2, cells := 0, slots := 0, locals := 42 }
set_option maxRecDepth 100000 in
set_option maxHeartbeats 4000000 in
theorem u_X11_back_24 {p : Program} {e : Env} {s : State} {m : MethodId} {args : Array Value} {below : List Frame} {meth : Method} {c : Code} {base : Nat} {D : va_G} {cA : Nat → ClassId} {n : Nat} {l : Launch} {Q : Int → ml_St → Prop} (X : ml_X p s m c meth args D cA cX11_back 4 RX11 (some .int)) (hn : 214 ≤ n) (σ : ml_St) (ls : Array Slot) (hl : lv_has ls 4 []) (hw : f_X11_back_u24 Q σ) : ml_V p l e rm_X11_back s m args below meth c (MQ below (ml_Qi I32 base D cA n Q) args s 0 0 (ml_A base)) base D cA 0 0 n n σ (F0 m 24 ls []) := by
  unfold f_X11_back_u24 at hw
  refine ml_iconst (pc := 24) X dX11_back_24 ?_
  exact ml_iret (pc := 25) X ⟨by decide, by decide⟩ hw dX11_back_25
set_option maxRecDepth 100000 in
set_option maxHeartbeats 4000000 in
theorem u_X11_back_61 {p : Program} {e : Env} {s : State} {m : MethodId} {args : Array Value} {below : List Frame} {meth : Method} {c : Code} {base : Nat} {D : va_G} {cA : Nat → ClassId} {n : Nat} {l : Launch} {Q : Int → ml_St → Prop} {K30 : ml_St → Int → Int → Int → Prop} (X : ml_X p s m c meth args D cA cX11_back 4 RX11 (some .int)) (hn : 214 ≤ n) (hK30 : ∀ (σ : ml_St) (x1 : Int) (x2 : Int) (x3 : Int) (h_x1 : I32 x1) (h_x2 : I32 x2) (h_x3 : I32 x3) (ls : Array Slot), lv_has ls 4 [(0, .ref (base + (1 : Int).toNat)), (1, .int (Int32.ofInt x1)), (2, .int (Int32.ofInt x2)), (3, .int (Int32.ofInt x3))] → K30 σ x1 x2 x3 → ml_V p l e rm_X11_back s m args below meth c (MQ below (ml_Qi I32 base D cA n Q) args s 0 0 (ml_A base)) base D cA 0 0 n n σ (F0 m 30 ls [])) (σ : ml_St) (x1 : Int) (x2 : Int) (x3 : Int) (h_x1 : I32 x1) (h_x2 : I32 x2) (h_x3 : I32 x3) (ls : Array Slot) (hl : lv_has ls 4 [(0, .ref (base + (1 : Int).toNat)), (1, .int (Int32.ofInt x1)), (2, .int (Int32.ofInt x2)), (3, .int (Int32.ofInt x3))]) (hw : f_X11_back_u61 Q K30 σ x1 x2 x3) : ml_V p l e rm_X11_back s m args below meth c (MQ below (ml_Qi I32 base D cA n Q) args s 0 0 (ml_A base)) base D cA 0 0 n n σ (F0 m 61 ls []) := by
  unfold f_X11_back_u61 at hw
  obtain ⟨v1, hw⟩ := hw
  obtain ⟨y1, e1⟩ : ∃ y : Int, y = x3 + 1 := ⟨_, rfl⟩
  have hw := hw y1 e1
  rw [← e1] at v1
  refine ml_iinc (pc := 61) X e1 hl 3 rfl (by decide) (lst' := [(3, .int (Int32.ofInt y1)), (0, .ref (base + (1 : Int).toNat)), (1, .int (Int32.ofInt x1)), (2, .int (Int32.ofInt x2))]) rfl dX11_back_61 (fun ls hl => ?_)
  refine ml_goto (pc := 64) (tgt := 30) X dX11_back_64 (by decide) ?_
  exact hK30 σ x1 x2 y1 h_x1 h_x2 v1 _ (lv_sub hl [1, 2, 3, 0] rfl) hw
set_option maxRecDepth 100000 in
set_option maxHeartbeats 4000000 in
theorem u_X11_back_30 {p : Program} {e : Env} {s : State} {m : MethodId} {args : Array Value} {below : List Frame} {meth : Method} {c : Code} {base : Nat} {D : va_G} {cA : Nat → ClassId} {n : Nat} {l : Launch} {Q : Int → ml_St → Prop} {K67 : ml_St → Int → Prop} (X : ml_X p s m c meth args D cA cX11_back 4 RX11 (some .int)) (hn : 214 ≤ n) (hK67 : ∀ (σ : ml_St) (x2 : Int) (h_x2 : I32 x2) (ls : Array Slot), lv_has ls 4 [(0, .ref (base + (1 : Int).toNat)), (2, .int (Int32.ofInt x2))] → K67 σ x2 → ml_V p l e rm_X11_back s m args below meth c (MQ below (ml_Qi I32 base D cA n Q) args s 0 0 (ml_A base)) base D cA 0 0 n n σ (F0 m 67 ls [])) : ∀ (N : Nat) (σ : ml_St) (x1 : Int) (x2 : Int) (x3 : Int) (h_x1 : I32 x1) (h_x2 : I32 x2) (h_x3 : I32 x3) (ls : Array Slot), lv_has ls 4 [(0, .ref (base + (1 : Int).toNat)), (1, .int (Int32.ofInt x1)), (2, .int (Int32.ofInt x2)), (3, .int (Int32.ofInt x3))] → f_X11_back_u30 Q K67 N σ x1 x2 x3 → ml_V p l e rm_X11_back s m args below meth c (MQ below (ml_Qi I32 base D cA n Q) args s 0 0 (ml_A base)) base D cA 0 0 n n σ (F0 m 30 ls []) := by
  intro N
  induction N with
  | zero => intro σ x1 x2 x3 h_x1 h_x2 h_x3 ls hl hw; exact False.elim hw
  | succ N ih =>
    intro σ x1 x2 x3 h_x1 h_x2 h_x3 ls hl hw
    unfold f_X11_back_u30 at hw
    refine ml_iload_n (pc := 30) X hl 3 rfl rfl dX11_back_30 ?_
    refine ml_aload_n (pc := 31) X hl 0 rfl rfl dX11_back_31 ?_
    refine gf_X11_86 (pc := 32) X (ml_c1 hn) dX11_back_32 (fun r1 => ?_)
    have hw := hw r1
    refine ml_icmp_ge (pc := 35) (tgt := 67) X h_x3 r1 dX11_back_35 (by decide) (fun c2 => ?_) (fun c2 => ?_)
    · have hw := hw.1 c2
      exact hK67 σ x2 h_x2 _ (lv_sub hl [0, 2] rfl) hw
    · have hw := hw.2 c2
      refine ml_aload_n (pc := 38) X hl 0 rfl rfl dX11_back_38 ?_
      refine ml_iload_n (pc := 39) X hl 3 rfl rfl dX11_back_39 ?_
      refine ml_callzV (pc := 40) (rest := []) X [.int (Int32.ofInt x3)] (by decide) rfl (ml_c1 hn) (c_X11_isMade l base D cA n hn σ x3 h_x3 _ hw) cv_X11_121 ⟨rfl, rfl⟩ ⟨by decide, by decide⟩ rfl rfl hl (Nat.le_of_ble_eq_true rfl) ⟨Nat.zero_le _, Nat.zero_le _⟩ dX11_back_40 (fun r3 σ3 t3 hw => ?_)
      have hw := hw t3
      refine ml_if_eq (pc := 43) (tgt := 61) X t3.i dX11_back_43 (by decide) (fun c4 => ?_) (fun c4 => ?_)
      · have hw := hw.1 c4
        exact u_X11_back_61 X hn ih σ3 x1 x2 x3 h_x1 h_x2 h_x3 _ (lv_sub hl [0, 1, 2, 3] rfl) hw
      · have hw := hw.2 c4
        refine ml_aload_n (pc := 46) X hl 0 rfl rfl dX11_back_46 ?_
        refine ml_iload_n (pc := 47) X hl 3 rfl rfl dX11_back_47 ?_
        refine ml_iload_n (pc := 48) X hl 1 rfl rfl dX11_back_48 ?_
        exact hw.elim
set_option maxRecDepth 100000 in
set_option maxHeartbeats 4000000 in
theorem u_X11_back_67 {p : Program} {e : Env} {s : State} {m : MethodId} {args : Array Value} {below : List Frame} {meth : Method} {c : Code} {base : Nat} {D : va_G} {cA : Nat → ClassId} {n : Nat} {l : Launch} {Q : Int → ml_St → Prop} (X : ml_X p s m c meth args D cA cX11_back 4 RX11 (some .int)) (hn : 214 ≤ n) (σ : ml_St) (x2 : Int) (h_x2 : I32 x2) (ls : Array Slot) (hl : lv_has ls 4 [(0, .ref (base + (1 : Int).toNat)), (2, .int (Int32.ofInt x2))]) (hw : f_X11_back_u67 Q σ x2) : ml_V p l e rm_X11_back s m args below meth c (MQ below (ml_Qi I32 base D cA n Q) args s 0 0 (ml_A base)) base D cA 0 0 n n σ (F0 m 67 ls []) := by
  unfold f_X11_back_u67 at hw
  refine ml_aload_n (pc := 67) X hl 0 rfl rfl dX11_back_67 ?_
  refine gf_X11_10 (pc := 68) X (ml_c1 hn) dX11_back_68 ?_
  refine ml_iconst (pc := 71) X dX11_back_71 ?_
  refine pf_X11_94 (pc := 72) X (ml_c2 hn) ⟨by decide, by decide⟩ dX11_back_72 (fun σ1 g1 => ?_)
  have hw := hw σ1 g1
  refine ml_iload_n (pc := 75) X hl 1 rfl rfl dX11_back_75 ?_
  exact ml_iret (pc := 76) X h_x2 hw dX11_back_76
set_option maxRecDepth 100000 in
set_option maxHeartbeats 4000000 in
theorem u_X11_back_0 {p : Program} {e : Env} {s : State} {m : MethodId} {args : Array Value} {below : List Frame} {meth : Method} {c : Code} {base : Nat} {D : va_G} {cA : Nat → ClassId} {n : Nat} {l : Launch} {Q : Int → ml_St → Prop} (X : ml_X p s m c meth args D cA cX11_back 4 RX11 (some .int)) (hn : 214 ≤ n) (σ : ml_St) (x1 : Int) (h_x1 : I32 x1) (ls : Array Slot) (hl : lv_has ls 4 [(0, .ref (base + (1 : Int).toNat)), (1, .int (Int32.ofInt x1))]) (hw : f_X11_back_u0 Q σ x1) : ml_V p l e rm_X11_back s m args below meth c (MQ below (ml_Qi I32 base D cA n Q) args s 0 0 (ml_A base)) base D cA 0 0 n n σ (F0 m 0 ls []) := by
  unfold f_X11_back_u0 at hw
  refine ml_iload_n (pc := 0) X hl 1 rfl rfl dX11_back_0 ?_
  refine ml_iconst (pc := 1) X dX11_back_1 ?_
  refine ml_icmp_lt (pc := 2) (tgt := 24) X h_x1 ⟨by decide, by decide⟩ dX11_back_2 (by decide) (fun c1 => ?_) (fun c1 => ?_)
  · have hw := hw.1 c1
    exact u_X11_back_24 X hn σ   _ (lv_sub hl [] rfl) hw
  · have hw := hw.2 c1
    refine ml_iload_n (pc := 5) X hl 1 rfl rfl dX11_back_5 ?_
    refine ml_bipush (pc := 6) X dX11_back_6 (by decide) ?_
    refine ml_icmp_gt (pc := 8) (tgt := 24) X h_x1 ⟨by decide, by decide⟩ dX11_back_8 (by decide) (fun c2 => ?_) (fun c2 => ?_)
    · have hw := hw.1 c2
      exact u_X11_back_24 X hn σ   _ (lv_sub hl [] rfl) hw
    · have hw := hw.2 c2
      refine ml_aload_n (pc := 11) X hl 0 rfl rfl dX11_back_11 ?_
      refine gf_X11_10 (pc := 12) X (ml_c1 hn) dX11_back_12 ?_
      refine gf_X11_94 (pc := 15) X (ml_c2 hn) dX11_back_15 (fun r3 => ?_)
      have hw := hw r3
      refine ml_iconst (pc := 18) X dX11_back_18 ?_
      refine ml_iload_n (pc := 19) X hl 1 rfl rfl dX11_back_19 ?_
      obtain ⟨v4, hw⟩ := hw
      refine ml_imul (pc := 20) X dX11_back_20 ?_
      refine ml_icmp_ge (pc := 21) (tgt := 26) X r3 v4 dX11_back_21 (by decide) (fun c5 => ?_) (fun c5 => ?_)
      · have hw := hw.1 c5
        refine ml_iconst (pc := 26) X dX11_back_26 ?_
        refine ml_istore_n (pc := 27) X rfl hl (by decide) (lst' := [(2, .int (Int32.ofInt 0)), (0, .ref (base + (1 : Int).toNat)), (1, .int (Int32.ofInt x1))]) rfl dX11_back_27 (fun ls hl => ?_)
        refine ml_iconst (pc := 28) X dX11_back_28 ?_
        refine ml_istore_n (pc := 29) X rfl hl (by decide) (lst' := [(3, .int (Int32.ofInt 0)), (2, .int (Int32.ofInt 0)), (0, .ref (base + (1 : Int).toNat)), (1, .int (Int32.ofInt x1))]) rfl dX11_back_29 (fun ls hl => ?_)
        obtain ⟨N0, hw⟩ := hw
        exact u_X11_back_30 X hn (fun σ x2 h_x2 ls hl hw => u_X11_back_67 X hn σ x2 h_x2 ls hl hw) N0 σ x1 0 0 h_x1 ⟨by decide, by decide⟩ ⟨by decide, by decide⟩ _ (lv_sub hl [2, 3, 1, 0] rfl) hw
      · have hw := hw.2 c5
        exact u_X11_back_24 X hn σ   _ (lv_sub hl [] rfl) hw
set_option maxRecDepth 100000 in
theorem c_X11_back (l : Launch) (base : Nat) (D : va_G) (cA : Nat → ClassId) (n : Nat) (hn : 214 ≤ n) (σ : ml_St) (x1 : Int) (h_x1 : I32 x1) (Q : Int → ml_St → Prop) (hw : f_X11_back σ x1 Q) : Met l yX11_back (Cond.code yX11_back cX11_back 4 (some .int) :: ml_T) rm_X11_back (va_Pc [.ref (base + (1 : Int).toNat), .int (Int32.ofInt x1)] (ml_U base D cA n σ)) (ml_Qi I32 base D cA n Q) 0 0 (ml_A base) := by
  refine Met.ofW (cc := cX11_back) (maxL := 4) (ret := (some .int)) (by decide) rfl ?_
  intro p e s m args below meth c s₁ B hml hv
  obtain ⟨rfl, hP, hK, hok, hro⟩ := hv
  have X : ml_X p s m c meth _ D cA cX11_back 4 RX11 (some .int) := ⟨B.exec, B.bytes, hml, findClass_of_methodNamed B.named, fun w hw => atoms_spec (ws := Cond.code yX11_back cX11_back 4 (some .int) :: ml_T) B.pre w (List.mem_cons_of_mem _ hw), hK, B.notSynchronized, B.returns⟩
  have hl := lv_entry [.ref (base + (1 : Int).toNat), .int (Int32.ofInt x1)] (n := 4) (Nat.le_of_ble_eq_true rfl)
  rw [lg_entry_eq]
  generalize (lg_sl [.ref (base + (1 : Int).toNat), .int (Int32.ofInt x1)] ++ List.replicate (4 - (lg_sl [.ref (base + (1 : Int).toNat), .int (Int32.ofInt x1)]).length) Slot.unset).toArray = ls at hl ⊢
  have hl : lv_has ls 4 [(0, .ref (base + (1 : Int).toNat)), (1, .int (Int32.ofInt x1))] := hl
  unfold f_X11_back at hw
  exact u_X11_back_0 X hn σ x1 h_x1 _ (lv_sub hl [0, 1] rfl) hw s.heap [] hP va_S.rf hok hro
theorem dX11_walk_0 : decode cX11_walk 0 = .ok (.aload_n 0, 1) := by decide +kernel
theorem dX11_walk_1 : decode cX11_walk 1 = .ok (.iload_n 1, 1) := by decide +kernel
theorem dX11_walk_2 : decode cX11_walk 2 = .ok (.invokevirtual 104, 3) := by decide +kernel
theorem dX11_walk_5 : decode cX11_walk 5 = .ok (.ifCond .eq 35, 3) := by decide +kernel
theorem dX11_walk_8 : decode cX11_walk 8 = .ok (.aload_n 0, 1) := by decide +kernel
theorem dX11_walk_9 : decode cX11_walk 9 = .ok (.getfield 67, 3) := by decide +kernel
theorem dX11_walk_12 : decode cX11_walk 12 = .ok (.iload_n 1, 1) := by decide +kernel
theorem dX11_walk_13 : decode cX11_walk 13 = .ok (.aaload, 1) := by decide +kernel
theorem dX11_walk_14 : decode cX11_walk 14 = .ok (.getfield 112, 3) := by decide +kernel
theorem dX11_walk_17 : decode cX11_walk 17 = .ok (.getfield 115, 3) := by decide +kernel
theorem dX11_walk_20 : decode cX11_walk 20 = .ok (.ldc2_w 262, 3) := by decide +kernel
theorem dX11_walk_23 : decode cX11_walk 23 = .ok (.lcmp, 1) := by decide +kernel
theorem dX11_walk_24 : decode cX11_walk 24 = .ok (.ifCond .gt 16, 3) := by decide +kernel
theorem dX11_walk_27 : decode cX11_walk 27 = .ok (.aload_n 0, 1) := by decide +kernel
theorem dX11_walk_28 : decode cX11_walk 28 = .ok (.iload_n 2, 1) := by decide +kernel
theorem dX11_walk_29 : decode cX11_walk 29 = .ok (.invokevirtual 124, 3) := by decide +kernel
theorem dX11_walk_32 : decode cX11_walk 32 = .ok (.ifCond .eq 8, 3) := by decide +kernel
theorem dX11_walk_35 : decode cX11_walk 35 = .ok (.iload_n 3, 1) := by decide +kernel
theorem dX11_walk_36 : decode cX11_walk 36 = .ok (.iconst (-1), 1) := by decide +kernel
theorem dX11_walk_37 : decode cX11_walk 37 = .ok (.if_icmp .ge 5, 3) := by decide +kernel
theorem dX11_walk_40 : decode cX11_walk 40 = .ok (.iconst (-1), 1) := by decide +kernel
theorem dX11_walk_41 : decode cX11_walk 41 = .ok (.ireturn, 1) := by decide +kernel
theorem dX11_walk_42 : decode cX11_walk 42 = .ok (.iconst 0, 1) := by decide +kernel
theorem dX11_walk_43 : decode cX11_walk 43 = .ok (.istore 4, 2) := by decide +kernel
theorem dX11_walk_45 : decode cX11_walk 45 = .ok (.iload 4, 2) := by decide +kernel
theorem dX11_walk_47 : decode cX11_walk 47 = .ok (.iload_n 1, 1) := by decide +kernel
theorem dX11_walk_48 : decode cX11_walk 48 = .ok (.if_icmp .gt 40, 3) := by decide +kernel
theorem dX11_walk_51 : decode cX11_walk 51 = .ok (.aload_n 0, 1) := by decide +kernel
theorem dX11_walk_52 : decode cX11_walk 52 = .ok (.getfield 67, 3) := by decide +kernel
theorem dX11_walk_55 : decode cX11_walk 55 = .ok (.iload 4, 2) := by decide +kernel
theorem dX11_walk_57 : decode cX11_walk 57 = .ok (.aaload, 1) := by decide +kernel
theorem dX11_walk_58 : decode cX11_walk 58 = .ok (.getfield 264, 3) := by decide +kernel
theorem dX11_walk_61 : decode cX11_walk 61 = .ok (.ifCond .ne 21, 3) := by decide +kernel
theorem dX11_walk_64 : decode cX11_walk 64 = .ok (.aload_n 0, 1) := by decide +kernel
theorem dX11_walk_65 : decode cX11_walk 65 = .ok (.getfield 33, 3) := by decide +kernel
theorem dX11_walk_68 : decode cX11_walk 68 = .ok (.aload_n 0, 1) := by decide +kernel
theorem dX11_walk_69 : decode cX11_walk 69 = .ok (.getfield 67, 3) := by decide +kernel
theorem dX11_walk_72 : decode cX11_walk 72 = .ok (.iload 4, 2) := by decide +kernel
theorem dX11_walk_74 : decode cX11_walk 74 = .ok (.aaload, 1) := by decide +kernel
theorem dX11_walk_75 : decode cX11_walk 75 = .ok (.aload_n 0, 1) := by decide +kernel
theorem dX11_walk_76 : decode cX11_walk 76 = .ok (.getfield 67, 3) := by decide +kernel
theorem dX11_walk_79 : decode cX11_walk 79 = .ok (.invokevirtual 267, 3) := by decide +kernel
theorem dX11_walk_82 : decode cX11_walk 82 = .ok (.iinc 4 1, 3) := by decide +kernel
theorem dX11_walk_85 : decode cX11_walk 85 = .ok (.goto (-40), 3) := by decide +kernel
theorem dX11_walk_88 : decode cX11_walk 88 = .ok (.aload_n 0, 1) := by decide +kernel
theorem dX11_walk_89 : decode cX11_walk 89 = .ok (.getfield 67, 3) := by decide +kernel
theorem dX11_walk_92 : decode cX11_walk 92 = .ok (.iload_n 1, 1) := by decide +kernel
theorem dX11_walk_93 : decode cX11_walk 93 = .ok (.aaload, 1) := by decide +kernel
theorem dX11_walk_94 : decode cX11_walk 94 = .ok (.iload_n 2, 1) := by decide +kernel
theorem dX11_walk_95 : decode cX11_walk 95 = .ok (.iload_n 3, 1) := by decide +kernel
theorem dX11_walk_96 : decode cX11_walk 96 = .ok (.aload_n 0, 1) := by decide +kernel
theorem dX11_walk_97 : decode cX11_walk 97 = .ok (.getfield 82, 3) := by decide +kernel
theorem dX11_walk_100 : decode cX11_walk 100 = .ok (.invokevirtual 271, 3) := by decide +kernel
theorem dX11_walk_103 : decode cX11_walk 103 = .ok (.ireturn, 1) := by decide +kernel
def f_X11_walk_u40 (Q : Int → ml_St → Prop) (σ : ml_St) : Prop :=
Q (-1) σ
def f_X11_walk_u82 (Q : Int → ml_St → Prop) (K45 : ml_St → Int → Int → Int → Int → Prop) (σ : ml_St) (x1 : Int) (x2 : Int) (x3 : Int) (x4 : Int) : Prop :=
I32 (x4 + 1) ∧
∀ y1 : Int, y1 = x4 + 1 →
K45 σ x1 x2 x3 y1
def f_X11_walk_u45 (Q : Int → ml_St → Prop) (K88 : ml_St → Int → Int → Int → Prop) : Nat → ml_St → Int → Int → Int → Int → Prop
| 0, _, _, _, _, _ => False
| N + 1, σ, x1, x2, x3, x4 =>
(x1 < x4 →
K88 σ x1 x2 x3) ∧
(¬ (x1 < x4) →
(0 : Int) ≤ x4 ∧ (x4 : Int) < 16 ∧
∀ _ : ml_B (σ (119 + 6 * x4) 7),
(((σ (119 + 6 * x4) 7) : Int) ≠ 0 →
f_X11_walk_u82 Q (f_X11_walk_u45 Q K88 N) σ x1 x2 x3 x4) ∧
((σ (119 + 6 * x4) 7) = 0 →
(0 : Int) ≤ x4 ∧ (x4 : Int) < 16 ∧
False))
def f_X11_walk_u88 (Q : Int → ml_St → Prop) (σ : ml_St) (x1 : Int) (x2 : Int) (x3 : Int) : Prop :=
(0 : Int) ≤ x1 ∧ (x1 : Int) < 16 ∧
∀ _ : I32 (σ 1 11),
False
def f_X11_walk_u0 (Q : Int → ml_St → Prop) (σ : ml_St) (x1 : Int) (x2 : Int) (x3 : Int) : Prop :=
f_X11_isTold σ x1 (fun r1 σ1 => ∀ _ : ml_B r1,
(r1 = 0 →
f_X11_walk_u40 Q σ1) ∧
(r1 ≠ 0 →
(0 : Int) ≤ x1 ∧ (x1 : Int) < 16 ∧
∀ _ : I64 (σ1 ((119 + 6 * x1) + 2) 5),
(2000 < ((σ1 ((119 + 6 * x1) + 2) 5) : Int) →
f_X11_walk_u40 Q σ1) ∧
(¬ (2000 < ((σ1 ((119 + 6 * x1) + 2) 5) : Int)) →
f_X11_isEnd σ1 x2 (fun r6 σ6 => ∀ _ : ml_B r6,
(r6 = 0 →
f_X11_walk_u40 Q σ6) ∧
(r6 ≠ 0 →
((-1) ≤ x3 →
∃ N1, f_X11_walk_u45 Q (f_X11_walk_u88 Q) N1 σ6 x1 x2 x3 0) ∧
(¬ ((-1) ≤ x3) →
f_X11_walk_u40 Q σ6))))))
def f_X11_walk (σ : ml_St) (x1 : Int) (x2 : Int) (x3 : Int) (Q : Int → ml_St → Prop) : Prop := f_X11_walk_u0 Q σ x1 x2 x3
def rm_X11_walk : Room := { frames := 1, cells := 0, slots := 0, locals := 21 }
set_option maxRecDepth 100000 in
set_option maxHeartbeats 4000000 in
theorem u_X11_walk_40 {p : Program} {e : Env} {s : State} {m : MethodId} {args : Array Value} {below : List Frame} {meth : Method} {c : Code} {base : Nat} {D : va_G} {cA : Nat → ClassId} {n : Nat} {l : Launch} {Q : Int → ml_St → Prop} (X : ml_X p s m c meth args D cA cX11_walk 5 RX11 (some .int)) (hn : 214 ≤ n) (σ : ml_St) (ls : Array Slot) (hl : lv_has ls 5 []) (hw : f_X11_walk_u40 Q σ) : ml_V p l e rm_X11_walk s m args below meth c (MQ below (ml_Qi I32 base D cA n Q) args s 0 0 (ml_A base)) base D cA 0 0 n n σ (F0 m 40 ls []) := by
  unfold f_X11_walk_u40 at hw
  refine ml_iconst (pc := 40) X dX11_walk_40 ?_
  exact ml_iret (pc := 41) X ⟨by decide, by decide⟩ hw dX11_walk_41
set_option maxRecDepth 100000 in
set_option maxHeartbeats 4000000 in
theorem u_X11_walk_82 {p : Program} {e : Env} {s : State} {m : MethodId} {args : Array Value} {below : List Frame} {meth : Method} {c : Code} {base : Nat} {D : va_G} {cA : Nat → ClassId} {n : Nat} {l : Launch} {Q : Int → ml_St → Prop} {K45 : ml_St → Int → Int → Int → Int → Prop} (X : ml_X p s m c meth args D cA cX11_walk 5 RX11 (some .int)) (hn : 214 ≤ n) (hK45 : ∀ (σ : ml_St) (x1 : Int) (x2 : Int) (x3 : Int) (x4 : Int) (h_x1 : I32 x1) (h_x2 : I32 x2) (h_x3 : I32 x3) (h_x4 : I32 x4) (ls : Array Slot), lv_has ls 5 [(0, .ref (base + (1 : Int).toNat)), (1, .int (Int32.ofInt x1)), (2, .int (Int32.ofInt x2)), (3, .int (Int32.ofInt x3)), (4, .int (Int32.ofInt x4))] → K45 σ x1 x2 x3 x4 → ml_V p l e rm_X11_walk s m args below meth c (MQ below (ml_Qi I32 base D cA n Q) args s 0 0 (ml_A base)) base D cA 0 0 n n σ (F0 m 45 ls [])) (σ : ml_St) (x1 : Int) (x2 : Int) (x3 : Int) (x4 : Int) (h_x1 : I32 x1) (h_x2 : I32 x2) (h_x3 : I32 x3) (h_x4 : I32 x4) (ls : Array Slot) (hl : lv_has ls 5 [(0, .ref (base + (1 : Int).toNat)), (1, .int (Int32.ofInt x1)), (2, .int (Int32.ofInt x2)), (3, .int (Int32.ofInt x3)), (4, .int (Int32.ofInt x4))]) (hw : f_X11_walk_u82 Q K45 σ x1 x2 x3 x4) : ml_V p l e rm_X11_walk s m args below meth c (MQ below (ml_Qi I32 base D cA n Q) args s 0 0 (ml_A base)) base D cA 0 0 n n σ (F0 m 82 ls []) := by
  unfold f_X11_walk_u82 at hw
  obtain ⟨v1, hw⟩ := hw
  obtain ⟨y1, e1⟩ : ∃ y : Int, y = x4 + 1 := ⟨_, rfl⟩
  have hw := hw y1 e1
  rw [← e1] at v1
  refine ml_iinc (pc := 82) X e1 hl 4 rfl (by decide) (lst' := [(4, .int (Int32.ofInt y1)), (0, .ref (base + (1 : Int).toNat)), (1, .int (Int32.ofInt x1)), (2, .int (Int32.ofInt x2)), (3, .int (Int32.ofInt x3))]) rfl dX11_walk_82 (fun ls hl => ?_)
  refine ml_goto (pc := 85) (tgt := 45) X dX11_walk_85 (by decide) ?_
  exact hK45 σ x1 x2 x3 y1 h_x1 h_x2 h_x3 v1 _ (lv_sub hl [1, 2, 3, 4, 0] rfl) hw
set_option maxRecDepth 100000 in
set_option maxHeartbeats 4000000 in
theorem u_X11_walk_45 {p : Program} {e : Env} {s : State} {m : MethodId} {args : Array Value} {below : List Frame} {meth : Method} {c : Code} {base : Nat} {D : va_G} {cA : Nat → ClassId} {n : Nat} {l : Launch} {Q : Int → ml_St → Prop} {K88 : ml_St → Int → Int → Int → Prop} (X : ml_X p s m c meth args D cA cX11_walk 5 RX11 (some .int)) (hn : 214 ≤ n) (hK88 : ∀ (σ : ml_St) (x1 : Int) (x2 : Int) (x3 : Int) (h_x1 : I32 x1) (h_x2 : I32 x2) (h_x3 : I32 x3) (ls : Array Slot), lv_has ls 5 [(0, .ref (base + (1 : Int).toNat)), (1, .int (Int32.ofInt x1)), (2, .int (Int32.ofInt x2)), (3, .int (Int32.ofInt x3))] → K88 σ x1 x2 x3 → ml_V p l e rm_X11_walk s m args below meth c (MQ below (ml_Qi I32 base D cA n Q) args s 0 0 (ml_A base)) base D cA 0 0 n n σ (F0 m 88 ls [])) : ∀ (N : Nat) (σ : ml_St) (x1 : Int) (x2 : Int) (x3 : Int) (x4 : Int) (h_x1 : I32 x1) (h_x2 : I32 x2) (h_x3 : I32 x3) (h_x4 : I32 x4) (ls : Array Slot), lv_has ls 5 [(0, .ref (base + (1 : Int).toNat)), (1, .int (Int32.ofInt x1)), (2, .int (Int32.ofInt x2)), (3, .int (Int32.ofInt x3)), (4, .int (Int32.ofInt x4))] → f_X11_walk_u45 Q K88 N σ x1 x2 x3 x4 → ml_V p l e rm_X11_walk s m args below meth c (MQ below (ml_Qi I32 base D cA n Q) args s 0 0 (ml_A base)) base D cA 0 0 n n σ (F0 m 45 ls []) := by
  intro N
  induction N with
  | zero => intro σ x1 x2 x3 x4 h_x1 h_x2 h_x3 h_x4 ls hl hw; exact False.elim hw
  | succ N ih =>
    intro σ x1 x2 x3 x4 h_x1 h_x2 h_x3 h_x4 ls hl hw
    unfold f_X11_walk_u45 at hw
    refine ml_iload (pc := 45) X hl 4 rfl dX11_walk_45 ?_
    refine ml_iload_n (pc := 47) X hl 1 rfl rfl dX11_walk_47 ?_
    refine ml_icmp_gt (pc := 48) (tgt := 88) X h_x4 h_x1 dX11_walk_48 (by decide) (fun c1 => ?_) (fun c1 => ?_)
    · have hw := hw.1 c1
      exact hK88 σ x1 x2 x3 h_x1 h_x2 h_x3 _ (lv_sub hl [0, 1, 2, 3] rfl) hw
    · have hw := hw.2 c1
      refine ml_aload_n (pc := 51) X hl 0 rfl rfl dX11_walk_51 ?_
      refine gf_X11_67 (pc := 52) X (ml_c1 hn) dX11_walk_52 ?_
      refine ml_iload (pc := 55) X hl 4 rfl dX11_walk_55 ?_
      obtain ⟨a2, b2, hw⟩ := hw
      refine ml_aald_words (pc := 57) X hn a2 b2 dX11_walk_57 ?_
      refine gf_X11_264 (pc := 58) X (ml_at_words hn a2 b2) dX11_walk_58 (fun r3 => ?_)
      have hw := hw r3
      refine ml_if_ne (pc := 61) (tgt := 82) X r3.i dX11_walk_61 (by decide) (fun c4 => ?_) (fun c4 => ?_)
      · have hw := hw.1 c4
        exact u_X11_walk_82 X hn ih σ x1 x2 x3 x4 h_x1 h_x2 h_x3 h_x4 _ (lv_sub hl [0, 1, 2, 3, 4] rfl) hw
      · have hw := hw.2 c4
        refine ml_aload_n (pc := 64) X hl 0 rfl rfl dX11_walk_64 ?_
        refine gf_X11_33 (pc := 65) X (ml_c1 hn) dX11_walk_65 ?_
        refine ml_aload_n (pc := 68) X hl 0 rfl rfl dX11_walk_68 ?_
        refine gf_X11_67 (pc := 69) X (ml_c1 hn) dX11_walk_69 ?_
        refine ml_iload (pc := 72) X hl 4 rfl dX11_walk_72 ?_
        obtain ⟨a5, b5, hw⟩ := hw
        refine ml_aald_words (pc := 74) X hn a5 b5 dX11_walk_74 ?_
        refine ml_aload_n (pc := 75) X hl 0 rfl rfl dX11_walk_75 ?_
        refine gf_X11_67 (pc := 76) X (ml_c1 hn) dX11_walk_76 ?_
        exact hw.elim
set_option maxRecDepth 100000 in
set_option maxHeartbeats 4000000 in
theorem u_X11_walk_88 {p : Program} {e : Env} {s : State} {m : MethodId} {args : Array Value} {below : List Frame} {meth : Method} {c : Code} {base : Nat} {D : va_G} {cA : Nat → ClassId} {n : Nat} {l : Launch} {Q : Int → ml_St → Prop} (X : ml_X p s m c meth args D cA cX11_walk 5 RX11 (some .int)) (hn : 214 ≤ n) (σ : ml_St) (x1 : Int) (x2 : Int) (x3 : Int) (h_x1 : I32 x1) (h_x2 : I32 x2) (h_x3 : I32 x3) (ls : Array Slot) (hl : lv_has ls 5 [(0, .ref (base + (1 : Int).toNat)), (1, .int (Int32.ofInt x1)), (2, .int (Int32.ofInt x2)), (3, .int (Int32.ofInt x3))]) (hw : f_X11_walk_u88 Q σ x1 x2 x3) : ml_V p l e rm_X11_walk s m args below meth c (MQ below (ml_Qi I32 base D cA n Q) args s 0 0 (ml_A base)) base D cA 0 0 n n σ (F0 m 88 ls []) := by
  unfold f_X11_walk_u88 at hw
  refine ml_aload_n (pc := 88) X hl 0 rfl rfl dX11_walk_88 ?_
  refine gf_X11_67 (pc := 89) X (ml_c1 hn) dX11_walk_89 ?_
  refine ml_iload_n (pc := 92) X hl 1 rfl rfl dX11_walk_92 ?_
  obtain ⟨a1, b1, hw⟩ := hw
  refine ml_aald_words (pc := 93) X hn a1 b1 dX11_walk_93 ?_
  refine ml_iload_n (pc := 94) X hl 2 rfl rfl dX11_walk_94 ?_
  refine ml_iload_n (pc := 95) X hl 3 rfl rfl dX11_walk_95 ?_
  refine ml_aload_n (pc := 96) X hl 0 rfl rfl dX11_walk_96 ?_
  refine gf_X11_82 (pc := 97) X (ml_c1 hn) dX11_walk_97 (fun r2 => ?_)
  have hw := hw r2
  exact hw.elim
set_option maxRecDepth 100000 in
set_option maxHeartbeats 4000000 in
theorem u_X11_walk_0 {p : Program} {e : Env} {s : State} {m : MethodId} {args : Array Value} {below : List Frame} {meth : Method} {c : Code} {base : Nat} {D : va_G} {cA : Nat → ClassId} {n : Nat} {l : Launch} {Q : Int → ml_St → Prop} (X : ml_X p s m c meth args D cA cX11_walk 5 RX11 (some .int)) (hn : 214 ≤ n) (σ : ml_St) (x1 : Int) (x2 : Int) (x3 : Int) (h_x1 : I32 x1) (h_x2 : I32 x2) (h_x3 : I32 x3) (ls : Array Slot) (hl : lv_has ls 5 [(0, .ref (base + (1 : Int).toNat)), (1, .int (Int32.ofInt x1)), (2, .int (Int32.ofInt x2)), (3, .int (Int32.ofInt x3))]) (hw : f_X11_walk_u0 Q σ x1 x2 x3) : ml_V p l e rm_X11_walk s m args below meth c (MQ below (ml_Qi I32 base D cA n Q) args s 0 0 (ml_A base)) base D cA 0 0 n n σ (F0 m 0 ls []) := by
  unfold f_X11_walk_u0 at hw
  refine ml_aload_n (pc := 0) X hl 0 rfl rfl dX11_walk_0 ?_
  refine ml_iload_n (pc := 1) X hl 1 rfl rfl dX11_walk_1 ?_
  refine ml_callzV (pc := 2) (rest := []) X [.int (Int32.ofInt x1)] (by decide) rfl (ml_c1 hn) (c_X11_isTold l base D cA n hn σ x1 h_x1 _ hw) cv_X11_104 ⟨rfl, rfl⟩ ⟨by decide, by decide⟩ rfl rfl hl (Nat.le_of_ble_eq_true rfl) ⟨Nat.zero_le _, Nat.zero_le _⟩ dX11_walk_2 (fun r1 σ1 t1 hw => ?_)
  have hw := hw t1
  refine ml_if_eq (pc := 5) (tgt := 40) X t1.i dX11_walk_5 (by decide) (fun c2 => ?_) (fun c2 => ?_)
  · have hw := hw.1 c2
    exact u_X11_walk_40 X hn σ1   _ (lv_sub hl [] rfl) hw
  · have hw := hw.2 c2
    refine ml_aload_n (pc := 8) X hl 0 rfl rfl dX11_walk_8 ?_
    refine gf_X11_67 (pc := 9) X (ml_c1 hn) dX11_walk_9 ?_
    refine ml_iload_n (pc := 12) X hl 1 rfl rfl dX11_walk_12 ?_
    obtain ⟨a3, b3, hw⟩ := hw
    refine ml_aald_words (pc := 13) X hn a3 b3 dX11_walk_13 ?_
    refine gf_X11_112 (pc := 14) X (ml_at_words hn a3 b3) dX11_walk_14 ?_
    refine gf_X11_115 (pc := 17) X (ml_r20_2 hn (ml_at_words hn a3 b3)) dX11_walk_17 (fun r4 => ?_)
    have hw := hw r4
    refine ml_ldc2 (pc := 20) (v := 2000) X dX11_walk_20 tc_4_158 ?_
    refine ml_lcmp_gt (pc := 23) (tgt := 40) X r4 ⟨by decide, by decide⟩ dX11_walk_23 dX11_walk_24 (by decide) (fun c5 => ?_) (fun c5 => ?_)
    · have hw := hw.1 c5
      exact u_X11_walk_40 X hn σ1   _ (lv_sub hl [] rfl) hw
    · have hw := hw.2 c5
      refine ml_aload_n (pc := 27) X hl 0 rfl rfl dX11_walk_27 ?_
      refine ml_iload_n (pc := 28) X hl 2 rfl rfl dX11_walk_28 ?_
      refine ml_callzV (pc := 29) (rest := []) X [.int (Int32.ofInt x2)] (by decide) rfl (ml_c1 hn) (c_X11_isEnd l base D cA n hn σ1 x2 h_x2 _ hw) cv_X11_124 ⟨rfl, rfl⟩ ⟨by decide, by decide⟩ rfl rfl hl (Nat.le_of_ble_eq_true rfl) ⟨Nat.zero_le _, Nat.zero_le _⟩ dX11_walk_29 (fun r6 σ6 t6 hw => ?_)
      have hw := hw t6
      refine ml_if_eq (pc := 32) (tgt := 40) X t6.i dX11_walk_32 (by decide) (fun c7 => ?_) (fun c7 => ?_)
      · have hw := hw.1 c7
        exact u_X11_walk_40 X hn σ6   _ (lv_sub hl [] rfl) hw
      · have hw := hw.2 c7
        refine ml_iload_n (pc := 35) X hl 3 rfl rfl dX11_walk_35 ?_
        refine ml_iconst (pc := 36) X dX11_walk_36 ?_
        refine ml_icmp_ge (pc := 37) (tgt := 42) X h_x3 ⟨by decide, by decide⟩ dX11_walk_37 (by decide) (fun c8 => ?_) (fun c8 => ?_)
        · have hw := hw.1 c8
          refine ml_iconst (pc := 42) X dX11_walk_42 ?_
          refine ml_istore (pc := 43) X hl (by decide) (lst' := [(4, .int (Int32.ofInt 0)), (0, .ref (base + (1 : Int).toNat)), (1, .int (Int32.ofInt x1)), (2, .int (Int32.ofInt x2)), (3, .int (Int32.ofInt x3))]) rfl dX11_walk_43 (fun ls hl => ?_)
          obtain ⟨N0, hw⟩ := hw
          exact u_X11_walk_45 X hn (fun σ x1 x2 x3 h_x1 h_x2 h_x3 ls hl hw => u_X11_walk_88 X hn σ x1 x2 x3 h_x1 h_x2 h_x3 ls hl hw) N0 σ6 x1 x2 x3 0 h_x1 h_x2 h_x3 ⟨by decide, by decide⟩ _ (lv_sub hl [1, 2, 3, 4, 0] rfl) hw
        · have hw := hw.2 c8
          exact u_X11_walk_40 X hn σ6   _ (lv_sub hl [] rfl) hw
set_option maxRecDepth 100000 in
theorem c_X11_walk (l : Launch) (base : Nat) (D : va_G) (cA : Nat → ClassId) (n : Nat) (hn : 214 ≤ n) (σ : ml_St) (x1 : Int) (x2 : Int) (x3 : Int) (h_x1 : I32 x1) (h_x2 : I32 x2) (h_x3 : I32 x3) (Q : Int → ml_St → Prop) (hw : f_X11_walk σ x1 x2 x3 Q) : Met l yX11_walk (Cond.code yX11_walk cX11_walk 5 (some .int) :: ml_T) rm_X11_walk (va_Pc [.ref (base + (1 : Int).toNat), .int (Int32.ofInt x1), .int (Int32.ofInt x2), .int (Int32.ofInt x3)] (ml_U base D cA n σ)) (ml_Qi I32 base D cA n Q) 0 0 (ml_A base) := by
  refine Met.ofW (cc := cX11_walk) (maxL := 5) (ret := (some .int)) (by decide) rfl ?_
  intro p e s m args below meth c s₁ B hml hv
  obtain ⟨rfl, hP, hK, hok, hro⟩ := hv
  have X : ml_X p s m c meth _ D cA cX11_walk 5 RX11 (some .int) := ⟨B.exec, B.bytes, hml, findClass_of_methodNamed B.named, fun w hw => atoms_spec (ws := Cond.code yX11_walk cX11_walk 5 (some .int) :: ml_T) B.pre w (List.mem_cons_of_mem _ hw), hK, B.notSynchronized, B.returns⟩
  have hl := lv_entry [.ref (base + (1 : Int).toNat), .int (Int32.ofInt x1), .int (Int32.ofInt x2), .int (Int32.ofInt x3)] (n := 5) (Nat.le_of_ble_eq_true rfl)
  rw [lg_entry_eq]
  generalize (lg_sl [.ref (base + (1 : Int).toNat), .int (Int32.ofInt x1), .int (Int32.ofInt x2), .int (Int32.ofInt x3)] ++ List.replicate (5 - (lg_sl [.ref (base + (1 : Int).toNat), .int (Int32.ofInt x1), .int (Int32.ofInt x2), .int (Int32.ofInt x3)]).length) Slot.unset).toArray = ls at hl ⊢
  have hl : lv_has ls 5 [(0, .ref (base + (1 : Int).toNat)), (1, .int (Int32.ofInt x1)), (2, .int (Int32.ofInt x2)), (3, .int (Int32.ofInt x3))] := hl
  unfold f_X11_walk at hw
  exact u_X11_walk_0 X hn σ x1 x2 x3 h_x1 h_x2 h_x3 _ (lv_sub hl [0, 1, 2, 3] rfl) hw s.heap [] hP va_S.rf hok hro
theorem dX11_check_0 : decode cX11_check 0 = .ok (.aload_n 0, 1) := by decide +kernel
theorem dX11_check_1 : decode cX11_check 1 = .ok (.iload_n 1, 1) := by decide +kernel
theorem dX11_check_2 : decode cX11_check 2 = .ok (.invokevirtual 121, 3) := by decide +kernel
theorem dX11_check_5 : decode cX11_check 5 = .ok (.ifCond .eq 19, 3) := by decide +kernel
theorem dX11_check_8 : decode cX11_check 8 = .ok (.aload_n 0, 1) := by decide +kernel
theorem dX11_check_9 : decode cX11_check 9 = .ok (.getfield 10, 3) := by decide +kernel
theorem dX11_check_12 : decode cX11_check 12 = .ok (.getfield 94, 3) := by decide +kernel
theorem dX11_check_15 : decode cX11_check 15 = .ok (.iconst 2, 1) := by decide +kernel
theorem dX11_check_16 : decode cX11_check 16 = .ok (.aload_n 0, 1) := by decide +kernel
theorem dX11_check_17 : decode cX11_check 17 = .ok (.getfield 82, 3) := by decide +kernel
theorem dX11_check_20 : decode cX11_check 20 = .ok (.imul, 1) := by decide +kernel
theorem dX11_check_21 : decode cX11_check 21 = .ok (.if_icmp .ge 6, 3) := by decide +kernel
theorem dX11_check_24 : decode cX11_check 24 = .ok (.bipush (-2), 2) := by decide +kernel
theorem dX11_check_26 : decode cX11_check 26 = .ok (.ireturn, 1) := by decide +kernel
theorem dX11_check_27 : decode cX11_check 27 = .ok (.iconst (-1), 1) := by decide +kernel
theorem dX11_check_28 : decode cX11_check 28 = .ok (.istore_n 2, 1) := by decide +kernel
theorem dX11_check_29 : decode cX11_check 29 = .ok (.iconst 0, 1) := by decide +kernel
theorem dX11_check_30 : decode cX11_check 30 = .ok (.istore_n 3, 1) := by decide +kernel
theorem dX11_check_31 : decode cX11_check 31 = .ok (.iload_n 3, 1) := by decide +kernel
theorem dX11_check_32 : decode cX11_check 32 = .ok (.iconst 2, 1) := by decide +kernel
theorem dX11_check_33 : decode cX11_check 33 = .ok (.aload_n 0, 1) := by decide +kernel
theorem dX11_check_34 : decode cX11_check 34 = .ok (.getfield 82, 3) := by decide +kernel
theorem dX11_check_37 : decode cX11_check 37 = .ok (.imul, 1) := by decide +kernel
theorem dX11_check_38 : decode cX11_check 38 = .ok (.if_icmp .ge 42, 3) := by decide +kernel
theorem dX11_check_41 : decode cX11_check 41 = .ok (.iload_n 2, 1) := by decide +kernel
theorem dX11_check_42 : decode cX11_check 42 = .ok (.iconst (-1), 1) := by decide +kernel
theorem dX11_check_43 : decode cX11_check 43 = .ok (.if_icmp .ne 37, 3) := by decide +kernel
theorem dX11_check_46 : decode cX11_check 46 = .ok (.aload_n 0, 1) := by decide +kernel
theorem dX11_check_47 : decode cX11_check 47 = .ok (.getfield 10, 3) := by decide +kernel
theorem dX11_check_50 : decode cX11_check 50 = .ok (.getfield 275, 3) := by decide +kernel
theorem dX11_check_53 : decode cX11_check 53 = .ok (.iload_n 3, 1) := by decide +kernel
theorem dX11_check_54 : decode cX11_check 54 = .ok (.iaload, 1) := by decide +kernel
theorem dX11_check_55 : decode cX11_check 55 = .ok (.aload_n 0, 1) := by decide +kernel
theorem dX11_check_56 : decode cX11_check 56 = .ok (.getfield 67, 3) := by decide +kernel
theorem dX11_check_59 : decode cX11_check 59 = .ok (.iload_n 1, 1) := by decide +kernel
theorem dX11_check_60 : decode cX11_check 60 = .ok (.aaload, 1) := by decide +kernel
theorem dX11_check_61 : decode cX11_check 61 = .ok (.getfield 112, 3) := by decide +kernel
theorem dX11_check_64 : decode cX11_check 64 = .ok (.getfield 127, 3) := by decide +kernel
theorem dX11_check_67 : decode cX11_check 67 = .ok (.iload_n 3, 1) := by decide +kernel
theorem dX11_check_68 : decode cX11_check 68 = .ok (.iaload, 1) := by decide +kernel
theorem dX11_check_69 : decode cX11_check 69 = .ok (.if_icmp .eq 5, 3) := by decide +kernel
theorem dX11_check_72 : decode cX11_check 72 = .ok (.iload_n 3, 1) := by decide +kernel
theorem dX11_check_73 : decode cX11_check 73 = .ok (.istore_n 2, 1) := by decide +kernel
theorem dX11_check_74 : decode cX11_check 74 = .ok (.iinc 3 1, 3) := by decide +kernel
theorem dX11_check_77 : decode cX11_check 77 = .ok (.goto (-46), 3) := by decide +kernel
theorem dX11_check_80 : decode cX11_check 80 = .ok (.aload_n 0, 1) := by decide +kernel
theorem dX11_check_81 : decode cX11_check 81 = .ok (.getfield 10, 3) := by decide +kernel
theorem dX11_check_84 : decode cX11_check 84 = .ok (.iconst 0, 1) := by decide +kernel
theorem dX11_check_85 : decode cX11_check 85 = .ok (.putfield 94, 3) := by decide +kernel
theorem dX11_check_88 : decode cX11_check 88 = .ok (.iload_n 2, 1) := by decide +kernel
theorem dX11_check_89 : decode cX11_check 89 = .ok (.ireturn, 1) := by decide +kernel
def f_X11_check_u24 (Q : Int → ml_St → Prop) (σ : ml_St) : Prop :=
Q (-2) σ
def f_X11_check_u74 (Q : Int → ml_St → Prop) (K31 : ml_St → Int → Int → Int → Prop) (σ : ml_St) (x1 : Int) (x2 : Int) (x3 : Int) : Prop :=
I32 (x3 + 1) ∧
∀ y1 : Int, y1 = x3 + 1 →
K31 σ x1 x2 y1
def f_X11_check_u31 (Q : Int → ml_St → Prop) (K80 : ml_St → Int → Prop) : Nat → ml_St → Int → Int → Int → Prop
| 0, _, _, _, _ => False
| N + 1, σ, x1, x2, x3 =>
∀ _ : I32 (σ 1 11),
I32 (2 * (σ 1 11)) ∧
((2 * (σ 1 11)) ≤ x3 →
K80 σ x2) ∧
(¬ ((2 * (σ 1 11)) ≤ x3) →
(x2 ≠ (-1) →
K80 σ x2) ∧
(x2 = (-1) →
(0 : Int) ≤ x3 ∧ (x3 : Int) < 200 ∧
∀ _ : I32 (σ 3 x3),
(0 : Int) ≤ x1 ∧ (x1 : Int) < 16 ∧
(0 : Int) ≤ x3 ∧ (x3 : Int) < 10 ∧
∀ _ : I32 (σ (((119 + 6 * x1) + 2) + 1) x3),
(((σ 3 x3) : Int) = (σ (((119 + 6 * x1) + 2) + 1) x3) →
f_X11_check_u74 Q (f_X11_check_u31 Q K80 N) σ x1 x2 x3) ∧
((σ 3 x3) ≠ (σ (((119 + 6 * x1) + 2) + 1) x3) →
f_X11_check_u74 Q (f_X11_check_u31 Q K80 N) σ x1 x3 x3)))
def f_X11_check_u80 (Q : Int → ml_St → Prop) (σ : ml_St) (x2 : Int) : Prop :=
∀ σ1, σ1 = ml_up σ 2 1 0 →
Q x2 σ1
def f_X11_check_u0 (Q : Int → ml_St → Prop) (σ : ml_St) (x1 : Int) : Prop :=
f_X11_isMade σ x1 (fun r1 σ1 => ∀ _ : ml_B r1,
(r1 = 0 →
f_X11_check_u24 Q σ1) ∧
(r1 ≠ 0 →
∀ _ : I32 (σ1 2 1),
∀ _ : I32 (σ1 1 11),
I32 (2 * (σ1 1 11)) ∧
((2 * (σ1 1 11)) ≤ ((σ1 2 1) : Int) →
∃ N1, f_X11_check_u31 Q (f_X11_check_u80 Q) N1 σ1 x1 (-1) 0) ∧
(¬ ((2 * (σ1 1 11)) ≤ ((σ1 2 1) : Int)) →
f_X11_check_u24 Q σ1)))
def f_X11_check (σ : ml_St) (x1 : Int) (Q : Int → ml_St → Prop) : Prop := f_X11_check_u0 Q σ x1
def rm_X11_check : Room := { frames := 2, cells := 0, slots := 0, locals := 42 }
set_option maxRecDepth 100000 in
set_option maxHeartbeats 4000000 in
theorem u_X11_check_24 {p : Program} {e : Env} {s : State} {m : MethodId} {args : Array Value} {below : List Frame} {meth : Method} {c : Code} {base : Nat} {D : va_G} {cA : Nat → ClassId} {n : Nat} {l : Launch} {Q : Int → ml_St → Prop} (X : ml_X p s m c meth args D cA cX11_check 4 RX11 (some .int)) (hn : 214 ≤ n) (σ : ml_St) (ls : Array Slot) (hl : lv_has ls 4 []) (hw : f_X11_check_u24 Q σ) : ml_V p l e rm_X11_check s m args below meth c (MQ below (ml_Qi I32 base D cA n Q) args s 0 0 (ml_A base)) base D cA 0 0 n n σ (F0 m 24 ls []) := by
  unfold f_X11_check_u24 at hw
  refine ml_bipush (pc := 24) X dX11_check_24 (by decide) ?_
  exact ml_iret (pc := 26) X ⟨by decide, by decide⟩ hw dX11_check_26
set_option maxRecDepth 100000 in
set_option maxHeartbeats 4000000 in
theorem u_X11_check_74 {p : Program} {e : Env} {s : State} {m : MethodId} {args : Array Value} {below : List Frame} {meth : Method} {c : Code} {base : Nat} {D : va_G} {cA : Nat → ClassId} {n : Nat} {l : Launch} {Q : Int → ml_St → Prop} {K31 : ml_St → Int → Int → Int → Prop} (X : ml_X p s m c meth args D cA cX11_check 4 RX11 (some .int)) (hn : 214 ≤ n) (hK31 : ∀ (σ : ml_St) (x1 : Int) (x2 : Int) (x3 : Int) (h_x1 : I32 x1) (h_x2 : I32 x2) (h_x3 : I32 x3) (ls : Array Slot), lv_has ls 4 [(0, .ref (base + (1 : Int).toNat)), (1, .int (Int32.ofInt x1)), (2, .int (Int32.ofInt x2)), (3, .int (Int32.ofInt x3))] → K31 σ x1 x2 x3 → ml_V p l e rm_X11_check s m args below meth c (MQ below (ml_Qi I32 base D cA n Q) args s 0 0 (ml_A base)) base D cA 0 0 n n σ (F0 m 31 ls [])) (σ : ml_St) (x1 : Int) (x2 : Int) (x3 : Int) (h_x1 : I32 x1) (h_x2 : I32 x2) (h_x3 : I32 x3) (ls : Array Slot) (hl : lv_has ls 4 [(0, .ref (base + (1 : Int).toNat)), (1, .int (Int32.ofInt x1)), (2, .int (Int32.ofInt x2)), (3, .int (Int32.ofInt x3))]) (hw : f_X11_check_u74 Q K31 σ x1 x2 x3) : ml_V p l e rm_X11_check s m args below meth c (MQ below (ml_Qi I32 base D cA n Q) args s 0 0 (ml_A base)) base D cA 0 0 n n σ (F0 m 74 ls []) := by
  unfold f_X11_check_u74 at hw
  obtain ⟨v1, hw⟩ := hw
  obtain ⟨y1, e1⟩ : ∃ y : Int, y = x3 + 1 := ⟨_, rfl⟩
  have hw := hw y1 e1
  rw [← e1] at v1
  refine ml_iinc (pc := 74) X e1 hl 3 rfl (by decide) (lst' := [(3, .int (Int32.ofInt y1)), (0, .ref (base + (1 : Int).toNat)), (1, .int (Int32.ofInt x1)), (2, .int (Int32.ofInt x2))]) rfl dX11_check_74 (fun ls hl => ?_)
  refine ml_goto (pc := 77) (tgt := 31) X dX11_check_77 (by decide) ?_
  exact hK31 σ x1 x2 y1 h_x1 h_x2 v1 _ (lv_sub hl [1, 2, 3, 0] rfl) hw
set_option maxRecDepth 100000 in
set_option maxHeartbeats 4000000 in
theorem u_X11_check_31 {p : Program} {e : Env} {s : State} {m : MethodId} {args : Array Value} {below : List Frame} {meth : Method} {c : Code} {base : Nat} {D : va_G} {cA : Nat → ClassId} {n : Nat} {l : Launch} {Q : Int → ml_St → Prop} {K80 : ml_St → Int → Prop} (X : ml_X p s m c meth args D cA cX11_check 4 RX11 (some .int)) (hn : 214 ≤ n) (hK80 : ∀ (σ : ml_St) (x2 : Int) (h_x2 : I32 x2) (ls : Array Slot), lv_has ls 4 [(0, .ref (base + (1 : Int).toNat)), (2, .int (Int32.ofInt x2))] → K80 σ x2 → ml_V p l e rm_X11_check s m args below meth c (MQ below (ml_Qi I32 base D cA n Q) args s 0 0 (ml_A base)) base D cA 0 0 n n σ (F0 m 80 ls [])) : ∀ (N : Nat) (σ : ml_St) (x1 : Int) (x2 : Int) (x3 : Int) (h_x1 : I32 x1) (h_x2 : I32 x2) (h_x3 : I32 x3) (ls : Array Slot), lv_has ls 4 [(0, .ref (base + (1 : Int).toNat)), (1, .int (Int32.ofInt x1)), (2, .int (Int32.ofInt x2)), (3, .int (Int32.ofInt x3))] → f_X11_check_u31 Q K80 N σ x1 x2 x3 → ml_V p l e rm_X11_check s m args below meth c (MQ below (ml_Qi I32 base D cA n Q) args s 0 0 (ml_A base)) base D cA 0 0 n n σ (F0 m 31 ls []) := by
  intro N
  induction N with
  | zero => intro σ x1 x2 x3 h_x1 h_x2 h_x3 ls hl hw; exact False.elim hw
  | succ N ih =>
    intro σ x1 x2 x3 h_x1 h_x2 h_x3 ls hl hw
    unfold f_X11_check_u31 at hw
    refine ml_iload_n (pc := 31) X hl 3 rfl rfl dX11_check_31 ?_
    refine ml_iconst (pc := 32) X dX11_check_32 ?_
    refine ml_aload_n (pc := 33) X hl 0 rfl rfl dX11_check_33 ?_
    refine gf_X11_82 (pc := 34) X (ml_c1 hn) dX11_check_34 (fun r1 => ?_)
    have hw := hw r1
    obtain ⟨v2, hw⟩ := hw
    refine ml_imul (pc := 37) X dX11_check_37 ?_
    refine ml_icmp_ge (pc := 38) (tgt := 80) X h_x3 v2 dX11_check_38 (by decide) (fun c3 => ?_) (fun c3 => ?_)
    · have hw := hw.1 c3
      exact hK80 σ x2 h_x2 _ (lv_sub hl [0, 2] rfl) hw
    · have hw := hw.2 c3
      refine ml_iload_n (pc := 41) X hl 2 rfl rfl dX11_check_41 ?_
      refine ml_iconst (pc := 42) X dX11_check_42 ?_
      refine ml_icmp_ne (pc := 43) (tgt := 80) X h_x2 ⟨by decide, by decide⟩ dX11_check_43 (by decide) (fun c4 => ?_) (fun c4 => ?_)
      · have hw := hw.1 c4
        exact hK80 σ x2 h_x2 _ (lv_sub hl [0, 2] rfl) hw
      · have hw := hw.2 c4
        refine ml_aload_n (pc := 46) X hl 0 rfl rfl dX11_check_46 ?_
        refine gf_X11_10 (pc := 47) X (ml_c1 hn) dX11_check_47 ?_
        refine gf_X11_275 (pc := 50) X (ml_c2 hn) dX11_check_50 ?_
        refine ml_iload_n (pc := 53) X hl 3 rfl rfl dX11_check_53 ?_
        obtain ⟨a5, b5, hw⟩ := hw
        refine ml_iald (pc := 54) (N := 200) X (ml_c3 hn) a5 b5 dX11_check_54 (fun r5 => ?_)
        have hw := hw r5
        refine ml_aload_n (pc := 55) X hl 0 rfl rfl dX11_check_55 ?_
        refine gf_X11_67 (pc := 56) X (ml_c1 hn) dX11_check_56 ?_
        refine ml_iload_n (pc := 59) X hl 1 rfl rfl dX11_check_59 ?_
        obtain ⟨a6, b6, hw⟩ := hw
        refine ml_aald_words (pc := 60) X hn a6 b6 dX11_check_60 ?_
        refine gf_X11_112 (pc := 61) X (ml_at_words hn a6 b6) dX11_check_61 ?_
        refine gf_X11_127 (pc := 64) X (ml_r20_2 hn (ml_at_words hn a6 b6)) dX11_check_64 ?_
        refine ml_iload_n (pc := 67) X hl 3 rfl rfl dX11_check_67 ?_
        obtain ⟨a7, b7, hw⟩ := hw
        refine ml_iald (pc := 68) (N := 10) X (ml_r19_1 hn (ml_r20_2 hn (ml_at_words hn a6 b6))) a7 b7 dX11_check_68 (fun r7 => ?_)
        have hw := hw r7
        refine ml_icmp_eq (pc := 69) (tgt := 74) X r5 r7 dX11_check_69 (by decide) (fun c8 => ?_) (fun c8 => ?_)
        · have hw := hw.1 c8
          exact u_X11_check_74 X hn ih σ x1 x2 x3 h_x1 h_x2 h_x3 _ (lv_sub hl [0, 1, 2, 3] rfl) hw
        · have hw := hw.2 c8
          refine ml_iload_n (pc := 72) X hl 3 rfl rfl dX11_check_72 ?_
          refine ml_istore_n (pc := 73) X rfl hl (by decide) (lst' := [(2, .int (Int32.ofInt x3)), (0, .ref (base + (1 : Int).toNat)), (1, .int (Int32.ofInt x1)), (3, .int (Int32.ofInt x3))]) rfl dX11_check_73 (fun ls hl => ?_)
          exact u_X11_check_74 X hn ih σ x1 x3 x3 h_x1 h_x3 h_x3 _ (lv_sub hl [1, 2, 0, 3] rfl) hw
set_option maxRecDepth 100000 in
set_option maxHeartbeats 4000000 in
theorem u_X11_check_80 {p : Program} {e : Env} {s : State} {m : MethodId} {args : Array Value} {below : List Frame} {meth : Method} {c : Code} {base : Nat} {D : va_G} {cA : Nat → ClassId} {n : Nat} {l : Launch} {Q : Int → ml_St → Prop} (X : ml_X p s m c meth args D cA cX11_check 4 RX11 (some .int)) (hn : 214 ≤ n) (σ : ml_St) (x2 : Int) (h_x2 : I32 x2) (ls : Array Slot) (hl : lv_has ls 4 [(0, .ref (base + (1 : Int).toNat)), (2, .int (Int32.ofInt x2))]) (hw : f_X11_check_u80 Q σ x2) : ml_V p l e rm_X11_check s m args below meth c (MQ below (ml_Qi I32 base D cA n Q) args s 0 0 (ml_A base)) base D cA 0 0 n n σ (F0 m 80 ls []) := by
  unfold f_X11_check_u80 at hw
  refine ml_aload_n (pc := 80) X hl 0 rfl rfl dX11_check_80 ?_
  refine gf_X11_10 (pc := 81) X (ml_c1 hn) dX11_check_81 ?_
  refine ml_iconst (pc := 84) X dX11_check_84 ?_
  refine pf_X11_94 (pc := 85) X (ml_c2 hn) ⟨by decide, by decide⟩ dX11_check_85 (fun σ1 g1 => ?_)
  have hw := hw σ1 g1
  refine ml_iload_n (pc := 88) X hl 1 rfl rfl dX11_check_88 ?_
  exact ml_iret (pc := 89) X h_x2 hw dX11_check_89
set_option maxRecDepth 100000 in
set_option maxHeartbeats 4000000 in
theorem u_X11_check_0 {p : Program} {e : Env} {s : State} {m : MethodId} {args : Array Value} {below : List Frame} {meth : Method} {c : Code} {base : Nat} {D : va_G} {cA : Nat → ClassId} {n : Nat} {l : Launch} {Q : Int → ml_St → Prop} (X : ml_X p s m c meth args D cA cX11_check 4 RX11 (some .int)) (hn : 214 ≤ n) (σ : ml_St) (x1 : Int) (h_x1 : I32 x1) (ls : Array Slot) (hl : lv_has ls 4 [(0, .ref (base + (1 : Int).toNat)), (1, .int (Int32.ofInt x1))]) (hw : f_X11_check_u0 Q σ x1) : ml_V p l e rm_X11_check s m args below meth c (MQ below (ml_Qi I32 base D cA n Q) args s 0 0 (ml_A base)) base D cA 0 0 n n σ (F0 m 0 ls []) := by
  unfold f_X11_check_u0 at hw
  refine ml_aload_n (pc := 0) X hl 0 rfl rfl dX11_check_0 ?_
  refine ml_iload_n (pc := 1) X hl 1 rfl rfl dX11_check_1 ?_
  refine ml_callzV (pc := 2) (rest := []) X [.int (Int32.ofInt x1)] (by decide) rfl (ml_c1 hn) (c_X11_isMade l base D cA n hn σ x1 h_x1 _ hw) cv_X11_121 ⟨rfl, rfl⟩ ⟨by decide, by decide⟩ rfl rfl hl (Nat.le_of_ble_eq_true rfl) ⟨Nat.zero_le _, Nat.zero_le _⟩ dX11_check_2 (fun r1 σ1 t1 hw => ?_)
  have hw := hw t1
  refine ml_if_eq (pc := 5) (tgt := 24) X t1.i dX11_check_5 (by decide) (fun c2 => ?_) (fun c2 => ?_)
  · have hw := hw.1 c2
    exact u_X11_check_24 X hn σ1   _ (lv_sub hl [] rfl) hw
  · have hw := hw.2 c2
    refine ml_aload_n (pc := 8) X hl 0 rfl rfl dX11_check_8 ?_
    refine gf_X11_10 (pc := 9) X (ml_c1 hn) dX11_check_9 ?_
    refine gf_X11_94 (pc := 12) X (ml_c2 hn) dX11_check_12 (fun r3 => ?_)
    have hw := hw r3
    refine ml_iconst (pc := 15) X dX11_check_15 ?_
    refine ml_aload_n (pc := 16) X hl 0 rfl rfl dX11_check_16 ?_
    refine gf_X11_82 (pc := 17) X (ml_c1 hn) dX11_check_17 (fun r4 => ?_)
    have hw := hw r4
    obtain ⟨v5, hw⟩ := hw
    refine ml_imul (pc := 20) X dX11_check_20 ?_
    refine ml_icmp_ge (pc := 21) (tgt := 27) X r3 v5 dX11_check_21 (by decide) (fun c6 => ?_) (fun c6 => ?_)
    · have hw := hw.1 c6
      refine ml_iconst (pc := 27) X dX11_check_27 ?_
      refine ml_istore_n (pc := 28) X rfl hl (by decide) (lst' := [(2, .int (Int32.ofInt (-1))), (0, .ref (base + (1 : Int).toNat)), (1, .int (Int32.ofInt x1))]) rfl dX11_check_28 (fun ls hl => ?_)
      refine ml_iconst (pc := 29) X dX11_check_29 ?_
      refine ml_istore_n (pc := 30) X rfl hl (by decide) (lst' := [(3, .int (Int32.ofInt 0)), (2, .int (Int32.ofInt (-1))), (0, .ref (base + (1 : Int).toNat)), (1, .int (Int32.ofInt x1))]) rfl dX11_check_30 (fun ls hl => ?_)
      obtain ⟨N0, hw⟩ := hw
      exact u_X11_check_31 X hn (fun σ x2 h_x2 ls hl hw => u_X11_check_80 X hn σ x2 h_x2 ls hl hw) N0 σ1 x1 (-1) 0 h_x1 ⟨by decide, by decide⟩ ⟨by decide, by decide⟩ _ (lv_sub hl [2, 3, 1, 0] rfl) hw
    · have hw := hw.2 c6
      exact u_X11_check_24 X hn σ1   _ (lv_sub hl [] rfl) hw
set_option maxRecDepth 100000 in
theorem c_X11_check (l : Launch) (base : Nat) (D : va_G) (cA : Nat → ClassId) (n : Nat) (hn : 214 ≤ n) (σ : ml_St) (x1 : Int) (h_x1 : I32 x1) (Q : Int → ml_St → Prop) (hw : f_X11_check σ x1 Q) : Met l yX11_check (Cond.code yX11_check cX11_check 4 (some .int) :: ml_T) rm_X11_check (va_Pc [.ref (base + (1 : Int).toNat), .int (Int32.ofInt x1)] (ml_U base D cA n σ)) (ml_Qi I32 base D cA n Q) 0 0 (ml_A base) := by
  refine Met.ofW (cc := cX11_check) (maxL := 4) (ret := (some .int)) (by decide) rfl ?_
  intro p e s m args below meth c s₁ B hml hv
  obtain ⟨rfl, hP, hK, hok, hro⟩ := hv
  have X : ml_X p s m c meth _ D cA cX11_check 4 RX11 (some .int) := ⟨B.exec, B.bytes, hml, findClass_of_methodNamed B.named, fun w hw => atoms_spec (ws := Cond.code yX11_check cX11_check 4 (some .int) :: ml_T) B.pre w (List.mem_cons_of_mem _ hw), hK, B.notSynchronized, B.returns⟩
  have hl := lv_entry [.ref (base + (1 : Int).toNat), .int (Int32.ofInt x1)] (n := 4) (Nat.le_of_ble_eq_true rfl)
  rw [lg_entry_eq]
  generalize (lg_sl [.ref (base + (1 : Int).toNat), .int (Int32.ofInt x1)] ++ List.replicate (4 - (lg_sl [.ref (base + (1 : Int).toNat), .int (Int32.ofInt x1)]).length) Slot.unset).toArray = ls at hl ⊢
  have hl : lv_has ls 4 [(0, .ref (base + (1 : Int).toNat)), (1, .int (Int32.ofInt x1))] := hl
  unfold f_X11_check at hw
  exact u_X11_check_0 X hn σ x1 h_x1 _ (lv_sub hl [0, 1] rfl) hw s.heap [] hP va_S.rf hok hro
theorem dX11_count_0 : decode cX11_count 0 = .ok (.iload_n 1, 1) := by decide +kernel
theorem dX11_count_1 : decode cX11_count 1 = .ok (.tableswitch 65 0 3 #[31, 36, 41, 49], 31) := by decide +kernel
theorem dX11_count_32 : decode cX11_count 32 = .ok (.aload_n 0, 1) := by decide +kernel
theorem dX11_count_33 : decode cX11_count 33 = .ok (.getfield 82, 3) := by decide +kernel
theorem dX11_count_36 : decode cX11_count 36 = .ok (.ireturn, 1) := by decide +kernel
theorem dX11_count_37 : decode cX11_count 37 = .ok (.aload_n 0, 1) := by decide +kernel
theorem dX11_count_38 : decode cX11_count 38 = .ok (.getfield 86, 3) := by decide +kernel
theorem dX11_count_41 : decode cX11_count 41 = .ok (.ireturn, 1) := by decide +kernel
theorem dX11_count_42 : decode cX11_count 42 = .ok (.aload_n 0, 1) := by decide +kernel
theorem dX11_count_43 : decode cX11_count 43 = .ok (.getfield 10, 3) := by decide +kernel
theorem dX11_count_46 : decode cX11_count 46 = .ok (.getfield 94, 3) := by decide +kernel
theorem dX11_count_49 : decode cX11_count 49 = .ok (.ireturn, 1) := by decide +kernel
theorem dX11_count_50 : decode cX11_count 50 = .ok (.aload_n 0, 1) := by decide +kernel
theorem dX11_count_51 : decode cX11_count 51 = .ok (.getfield 19, 3) := by decide +kernel
theorem dX11_count_54 : decode cX11_count 54 = .ok (.getfield 278, 3) := by decide +kernel
theorem dX11_count_57 : decode cX11_count 57 = .ok (.ifCond .eq 7, 3) := by decide +kernel
theorem dX11_count_60 : decode cX11_count 60 = .ok (.iconst 1, 1) := by decide +kernel
theorem dX11_count_61 : decode cX11_count 61 = .ok (.goto 4, 3) := by decide +kernel
theorem dX11_count_64 : decode cX11_count 64 = .ok (.iconst 0, 1) := by decide +kernel
theorem dX11_count_65 : decode cX11_count 65 = .ok (.ireturn, 1) := by decide +kernel
theorem dX11_count_66 : decode cX11_count 66 = .ok (.iload_n 1, 1) := by decide +kernel
theorem dX11_count_67 : decode cX11_count 67 = .ok (.bipush 10, 2) := by decide +kernel
theorem dX11_count_69 : decode cX11_count 69 = .ok (.if_icmp .lt 27, 3) := by decide +kernel
theorem dX11_count_72 : decode cX11_count 72 = .ok (.aload_n 0, 1) := by decide +kernel
theorem dX11_count_73 : decode cX11_count 73 = .ok (.iload_n 1, 1) := by decide +kernel
theorem dX11_count_74 : decode cX11_count 74 = .ok (.bipush 10, 2) := by decide +kernel
theorem dX11_count_76 : decode cX11_count 76 = .ok (.isub, 1) := by decide +kernel
theorem dX11_count_77 : decode cX11_count 77 = .ok (.invokevirtual 104, 3) := by decide +kernel
theorem dX11_count_80 : decode cX11_count 80 = .ok (.ifCond .eq 16, 3) := by decide +kernel
theorem dX11_count_83 : decode cX11_count 83 = .ok (.aload_n 0, 1) := by decide +kernel
theorem dX11_count_84 : decode cX11_count 84 = .ok (.getfield 67, 3) := by decide +kernel
theorem dX11_count_87 : decode cX11_count 87 = .ok (.iload_n 1, 1) := by decide +kernel
theorem dX11_count_88 : decode cX11_count 88 = .ok (.bipush 10, 2) := by decide +kernel
theorem dX11_count_90 : decode cX11_count 90 = .ok (.isub, 1) := by decide +kernel
theorem dX11_count_91 : decode cX11_count 91 = .ok (.aaload, 1) := by decide +kernel
theorem dX11_count_92 : decode cX11_count 92 = .ok (.getfield 253, 3) := by decide +kernel
theorem dX11_count_95 : decode cX11_count 95 = .ok (.ireturn, 1) := by decide +kernel
theorem dX11_count_96 : decode cX11_count 96 = .ok (.iload_n 1, 1) := by decide +kernel
theorem dX11_count_97 : decode cX11_count 97 = .ok (.bipush 30, 2) := by decide +kernel
theorem dX11_count_99 : decode cX11_count 99 = .ok (.if_icmp .lt 29, 3) := by decide +kernel
theorem dX11_count_102 : decode cX11_count 102 = .ok (.aload_n 0, 1) := by decide +kernel
theorem dX11_count_103 : decode cX11_count 103 = .ok (.iload_n 1, 1) := by decide +kernel
theorem dX11_count_104 : decode cX11_count 104 = .ok (.bipush 30, 2) := by decide +kernel
theorem dX11_count_106 : decode cX11_count 106 = .ok (.isub, 1) := by decide +kernel
theorem dX11_count_107 : decode cX11_count 107 = .ok (.invokevirtual 104, 3) := by decide +kernel
theorem dX11_count_110 : decode cX11_count 110 = .ok (.ifCond .eq 18, 3) := by decide +kernel
theorem dX11_count_113 : decode cX11_count 113 = .ok (.aload_n 0, 1) := by decide +kernel
theorem dX11_count_114 : decode cX11_count 114 = .ok (.getfield 67, 3) := by decide +kernel
theorem dX11_count_117 : decode cX11_count 117 = .ok (.iload_n 1, 1) := by decide +kernel
theorem dX11_count_118 : decode cX11_count 118 = .ok (.bipush 30, 2) := by decide +kernel
theorem dX11_count_120 : decode cX11_count 120 = .ok (.isub, 1) := by decide +kernel
theorem dX11_count_121 : decode cX11_count 121 = .ok (.aaload, 1) := by decide +kernel
theorem dX11_count_122 : decode cX11_count 122 = .ok (.getfield 239, 3) := by decide +kernel
theorem dX11_count_125 : decode cX11_count 125 = .ok (.goto 4, 3) := by decide +kernel
theorem dX11_count_128 : decode cX11_count 128 = .ok (.iconst (-1), 1) := by decide +kernel
theorem dX11_count_129 : decode cX11_count 129 = .ok (.ireturn, 1) := by decide +kernel
def f_X11_count_u65 (Q : Int → ml_St → Prop) (σ : ml_St) (s0 : Int) : Prop :=
Q s0 σ
def f_X11_count_u129 (Q : Int → ml_St → Prop) (σ : ml_St) (s0 : Int) : Prop :=
Q s0 σ
def f_X11_count_u128 (Q : Int → ml_St → Prop) (σ : ml_St) : Prop :=
f_X11_count_u129 Q σ (-1)
def f_X11_count_u96 (Q : Int → ml_St → Prop) (σ : ml_St) (x1 : Int) : Prop :=
(x1 < 30 →
f_X11_count_u128 Q σ) ∧
(¬ (x1 < 30) →
I32 (x1 - 30) ∧
f_X11_isTold σ (x1 - 30) (fun r3 σ3 => ∀ _ : ml_B r3,
(r3 = 0 →
f_X11_count_u128 Q σ3) ∧
(r3 ≠ 0 →
I32 (x1 - 30) ∧
(0 : Int) ≤ (x1 - 30) ∧ ((x1 - 30) : Int) < 16 ∧
∀ _ : I32 (σ3 (119 + 6 * (x1 - 30)) 3),
f_X11_count_u129 Q σ3 (σ3 (119 + 6 * (x1 - 30)) 3))))
def f_X11_count_u0 (Q : Int → ml_St → Prop) (σ : ml_St) (x1 : Int) : Prop :=
(x1 = 0 →
∀ _ : I32 (σ 1 11),
Q (σ 1 11) σ) ∧
(x1 = 1 →
∀ _ : I32 (σ 1 12),
Q (σ 1 12) σ) ∧
(x1 = 2 →
∀ _ : I32 (σ 2 1),
Q (σ 2 1) σ) ∧
(x1 = 3 →
∀ _ : ml_B (σ 4 1),
(((σ 4 1) : Int) = 0 →
f_X11_count_u65 Q σ 0) ∧
((σ 4 1) ≠ 0 →
f_X11_count_u65 Q σ 1)) ∧
(x1 < 0 ∨ 3 < x1 →
(x1 < 10 →
f_X11_count_u96 Q σ x1) ∧
(¬ (x1 < 10) →
I32 (x1 - 10) ∧
f_X11_isTold σ (x1 - 10) (fun r9 σ9 => ∀ _ : ml_B r9,
(r9 = 0 →
f_X11_count_u96 Q σ9 x1) ∧
(r9 ≠ 0 →
I32 (x1 - 10) ∧
(0 : Int) ≤ (x1 - 10) ∧ ((x1 - 10) : Int) < 16 ∧
∀ _ : I32 (σ9 (119 + 6 * (x1 - 10)) 1),
Q (σ9 (119 + 6 * (x1 - 10)) 1) σ9))))
def f_X11_count (σ : ml_St) (x1 : Int) (Q : Int → ml_St → Prop) : Prop := f_X11_count_u0 Q σ x1
def rm_X11_count : Room := { frames := 1, cells := 0, slots := 0, locals := 21 }
set_option maxRecDepth 100000 in
set_option maxHeartbeats 4000000 in
theorem u_X11_count_65 {p : Program} {e : Env} {s : State} {m : MethodId} {args : Array Value} {below : List Frame} {meth : Method} {c : Code} {base : Nat} {D : va_G} {cA : Nat → ClassId} {n : Nat} {l : Launch} {Q : Int → ml_St → Prop} (X : ml_X p s m c meth args D cA cX11_count 2 RX11 (some .int)) (hn : 214 ≤ n) (σ : ml_St) (s0 : Int) (h_s0 : ml_B s0) (ls : Array Slot) (hl : lv_has ls 2 []) (hw : f_X11_count_u65 Q σ s0) : ml_V p l e rm_X11_count s m args below meth c (MQ below (ml_Qi I32 base D cA n Q) args s 0 0 (ml_A base)) base D cA 0 0 n n σ (F0 m 65 ls [.int (Int32.ofInt s0)]) := by
  unfold f_X11_count_u65 at hw
  exact ml_iret (pc := 65) X h_s0.i hw dX11_count_65
set_option maxRecDepth 100000 in
set_option maxHeartbeats 4000000 in
theorem u_X11_count_129 {p : Program} {e : Env} {s : State} {m : MethodId} {args : Array Value} {below : List Frame} {meth : Method} {c : Code} {base : Nat} {D : va_G} {cA : Nat → ClassId} {n : Nat} {l : Launch} {Q : Int → ml_St → Prop} (X : ml_X p s m c meth args D cA cX11_count 2 RX11 (some .int)) (hn : 214 ≤ n) (σ : ml_St) (s0 : Int) (h_s0 : I32 s0) (ls : Array Slot) (hl : lv_has ls 2 []) (hw : f_X11_count_u129 Q σ s0) : ml_V p l e rm_X11_count s m args below meth c (MQ below (ml_Qi I32 base D cA n Q) args s 0 0 (ml_A base)) base D cA 0 0 n n σ (F0 m 129 ls [.int (Int32.ofInt s0)]) := by
  unfold f_X11_count_u129 at hw
  exact ml_iret (pc := 129) X h_s0 hw dX11_count_129
set_option maxRecDepth 100000 in
set_option maxHeartbeats 4000000 in
theorem u_X11_count_128 {p : Program} {e : Env} {s : State} {m : MethodId} {args : Array Value} {below : List Frame} {meth : Method} {c : Code} {base : Nat} {D : va_G} {cA : Nat → ClassId} {n : Nat} {l : Launch} {Q : Int → ml_St → Prop} (X : ml_X p s m c meth args D cA cX11_count 2 RX11 (some .int)) (hn : 214 ≤ n) (σ : ml_St) (ls : Array Slot) (hl : lv_has ls 2 []) (hw : f_X11_count_u128 Q σ) : ml_V p l e rm_X11_count s m args below meth c (MQ below (ml_Qi I32 base D cA n Q) args s 0 0 (ml_A base)) base D cA 0 0 n n σ (F0 m 128 ls []) := by
  unfold f_X11_count_u128 at hw
  refine ml_iconst (pc := 128) X dX11_count_128 ?_
  exact u_X11_count_129 X hn σ (-1) ⟨by decide, by decide⟩ _ (lv_sub hl [] rfl) hw
set_option maxRecDepth 100000 in
set_option maxHeartbeats 4000000 in
theorem u_X11_count_96 {p : Program} {e : Env} {s : State} {m : MethodId} {args : Array Value} {below : List Frame} {meth : Method} {c : Code} {base : Nat} {D : va_G} {cA : Nat → ClassId} {n : Nat} {l : Launch} {Q : Int → ml_St → Prop} (X : ml_X p s m c meth args D cA cX11_count 2 RX11 (some .int)) (hn : 214 ≤ n) (σ : ml_St) (x1 : Int) (h_x1 : I32 x1) (ls : Array Slot) (hl : lv_has ls 2 [(0, .ref (base + (1 : Int).toNat)), (1, .int (Int32.ofInt x1))]) (hw : f_X11_count_u96 Q σ x1) : ml_V p l e rm_X11_count s m args below meth c (MQ below (ml_Qi I32 base D cA n Q) args s 0 0 (ml_A base)) base D cA 0 0 n n σ (F0 m 96 ls []) := by
  unfold f_X11_count_u96 at hw
  refine ml_iload_n (pc := 96) X hl 1 rfl rfl dX11_count_96 ?_
  refine ml_bipush (pc := 97) X dX11_count_97 (by decide) ?_
  refine ml_icmp_lt (pc := 99) (tgt := 128) X h_x1 ⟨by decide, by decide⟩ dX11_count_99 (by decide) (fun c1 => ?_) (fun c1 => ?_)
  · have hw := hw.1 c1
    exact u_X11_count_128 X hn σ   _ (lv_sub hl [] rfl) hw
  · have hw := hw.2 c1
    refine ml_aload_n (pc := 102) X hl 0 rfl rfl dX11_count_102 ?_
    refine ml_iload_n (pc := 103) X hl 1 rfl rfl dX11_count_103 ?_
    refine ml_bipush (pc := 104) X dX11_count_104 (by decide) ?_
    obtain ⟨v2, hw⟩ := hw
    refine ml_isub (pc := 106) X dX11_count_106 ?_
    refine ml_callzV (pc := 107) (rest := []) X [.int (Int32.ofInt (x1 - 30))] (by decide) rfl (ml_c1 hn) (c_X11_isTold l base D cA n hn σ (x1 - 30) v2 _ hw) cv_X11_104 ⟨rfl, rfl⟩ ⟨by decide, by decide⟩ rfl rfl hl (Nat.le_of_ble_eq_true rfl) ⟨Nat.zero_le _, Nat.zero_le _⟩ dX11_count_107 (fun r3 σ3 t3 hw => ?_)
    have hw := hw t3
    refine ml_if_eq (pc := 110) (tgt := 128) X t3.i dX11_count_110 (by decide) (fun c4 => ?_) (fun c4 => ?_)
    · have hw := hw.1 c4
      exact u_X11_count_128 X hn σ3   _ (lv_sub hl [] rfl) hw
    · have hw := hw.2 c4
      refine ml_aload_n (pc := 113) X hl 0 rfl rfl dX11_count_113 ?_
      refine gf_X11_67 (pc := 114) X (ml_c1 hn) dX11_count_114 ?_
      refine ml_iload_n (pc := 117) X hl 1 rfl rfl dX11_count_117 ?_
      refine ml_bipush (pc := 118) X dX11_count_118 (by decide) ?_
      obtain ⟨v5, hw⟩ := hw
      refine ml_isub (pc := 120) X dX11_count_120 ?_
      obtain ⟨a6, b6, hw⟩ := hw
      refine ml_aald_words (pc := 121) X hn a6 b6 dX11_count_121 ?_
      refine gf_X11_239 (pc := 122) X (ml_at_words hn a6 b6) dX11_count_122 (fun r7 => ?_)
      have hw := hw r7
      refine ml_goto (pc := 125) (tgt := 129) X dX11_count_125 (by decide) ?_
      exact u_X11_count_129 X hn σ3 (σ3 (119 + 6 * (x1 - 30)) 3) r7 _ (lv_sub hl [] rfl) hw
set_option maxRecDepth 100000 in
set_option maxHeartbeats 4000000 in
theorem u_X11_count_0 {p : Program} {e : Env} {s : State} {m : MethodId} {args : Array Value} {below : List Frame} {meth : Method} {c : Code} {base : Nat} {D : va_G} {cA : Nat → ClassId} {n : Nat} {l : Launch} {Q : Int → ml_St → Prop} (X : ml_X p s m c meth args D cA cX11_count 2 RX11 (some .int)) (hn : 214 ≤ n) (σ : ml_St) (x1 : Int) (h_x1 : I32 x1) (ls : Array Slot) (hl : lv_has ls 2 [(0, .ref (base + (1 : Int).toNat)), (1, .int (Int32.ofInt x1))]) (hw : f_X11_count_u0 Q σ x1) : ml_V p l e rm_X11_count s m args below meth c (MQ below (ml_Qi I32 base D cA n Q) args s 0 0 (ml_A base)) base D cA 0 0 n n σ (F0 m 0 ls []) := by
  unfold f_X11_count_u0 at hw
  refine ml_iload_n (pc := 0) X hl 1 rfl rfl dX11_count_0 ?_
  rcases (show x1 = 0 ∨ x1 = 1 ∨ x1 = 2 ∨ x1 = 3 ∨ (x1 < 0 ∨ 3 < x1) by omega) with c1 | c1 | c1 | c1 | c1
  · have hw := hw.1 c1
    refine ml_tIn (pc := 1) (off := 31) (tgt := 32) X c1 dX11_count_1 (by decide) (by decide) (by decide +kernel) (by decide) ?_
    refine ml_aload_n (pc := 32) X hl 0 rfl rfl dX11_count_32 ?_
    refine gf_X11_82 (pc := 33) X (ml_c1 hn) dX11_count_33 (fun r2 => ?_)
    have hw := hw r2
    exact ml_iret (pc := 36) X r2 hw dX11_count_36
  · have hw := hw.2.1 c1
    refine ml_tIn (pc := 1) (off := 36) (tgt := 37) X c1 dX11_count_1 (by decide) (by decide) (by decide +kernel) (by decide) ?_
    refine ml_aload_n (pc := 37) X hl 0 rfl rfl dX11_count_37 ?_
    refine gf_X11_86 (pc := 38) X (ml_c1 hn) dX11_count_38 (fun r3 => ?_)
    have hw := hw r3
    exact ml_iret (pc := 41) X r3 hw dX11_count_41
  · have hw := hw.2.2.1 c1
    refine ml_tIn (pc := 1) (off := 41) (tgt := 42) X c1 dX11_count_1 (by decide) (by decide) (by decide +kernel) (by decide) ?_
    refine ml_aload_n (pc := 42) X hl 0 rfl rfl dX11_count_42 ?_
    refine gf_X11_10 (pc := 43) X (ml_c1 hn) dX11_count_43 ?_
    refine gf_X11_94 (pc := 46) X (ml_c2 hn) dX11_count_46 (fun r4 => ?_)
    have hw := hw r4
    exact ml_iret (pc := 49) X r4 hw dX11_count_49
  · have hw := hw.2.2.2.1 c1
    refine ml_tIn (pc := 1) (off := 49) (tgt := 50) X c1 dX11_count_1 (by decide) (by decide) (by decide +kernel) (by decide) ?_
    refine ml_aload_n (pc := 50) X hl 0 rfl rfl dX11_count_50 ?_
    refine gf_X11_19 (pc := 51) X (ml_c1 hn) dX11_count_51 ?_
    refine gf_X11_278 (pc := 54) X (ml_c4 hn) dX11_count_54 (fun r5 => ?_)
    have hw := hw r5
    refine ml_if_eq (pc := 57) (tgt := 64) X r5.i dX11_count_57 (by decide) (fun c6 => ?_) (fun c6 => ?_)
    · have hw := hw.1 c6
      refine ml_iconst (pc := 64) X dX11_count_64 ?_
      exact u_X11_count_65 X hn σ 0 ⟨by decide, by decide⟩ _ (lv_sub hl [] rfl) hw
    · have hw := hw.2 c6
      refine ml_iconst (pc := 60) X dX11_count_60 ?_
      refine ml_goto (pc := 61) (tgt := 65) X dX11_count_61 (by decide) ?_
      exact u_X11_count_65 X hn σ 1 ⟨by decide, by decide⟩ _ (lv_sub hl [] rfl) hw
  · have hw := hw.2.2.2.2 c1
    refine ml_tOut (pc := 1) (tgt := 66) X h_x1 dX11_count_1 c1 (by decide) ?_
    refine ml_iload_n (pc := 66) X hl 1 rfl rfl dX11_count_66 ?_
    refine ml_bipush (pc := 67) X dX11_count_67 (by decide) ?_
    refine ml_icmp_lt (pc := 69) (tgt := 96) X h_x1 ⟨by decide, by decide⟩ dX11_count_69 (by decide) (fun c7 => ?_) (fun c7 => ?_)
    · have hw := hw.1 c7
      exact u_X11_count_96 X hn σ x1 h_x1 _ (lv_sub hl [0, 1] rfl) hw
    · have hw := hw.2 c7
      refine ml_aload_n (pc := 72) X hl 0 rfl rfl dX11_count_72 ?_
      refine ml_iload_n (pc := 73) X hl 1 rfl rfl dX11_count_73 ?_
      refine ml_bipush (pc := 74) X dX11_count_74 (by decide) ?_
      obtain ⟨v8, hw⟩ := hw
      refine ml_isub (pc := 76) X dX11_count_76 ?_
      refine ml_callzV (pc := 77) (rest := []) X [.int (Int32.ofInt (x1 - 10))] (by decide) rfl (ml_c1 hn) (c_X11_isTold l base D cA n hn σ (x1 - 10) v8 _ hw) cv_X11_104 ⟨rfl, rfl⟩ ⟨by decide, by decide⟩ rfl rfl hl (Nat.le_of_ble_eq_true rfl) ⟨Nat.zero_le _, Nat.zero_le _⟩ dX11_count_77 (fun r9 σ9 t9 hw => ?_)
      have hw := hw t9
      refine ml_if_eq (pc := 80) (tgt := 96) X t9.i dX11_count_80 (by decide) (fun c10 => ?_) (fun c10 => ?_)
      · have hw := hw.1 c10
        exact u_X11_count_96 X hn σ9 x1 h_x1 _ (lv_sub hl [0, 1] rfl) hw
      · have hw := hw.2 c10
        refine ml_aload_n (pc := 83) X hl 0 rfl rfl dX11_count_83 ?_
        refine gf_X11_67 (pc := 84) X (ml_c1 hn) dX11_count_84 ?_
        refine ml_iload_n (pc := 87) X hl 1 rfl rfl dX11_count_87 ?_
        refine ml_bipush (pc := 88) X dX11_count_88 (by decide) ?_
        obtain ⟨v11, hw⟩ := hw
        refine ml_isub (pc := 90) X dX11_count_90 ?_
        obtain ⟨a12, b12, hw⟩ := hw
        refine ml_aald_words (pc := 91) X hn a12 b12 dX11_count_91 ?_
        refine gf_X11_253 (pc := 92) X (ml_at_words hn a12 b12) dX11_count_92 (fun r13 => ?_)
        have hw := hw r13
        exact ml_iret (pc := 95) X r13 hw dX11_count_95
set_option maxRecDepth 100000 in
theorem c_X11_count (l : Launch) (base : Nat) (D : va_G) (cA : Nat → ClassId) (n : Nat) (hn : 214 ≤ n) (σ : ml_St) (x1 : Int) (h_x1 : I32 x1) (Q : Int → ml_St → Prop) (hw : f_X11_count σ x1 Q) : Met l yX11_count (Cond.code yX11_count cX11_count 2 (some .int) :: ml_T) rm_X11_count (va_Pc [.ref (base + (1 : Int).toNat), .int (Int32.ofInt x1)] (ml_U base D cA n σ)) (ml_Qi I32 base D cA n Q) 0 0 (ml_A base) := by
  refine Met.ofW (cc := cX11_count) (maxL := 2) (ret := (some .int)) (by decide) rfl ?_
  intro p e s m args below meth c s₁ B hml hv
  obtain ⟨rfl, hP, hK, hok, hro⟩ := hv
  have X : ml_X p s m c meth _ D cA cX11_count 2 RX11 (some .int) := ⟨B.exec, B.bytes, hml, findClass_of_methodNamed B.named, fun w hw => atoms_spec (ws := Cond.code yX11_count cX11_count 2 (some .int) :: ml_T) B.pre w (List.mem_cons_of_mem _ hw), hK, B.notSynchronized, B.returns⟩
  have hl := lv_entry [.ref (base + (1 : Int).toNat), .int (Int32.ofInt x1)] (n := 2) (Nat.le_of_ble_eq_true rfl)
  rw [lg_entry_eq]
  generalize (lg_sl [.ref (base + (1 : Int).toNat), .int (Int32.ofInt x1)] ++ List.replicate (2 - (lg_sl [.ref (base + (1 : Int).toNat), .int (Int32.ofInt x1)]).length) Slot.unset).toArray = ls at hl ⊢
  have hl : lv_has ls 2 [(0, .ref (base + (1 : Int).toNat)), (1, .int (Int32.ofInt x1))] := hl
  unfold f_X11_count at hw
  exact u_X11_count_0 X hn σ x1 h_x1 _ (lv_sub hl [0, 1] rfl) hw s.heap [] hP va_S.rf hok hro
theorem dX12_lies_0 : decode cX12_lies 0 = .ok (.lload_n 0, 1) := by decide +kernel
theorem dX12_lies_1 : decode cX12_lies 1 = .ok (.lload_n 2, 1) := by decide +kernel
theorem dX12_lies_2 : decode cX12_lies 2 = .ok (.lcmp, 1) := by decide +kernel
theorem dX12_lies_3 : decode cX12_lies 3 = .ok (.ifCond .lt 14, 3) := by decide +kernel
theorem dX12_lies_6 : decode cX12_lies 6 = .ok (.lload_n 0, 1) := by decide +kernel
theorem dX12_lies_7 : decode cX12_lies 7 = .ok (.lload 4, 2) := by decide +kernel
theorem dX12_lies_9 : decode cX12_lies 9 = .ok (.lcmp, 1) := by decide +kernel
theorem dX12_lies_10 : decode cX12_lies 10 = .ok (.ifCond .gt 7, 3) := by decide +kernel
theorem dX12_lies_13 : decode cX12_lies 13 = .ok (.iconst 1, 1) := by decide +kernel
theorem dX12_lies_14 : decode cX12_lies 14 = .ok (.goto 4, 3) := by decide +kernel
theorem dX12_lies_17 : decode cX12_lies 17 = .ok (.iconst 0, 1) := by decide +kernel
theorem dX12_lies_18 : decode cX12_lies 18 = .ok (.ireturn, 1) := by decide +kernel
def f_X12_lies_u18 (Q : Int → ml_St → Prop) (σ : ml_St) (s0 : Int) : Prop :=
Q s0 σ
def f_X12_lies_u17 (Q : Int → ml_St → Prop) (σ : ml_St) : Prop :=
f_X12_lies_u18 Q σ 0
def f_X12_lies_u0 (Q : Int → ml_St → Prop) (σ : ml_St) (x0 : Int) (x2 : Int) (x4 : Int) : Prop :=
(x0 < x2 →
f_X12_lies_u17 Q σ) ∧
(¬ (x0 < x2) →
(x4 < x0 →
f_X12_lies_u17 Q σ) ∧
(¬ (x4 < x0) →
f_X12_lies_u18 Q σ 1))
def f_X12_lies (σ : ml_St) (x0 : Int) (x2 : Int) (x4 : Int) (Q : Int → ml_St → Prop) : Prop := f_X12_lies_u0 Q σ x0 x2 x4
def rm_X12_lies : Room := { frames := 0, cells := 0, slots := 0, locals := 0 }
set_option maxRecDepth 100000 in
set_option maxHeartbeats 4000000 in
theorem u_X12_lies_18 {p : Program} {e : Env} {s : State} {m : MethodId} {args : Array Value} {below : List Frame} {meth : Method} {c : Code} {base : Nat} {D : va_G} {cA : Nat → ClassId} {n : Nat} {l : Launch} {Q : Int → ml_St → Prop} (X : ml_X p s m c meth args D cA cX12_lies 6 RX12 (some .boolean)) (hn : 256 ≤ n) (σ : ml_St) (s0 : Int) (h_s0 : ml_B s0) (ls : Array Slot) (hl : lv_has ls 6 []) (hw : f_X12_lies_u18 Q σ s0) : ml_V p l e rm_X12_lies s m args below meth c (MQ below (ml_Qi ml_B base D cA n Q) args s 0 0 (ml_A base)) base D cA 0 0 n n σ (F0 m 18 ls [.int (Int32.ofInt s0)]) := by
  unfold f_X12_lies_u18 at hw
  exact ml_zret (pc := 18) X h_s0 hw dX12_lies_18
set_option maxRecDepth 100000 in
set_option maxHeartbeats 4000000 in
theorem u_X12_lies_17 {p : Program} {e : Env} {s : State} {m : MethodId} {args : Array Value} {below : List Frame} {meth : Method} {c : Code} {base : Nat} {D : va_G} {cA : Nat → ClassId} {n : Nat} {l : Launch} {Q : Int → ml_St → Prop} (X : ml_X p s m c meth args D cA cX12_lies 6 RX12 (some .boolean)) (hn : 256 ≤ n) (σ : ml_St) (ls : Array Slot) (hl : lv_has ls 6 []) (hw : f_X12_lies_u17 Q σ) : ml_V p l e rm_X12_lies s m args below meth c (MQ below (ml_Qi ml_B base D cA n Q) args s 0 0 (ml_A base)) base D cA 0 0 n n σ (F0 m 17 ls []) := by
  unfold f_X12_lies_u17 at hw
  refine ml_iconst (pc := 17) X dX12_lies_17 ?_
  exact u_X12_lies_18 X hn σ 0 ⟨by decide, by decide⟩ _ (lv_sub hl [] rfl) hw
set_option maxRecDepth 100000 in
set_option maxHeartbeats 4000000 in
theorem u_X12_lies_0 {p : Program} {e : Env} {s : State} {m : MethodId} {args : Array Value} {below : List Frame} {meth : Method} {c : Code} {base : Nat} {D : va_G} {cA : Nat → ClassId} {n : Nat} {l : Launch} {Q : Int → ml_St → Prop} (X : ml_X p s m c meth args D cA cX12_lies 6 RX12 (some .boolean)) (hn : 256 ≤ n) (σ : ml_St) (x0 : Int) (x2 : Int) (x4 : Int) (h_x0 : I64 x0) (h_x2 : I64 x2) (h_x4 : I64 x4) (ls : Array Slot) (hl : lv_has ls 6 [(0, .long (Int64.ofInt x0)), (2, .long (Int64.ofInt x2)), (4, .long (Int64.ofInt x4))]) (hw : f_X12_lies_u0 Q σ x0 x2 x4) : ml_V p l e rm_X12_lies s m args below meth c (MQ below (ml_Qi ml_B base D cA n Q) args s 0 0 (ml_A base)) base D cA 0 0 n n σ (F0 m 0 ls []) := by
  unfold f_X12_lies_u0 at hw
  refine ml_lload_n (pc := 0) X hl 0 rfl rfl dX12_lies_0 ?_
  refine ml_lload_n (pc := 1) X hl 1 rfl rfl dX12_lies_1 ?_
  refine ml_lcmp_lt (pc := 2) (tgt := 17) X h_x0 h_x2 dX12_lies_2 dX12_lies_3 (by decide) (fun c1 => ?_) (fun c1 => ?_)
  · have hw := hw.1 c1
    exact u_X12_lies_17 X hn σ   _ (lv_sub hl [] rfl) hw
  · have hw := hw.2 c1
    refine ml_lload_n (pc := 6) X hl 0 rfl rfl dX12_lies_6 ?_
    refine ml_lload (pc := 7) X hl 2 rfl dX12_lies_7 ?_
    refine ml_lcmp_gt (pc := 9) (tgt := 17) X h_x0 h_x4 dX12_lies_9 dX12_lies_10 (by decide) (fun c2 => ?_) (fun c2 => ?_)
    · have hw := hw.1 c2
      exact u_X12_lies_17 X hn σ   _ (lv_sub hl [] rfl) hw
    · have hw := hw.2 c2
      refine ml_iconst (pc := 13) X dX12_lies_13 ?_
      refine ml_goto (pc := 14) (tgt := 18) X dX12_lies_14 (by decide) ?_
      exact u_X12_lies_18 X hn σ 1 ⟨by decide, by decide⟩ _ (lv_sub hl [] rfl) hw
set_option maxRecDepth 100000 in
theorem c_X12_lies (l : Launch) (base : Nat) (D : va_G) (cA : Nat → ClassId) (n : Nat) (hn : 256 ≤ n) (σ : ml_St) (x0 : Int) (x2 : Int) (x4 : Int) (h_x0 : I64 x0) (h_x2 : I64 x2) (h_x4 : I64 x4) (Q : Int → ml_St → Prop) (hw : f_X12_lies σ x0 x2 x4 Q) : Met l yX12_lies (Cond.code yX12_lies cX12_lies 6 (some .boolean) :: ml_T) rm_X12_lies (va_Pc [.long (Int64.ofInt x0), .long (Int64.ofInt x2), .long (Int64.ofInt x4)] (ml_U base D cA n σ)) (ml_Qi ml_B base D cA n Q) 0 0 (ml_A base) := by
  refine Met.ofW (cc := cX12_lies) (maxL := 6) (ret := (some .boolean)) (by decide) rfl ?_
  intro p e s m args below meth c s₁ B hml hv
  obtain ⟨rfl, hP, hK, hok, hro⟩ := hv
  have X : ml_X p s m c meth _ D cA cX12_lies 6 RX12 (some .boolean) := ⟨B.exec, B.bytes, hml, findClass_of_methodNamed B.named, fun w hw => atoms_spec (ws := Cond.code yX12_lies cX12_lies 6 (some .boolean) :: ml_T) B.pre w (List.mem_cons_of_mem _ hw), hK, B.notSynchronized, B.returns⟩
  have hl := lv_entry [.long (Int64.ofInt x0), .long (Int64.ofInt x2), .long (Int64.ofInt x4)] (n := 6) (Nat.le_of_ble_eq_true rfl)
  rw [lg_entry_eq]
  generalize (lg_sl [.long (Int64.ofInt x0), .long (Int64.ofInt x2), .long (Int64.ofInt x4)] ++ List.replicate (6 - (lg_sl [.long (Int64.ofInt x0), .long (Int64.ofInt x2), .long (Int64.ofInt x4)]).length) Slot.unset).toArray = ls at hl ⊢
  have hl : lv_has ls 6 [(0, .long (Int64.ofInt x0)), (2, .long (Int64.ofInt x2)), (4, .long (Int64.ofInt x4))] := hl
  unfold f_X12_lies at hw
  exact u_X12_lies_0 X hn σ x0 x2 x4 h_x0 h_x2 h_x4 _ (lv_sub hl [0, 1, 2] rfl) hw s.heap [] hP va_S.rf hok hro
theorem dX12_rails_0 : decode cX12_rails 0 = .ok (.iload_n 1, 1) := by decide +kernel
theorem dX12_rails_1 : decode cX12_rails 1 = .ok (.i2l, 1) := by decide +kernel
theorem dX12_rails_2 : decode cX12_rails 2 = .ok (.ldc2_w 147, 3) := by decide +kernel
theorem dX12_rails_5 : decode cX12_rails 5 = .ok (.ldc2_w 149, 3) := by decide +kernel
theorem dX12_rails_8 : decode cX12_rails 8 = .ok (.invokestatic 143, 3) := by decide +kernel
theorem dX12_rails_11 : decode cX12_rails 11 = .ok (.ifCond .eq 10, 3) := by decide +kernel
theorem dX12_rails_14 : decode cX12_rails 14 = .ok (.aload_n 0, 1) := by decide +kernel
theorem dX12_rails_15 : decode cX12_rails 15 = .ok (.getfield 140, 3) := by decide +kernel
theorem dX12_rails_18 : decode cX12_rails 18 = .ok (.ifCond .le 5, 3) := by decide +kernel
theorem dX12_rails_21 : decode cX12_rails 21 = .ok (.iconst 0, 1) := by decide +kernel
theorem dX12_rails_22 : decode cX12_rails 22 = .ok (.ireturn, 1) := by decide +kernel
theorem dX12_rails_23 : decode cX12_rails 23 = .ok (.aload_n 0, 1) := by decide +kernel
theorem dX12_rails_24 : decode cX12_rails 24 = .ok (.iload_n 1, 1) := by decide +kernel
theorem dX12_rails_25 : decode cX12_rails 25 = .ok (.putfield 13, 3) := by decide +kernel
theorem dX12_rails_28 : decode cX12_rails 28 = .ok (.aload_n 0, 1) := by decide +kernel
theorem dX12_rails_29 : decode cX12_rails 29 = .ok (.iconst 0, 1) := by decide +kernel
theorem dX12_rails_30 : decode cX12_rails 30 = .ok (.putfield 151, 3) := by decide +kernel
theorem dX12_rails_33 : decode cX12_rails 33 = .ok (.iconst 1, 1) := by decide +kernel
theorem dX12_rails_34 : decode cX12_rails 34 = .ok (.ireturn, 1) := by decide +kernel
def f_X12_rails_u21 (Q : Int → ml_St → Prop) (σ : ml_St) : Prop :=
Q 0 σ
def f_X12_rails_u0 (Q : Int → ml_St → Prop) (σ : ml_St) (x1 : Int) : Prop :=
f_X12_lies σ x1 2 5 (fun r1 σ1 => ∀ _ : ml_B r1,
(r1 = 0 →
f_X12_rails_u21 Q σ1) ∧
(r1 ≠ 0 →
∀ _ : I32 (σ1 215 3),
(((σ1 215 3) : Int) ≤ 0 →
∀ σ5, σ5 = ml_up σ1 215 2 x1 →
∀ σ6, σ6 = ml_up σ5 215 4 0 →
Q 1 σ6) ∧
(¬ (((σ1 215 3) : Int) ≤ 0) →
f_X12_rails_u21 Q σ1)))
def f_X12_rails (σ : ml_St) (x1 : Int) (Q : Int → ml_St → Prop) : Prop := f_X12_rails_u0 Q σ x1
def rm_X12_rails : Room := { frames := 1, cells := 0, slots := 0, locals := 25 }
set_option maxRecDepth 100000 in
set_option maxHeartbeats 4000000 in
theorem u_X12_rails_21 {p : Program} {e : Env} {s : State} {m : MethodId} {args : Array Value} {below : List Frame} {meth : Method} {c : Code} {base : Nat} {D : va_G} {cA : Nat → ClassId} {n : Nat} {l : Launch} {Q : Int → ml_St → Prop} (X : ml_X p s m c meth args D cA cX12_rails 2 RX12 (some .boolean)) (hn : 256 ≤ n) (σ : ml_St) (ls : Array Slot) (hl : lv_has ls 2 []) (hw : f_X12_rails_u21 Q σ) : ml_V p l e rm_X12_rails s m args below meth c (MQ below (ml_Qi ml_B base D cA n Q) args s 0 0 (ml_A base)) base D cA 0 0 n n σ (F0 m 21 ls []) := by
  unfold f_X12_rails_u21 at hw
  refine ml_iconst (pc := 21) X dX12_rails_21 ?_
  exact ml_zret (pc := 22) X ⟨by decide, by decide⟩ hw dX12_rails_22
set_option maxRecDepth 100000 in
set_option maxHeartbeats 4000000 in
theorem u_X12_rails_0 {p : Program} {e : Env} {s : State} {m : MethodId} {args : Array Value} {below : List Frame} {meth : Method} {c : Code} {base : Nat} {D : va_G} {cA : Nat → ClassId} {n : Nat} {l : Launch} {Q : Int → ml_St → Prop} (X : ml_X p s m c meth args D cA cX12_rails 2 RX12 (some .boolean)) (hn : 256 ≤ n) (σ : ml_St) (x1 : Int) (h_x1 : I32 x1) (ls : Array Slot) (hl : lv_has ls 2 [(0, .ref (base + (215 : Int).toNat)), (1, .int (Int32.ofInt x1))]) (hw : f_X12_rails_u0 Q σ x1) : ml_V p l e rm_X12_rails s m args below meth c (MQ below (ml_Qi ml_B base D cA n Q) args s 0 0 (ml_A base)) base D cA 0 0 n n σ (F0 m 0 ls []) := by
  unfold f_X12_rails_u0 at hw
  refine ml_iload_n (pc := 0) X hl 1 rfl rfl dX12_rails_0 ?_
  refine ml_i2l (pc := 1) X h_x1 dX12_rails_1 ?_
  refine ml_ldc2 (pc := 2) (v := 2) X dX12_rails_2 tc_5_143 ?_
  refine ml_ldc2 (pc := 5) (v := 5) X dX12_rails_5 tc_5_144 ?_
  refine ml_callzS (pc := 8) (rest := []) X [.long (Int64.ofInt x1), .long (Int64.ofInt 2), .long (Int64.ofInt 5)] (c_X12_lies l base D cA n hn σ x1 2 5 (h_x1).l ⟨by decide, by decide⟩ ⟨by decide, by decide⟩ _ hw) cv_X12_143 ⟨rfl, rfl⟩ ⟨by decide, by decide⟩ rfl rfl hl (Nat.le_of_ble_eq_true rfl) ⟨Nat.zero_le _, Nat.zero_le _⟩ dX12_rails_8 (fun r1 σ1 t1 hw => ?_)
  have hw := hw t1
  refine ml_if_eq (pc := 11) (tgt := 21) X t1.i dX12_rails_11 (by decide) (fun c2 => ?_) (fun c2 => ?_)
  · have hw := hw.1 c2
    exact u_X12_rails_21 X hn σ1   _ (lv_sub hl [] rfl) hw
  · have hw := hw.2 c2
    refine ml_aload_n (pc := 14) X hl 0 rfl rfl dX12_rails_14 ?_
    refine gf_X12_140 (pc := 15) X (ml_c215 hn) dX12_rails_15 (fun r3 => ?_)
    have hw := hw r3
    refine ml_if_le (pc := 18) (tgt := 23) X r3 dX12_rails_18 (by decide) (fun c4 => ?_) (fun c4 => ?_)
    · have hw := hw.1 c4
      refine ml_aload_n (pc := 23) X hl 0 rfl rfl dX12_rails_23 ?_
      refine ml_iload_n (pc := 24) X hl 1 rfl rfl dX12_rails_24 ?_
      refine pf_X12_13 (pc := 25) X (ml_c215 hn) h_x1 dX12_rails_25 (fun σ5 g5 => ?_)
      have hw := hw σ5 g5
      refine ml_aload_n (pc := 28) X hl 0 rfl rfl dX12_rails_28 ?_
      refine ml_iconst (pc := 29) X dX12_rails_29 ?_
      refine pf_X12_151 (pc := 30) X (ml_c215 hn) ⟨by decide, by decide⟩ dX12_rails_30 (fun σ6 g6 => ?_)
      have hw := hw σ6 g6
      refine ml_iconst (pc := 33) X dX12_rails_33 ?_
      exact ml_zret (pc := 34) X ⟨by decide, by decide⟩ hw dX12_rails_34
    · have hw := hw.2 c4
      exact u_X12_rails_21 X hn σ1   _ (lv_sub hl [] rfl) hw
set_option maxRecDepth 100000 in
theorem c_X12_rails (l : Launch) (base : Nat) (D : va_G) (cA : Nat → ClassId) (n : Nat) (hn : 256 ≤ n) (σ : ml_St) (x1 : Int) (h_x1 : I32 x1) (Q : Int → ml_St → Prop) (hw : f_X12_rails σ x1 Q) : Met l yX12_rails (Cond.code yX12_rails cX12_rails 2 (some .boolean) :: ml_T) rm_X12_rails (va_Pc [.ref (base + (215 : Int).toNat), .int (Int32.ofInt x1)] (ml_U base D cA n σ)) (ml_Qi ml_B base D cA n Q) 0 0 (ml_A base) := by
  refine Met.ofW (cc := cX12_rails) (maxL := 2) (ret := (some .boolean)) (by decide) rfl ?_
  intro p e s m args below meth c s₁ B hml hv
  obtain ⟨rfl, hP, hK, hok, hro⟩ := hv
  have X : ml_X p s m c meth _ D cA cX12_rails 2 RX12 (some .boolean) := ⟨B.exec, B.bytes, hml, findClass_of_methodNamed B.named, fun w hw => atoms_spec (ws := Cond.code yX12_rails cX12_rails 2 (some .boolean) :: ml_T) B.pre w (List.mem_cons_of_mem _ hw), hK, B.notSynchronized, B.returns⟩
  have hl := lv_entry [.ref (base + (215 : Int).toNat), .int (Int32.ofInt x1)] (n := 2) (Nat.le_of_ble_eq_true rfl)
  rw [lg_entry_eq]
  generalize (lg_sl [.ref (base + (215 : Int).toNat), .int (Int32.ofInt x1)] ++ List.replicate (2 - (lg_sl [.ref (base + (215 : Int).toNat), .int (Int32.ofInt x1)]).length) Slot.unset).toArray = ls at hl ⊢
  have hl : lv_has ls 2 [(0, .ref (base + (215 : Int).toNat)), (1, .int (Int32.ofInt x1))] := hl
  unfold f_X12_rails at hw
  exact u_X12_rails_0 X hn σ x1 h_x1 _ (lv_sub hl [0, 1] rfl) hw s.heap [] hP va_S.rf hok hro
theorem dX12_push_0 : decode cX12_push 0 = .ok (.bipush 24, 2) := by decide +kernel
theorem dX12_push_2 : decode cX12_push 2 = .ok (.istore_n 2, 1) := by decide +kernel
theorem dX12_push_3 : decode cX12_push 3 = .ok (.iload_n 2, 1) := by decide +kernel
theorem dX12_push_4 : decode cX12_push 4 = .ok (.ifCond .lt 32, 3) := by decide +kernel
theorem dX12_push_7 : decode cX12_push 7 = .ok (.aload_n 0, 1) := by decide +kernel
theorem dX12_push_8 : decode cX12_push 8 = .ok (.getfield 7, 3) := by decide +kernel
theorem dX12_push_11 : decode cX12_push 11 = .ok (.aload_n 0, 1) := by decide +kernel
theorem dX12_push_12 : decode cX12_push 12 = .ok (.getfield 155, 3) := by decide +kernel
theorem dX12_push_15 : decode cX12_push 15 = .ok (.iload_n 1, 1) := by decide +kernel
theorem dX12_push_16 : decode cX12_push 16 = .ok (.iload_n 2, 1) := by decide +kernel
theorem dX12_push_17 : decode cX12_push 17 = .ok (.ishr, 1) := by decide +kernel
theorem dX12_push_18 : decode cX12_push 18 = .ok (.i2b, 1) := by decide +kernel
theorem dX12_push_19 : decode cX12_push 19 = .ok (.bastore, 1) := by decide +kernel
theorem dX12_push_20 : decode cX12_push 20 = .ok (.aload_n 0, 1) := by decide +kernel
theorem dX12_push_21 : decode cX12_push 21 = .ok (.dup, 1) := by decide +kernel
theorem dX12_push_22 : decode cX12_push 22 = .ok (.getfield 155, 3) := by decide +kernel
theorem dX12_push_25 : decode cX12_push 25 = .ok (.iconst 1, 1) := by decide +kernel
theorem dX12_push_26 : decode cX12_push 26 = .ok (.iadd, 1) := by decide +kernel
theorem dX12_push_27 : decode cX12_push 27 = .ok (.putfield 155, 3) := by decide +kernel
theorem dX12_push_30 : decode cX12_push 30 = .ok (.iinc 2 (-8), 3) := by decide +kernel
theorem dX12_push_33 : decode cX12_push 33 = .ok (.goto (-30), 3) := by decide +kernel
theorem dX12_push_36 : decode cX12_push 36 = .ok (.return_, 1) := by decide +kernel
def f_X12_push_u3 (Q : ml_St → Prop) (K36 : ml_St → Prop) : Nat → ml_St → Int → Int → Prop
| 0, _, _, _ => False
| N + 1, σ, x1, x2 =>
(x2 < 0 →
K36 σ) ∧
(¬ (x2 < 0) →
∀ _ : I32 (σ 215 1),
(0 : Int) ≤ (σ 215 1) ∧ ((σ 215 1) : Int) < 200 ∧
∀ σ3, σ3 = ml_up σ 216 (σ 215 1) (b_i2b (b_shr x1 x2)) →
∀ _ : I32 (σ3 215 1),
I32 ((σ3 215 1) + 1) ∧
∀ σ6, σ6 = ml_up σ3 215 1 ((σ3 215 1) + 1) →
I32 (x2 + (-8)) ∧
∀ y7 : Int, y7 = x2 + (-8) →
f_X12_push_u3 Q K36 N σ6 x1 y7)
def f_X12_push_u36 (Q : ml_St → Prop) (σ : ml_St) : Prop :=
Q σ
def f_X12_push_u0 (Q : ml_St → Prop) (σ : ml_St) (x1 : Int) : Prop :=
∃ N1, f_X12_push_u3 Q (f_X12_push_u36 Q) N1 σ x1 24
def f_X12_push (σ : ml_St) (x1 : Int) (Q : ml_St → Prop) : Prop := f_X12_push_u0 Q σ x1
def rm_X12_push : Room := { frames := 0, cells := 0, slots := 0, locals := 0 }
set_option maxRecDepth 100000 in
set_option maxHeartbeats 4000000 in
theorem u_X12_push_3 {p : Program} {e : Env} {s : State} {m : MethodId} {args : Array Value} {below : List Frame} {meth : Method} {c : Code} {base : Nat} {D : va_G} {cA : Nat → ClassId} {n : Nat} {l : Launch} {Q : ml_St → Prop} {K36 : ml_St → Prop} (X : ml_X p s m c meth args D cA cX12_push 3 RX12 none) (hn : 256 ≤ n) (hK36 : ∀ (σ : ml_St) (ls : Array Slot), lv_has ls 3 [] → K36 σ → ml_V p l e rm_X12_push s m args below meth c (MQ below (ml_Qv base D cA n Q) args s 0 0 (ml_A base)) base D cA 0 0 n n σ (F0 m 36 ls [])) : ∀ (N : Nat) (σ : ml_St) (x1 : Int) (x2 : Int) (h_x1 : I32 x1) (h_x2 : I32 x2) (ls : Array Slot), lv_has ls 3 [(0, .ref (base + (215 : Int).toNat)), (1, .int (Int32.ofInt x1)), (2, .int (Int32.ofInt x2))] → f_X12_push_u3 Q K36 N σ x1 x2 → ml_V p l e rm_X12_push s m args below meth c (MQ below (ml_Qv base D cA n Q) args s 0 0 (ml_A base)) base D cA 0 0 n n σ (F0 m 3 ls []) := by
  intro N
  induction N with
  | zero => intro σ x1 x2 h_x1 h_x2 ls hl hw; exact False.elim hw
  | succ N ih =>
    intro σ x1 x2 h_x1 h_x2 ls hl hw
    unfold f_X12_push_u3 at hw
    refine ml_iload_n (pc := 3) X hl 2 rfl rfl dX12_push_3 ?_
    refine ml_if_lt (pc := 4) (tgt := 36) X h_x2 dX12_push_4 (by decide) (fun c1 => ?_) (fun c1 => ?_)
    · have hw := hw.1 c1
      exact hK36 σ   _ (lv_sub hl [] rfl) hw
    · have hw := hw.2 c1
      refine ml_aload_n (pc := 7) X hl 0 rfl rfl dX12_push_7 ?_
      refine gf_X12_7 (pc := 8) X (ml_c215 hn) dX12_push_8 ?_
      refine ml_aload_n (pc := 11) X hl 0 rfl rfl dX12_push_11 ?_
      refine gf_X12_155 (pc := 12) X (ml_c215 hn) dX12_push_12 (fun r2 => ?_)
      have hw := hw r2
      refine ml_iload_n (pc := 15) X hl 1 rfl rfl dX12_push_15 ?_
      refine ml_iload_n (pc := 16) X hl 2 rfl rfl dX12_push_16 ?_
      refine ml_ishr (pc := 17) X dX12_push_17 ?_
      refine ml_i2b (pc := 18) X dX12_push_18 ?_
      obtain ⟨a3, b3, hw⟩ := hw
      refine ml_bast (pc := 19) (N := 200) X (ml_c216 hn) a3 b3 (b_i2b_r _) dX12_push_19 (fun σ3 g3 => ?_)
      have hw := hw σ3 g3
      refine ml_aload_n (pc := 20) X hl 0 rfl rfl dX12_push_20 ?_
      refine ml_dup (pc := 21) X dX12_push_21 rfl ?_
      refine gf_X12_155 (pc := 22) X (ml_c215 hn) dX12_push_22 (fun r4 => ?_)
      have hw := hw r4
      refine ml_iconst (pc := 25) X dX12_push_25 ?_
      obtain ⟨v5, hw⟩ := hw
      refine ml_iadd (pc := 26) X dX12_push_26 ?_
      refine pf_X12_155 (pc := 27) X (ml_c215 hn) v5 dX12_push_27 (fun σ6 g6 => ?_)
      have hw := hw σ6 g6
      obtain ⟨v7, hw⟩ := hw
      obtain ⟨y7, e7⟩ : ∃ y : Int, y = x2 + (-8) := ⟨_, rfl⟩
      have hw := hw y7 e7
      rw [← e7] at v7
      refine ml_iinc (pc := 30) X e7 hl 2 rfl (by decide) (lst' := [(2, .int (Int32.ofInt y7)), (0, .ref (base + (215 : Int).toNat)), (1, .int (Int32.ofInt x1))]) rfl dX12_push_30 (fun ls hl => ?_)
      refine ml_goto (pc := 33) (tgt := 3) X dX12_push_33 (by decide) ?_
      exact ih σ6 x1 y7 h_x1 v7 _ (lv_sub hl [1, 2, 0] rfl) hw
set_option maxRecDepth 100000 in
set_option maxHeartbeats 4000000 in
theorem u_X12_push_36 {p : Program} {e : Env} {s : State} {m : MethodId} {args : Array Value} {below : List Frame} {meth : Method} {c : Code} {base : Nat} {D : va_G} {cA : Nat → ClassId} {n : Nat} {l : Launch} {Q : ml_St → Prop} (X : ml_X p s m c meth args D cA cX12_push 3 RX12 none) (hn : 256 ≤ n) (σ : ml_St) (ls : Array Slot) (hl : lv_has ls 3 []) (hw : f_X12_push_u36 Q σ) : ml_V p l e rm_X12_push s m args below meth c (MQ below (ml_Qv base D cA n Q) args s 0 0 (ml_A base)) base D cA 0 0 n n σ (F0 m 36 ls []) := by
  unfold f_X12_push_u36 at hw
  exact ml_vret (pc := 36) X hw dX12_push_36
set_option maxRecDepth 100000 in
set_option maxHeartbeats 4000000 in
theorem u_X12_push_0 {p : Program} {e : Env} {s : State} {m : MethodId} {args : Array Value} {below : List Frame} {meth : Method} {c : Code} {base : Nat} {D : va_G} {cA : Nat → ClassId} {n : Nat} {l : Launch} {Q : ml_St → Prop} (X : ml_X p s m c meth args D cA cX12_push 3 RX12 none) (hn : 256 ≤ n) (σ : ml_St) (x1 : Int) (h_x1 : I32 x1) (ls : Array Slot) (hl : lv_has ls 3 [(0, .ref (base + (215 : Int).toNat)), (1, .int (Int32.ofInt x1))]) (hw : f_X12_push_u0 Q σ x1) : ml_V p l e rm_X12_push s m args below meth c (MQ below (ml_Qv base D cA n Q) args s 0 0 (ml_A base)) base D cA 0 0 n n σ (F0 m 0 ls []) := by
  unfold f_X12_push_u0 at hw
  refine ml_bipush (pc := 0) X dX12_push_0 (by decide) ?_
  refine ml_istore_n (pc := 2) X rfl hl (by decide) (lst' := [(2, .int (Int32.ofInt 24)), (0, .ref (base + (215 : Int).toNat)), (1, .int (Int32.ofInt x1))]) rfl dX12_push_2 (fun ls hl => ?_)
  obtain ⟨N0, hw⟩ := hw
  exact u_X12_push_3 X hn (fun σ   ls hl hw => u_X12_push_36 X hn σ   ls hl hw) N0 σ x1 24 h_x1 ⟨by decide, by decide⟩ _ (lv_sub hl [1, 2, 0] rfl) hw
set_option maxRecDepth 100000 in
theorem c_X12_push (l : Launch) (base : Nat) (D : va_G) (cA : Nat → ClassId) (n : Nat) (hn : 256 ≤ n) (σ : ml_St) (x1 : Int) (h_x1 : I32 x1) (Q : ml_St → Prop) (hw : f_X12_push σ x1 Q) : Met l yX12_push (Cond.code yX12_push cX12_push 3 none :: ml_T) rm_X12_push (va_Pc [.ref (base + (215 : Int).toNat), .int (Int32.ofInt x1)] (ml_U base D cA n σ)) (ml_Qv base D cA n Q) 0 0 (ml_A base) := by
  refine Met.ofW (cc := cX12_push) (maxL := 3) (ret := none) (by decide) rfl ?_
  intro p e s m args below meth c s₁ B hml hv
  obtain ⟨rfl, hP, hK, hok, hro⟩ := hv
  have X : ml_X p s m c meth _ D cA cX12_push 3 RX12 none := ⟨B.exec, B.bytes, hml, findClass_of_methodNamed B.named, fun w hw => atoms_spec (ws := Cond.code yX12_push cX12_push 3 none :: ml_T) B.pre w (List.mem_cons_of_mem _ hw), hK, B.notSynchronized, B.returns⟩
  have hl := lv_entry [.ref (base + (215 : Int).toNat), .int (Int32.ofInt x1)] (n := 3) (Nat.le_of_ble_eq_true rfl)
  rw [lg_entry_eq]
  generalize (lg_sl [.ref (base + (215 : Int).toNat), .int (Int32.ofInt x1)] ++ List.replicate (3 - (lg_sl [.ref (base + (215 : Int).toNat), .int (Int32.ofInt x1)]).length) Slot.unset).toArray = ls at hl ⊢
  have hl : lv_has ls 3 [(0, .ref (base + (215 : Int).toNat)), (1, .int (Int32.ofInt x1))] := hl
  unfold f_X12_push at hw
  exact u_X12_push_0 X hn σ x1 h_x1 _ (lv_sub hl [0, 1] rfl) hw s.heap [] hP va_S.rf hok hro
theorem dX12_feed_0 : decode cX12_feed 0 = .ok (.aload_n 0, 1) := by decide +kernel
theorem dX12_feed_1 : decode cX12_feed 1 = .ok (.getfield 155, 3) := by decide +kernel
theorem dX12_feed_4 : decode cX12_feed 4 = .ok (.bipush 20, 2) := by decide +kernel
theorem dX12_feed_6 : decode cX12_feed 6 = .ok (.iadd, 1) := by decide +kernel
theorem dX12_feed_7 : decode cX12_feed 7 = .ok (.sipush 200, 3) := by decide +kernel
theorem dX12_feed_10 : decode cX12_feed 10 = .ok (.if_icmp .le 5, 3) := by decide +kernel
theorem dX12_feed_13 : decode cX12_feed 13 = .ok (.iconst (-1), 1) := by decide +kernel
theorem dX12_feed_14 : decode cX12_feed 14 = .ok (.ireturn, 1) := by decide +kernel
theorem dX12_feed_15 : decode cX12_feed 15 = .ok (.aload_n 0, 1) := by decide +kernel
theorem dX12_feed_16 : decode cX12_feed 16 = .ok (.iload_n 1, 1) := by decide +kernel
theorem dX12_feed_17 : decode cX12_feed 17 = .ok (.invokevirtual 158, 3) := by decide +kernel
theorem dX12_feed_20 : decode cX12_feed 20 = .ok (.aload_n 0, 1) := by decide +kernel
theorem dX12_feed_21 : decode cX12_feed 21 = .ok (.iload_n 2, 1) := by decide +kernel
theorem dX12_feed_22 : decode cX12_feed 22 = .ok (.invokevirtual 158, 3) := by decide +kernel
theorem dX12_feed_25 : decode cX12_feed 25 = .ok (.aload_n 0, 1) := by decide +kernel
theorem dX12_feed_26 : decode cX12_feed 26 = .ok (.iload_n 3, 1) := by decide +kernel
theorem dX12_feed_27 : decode cX12_feed 27 = .ok (.invokevirtual 158, 3) := by decide +kernel
theorem dX12_feed_30 : decode cX12_feed 30 = .ok (.aload_n 0, 1) := by decide +kernel
theorem dX12_feed_31 : decode cX12_feed 31 = .ok (.iload 4, 2) := by decide +kernel
theorem dX12_feed_33 : decode cX12_feed 33 = .ok (.invokevirtual 158, 3) := by decide +kernel
theorem dX12_feed_36 : decode cX12_feed 36 = .ok (.aload_n 0, 1) := by decide +kernel
theorem dX12_feed_37 : decode cX12_feed 37 = .ok (.iload 5, 2) := by decide +kernel
theorem dX12_feed_39 : decode cX12_feed 39 = .ok (.invokevirtual 158, 3) := by decide +kernel
theorem dX12_feed_42 : decode cX12_feed 42 = .ok (.aload_n 0, 1) := by decide +kernel
theorem dX12_feed_43 : decode cX12_feed 43 = .ok (.getfield 155, 3) := by decide +kernel
theorem dX12_feed_46 : decode cX12_feed 46 = .ok (.ireturn, 1) := by decide +kernel
def f_X12_feed_u0 (Q : Int → ml_St → Prop) (σ : ml_St) (x1 : Int) (x2 : Int) (x3 : Int) (x4 : Int) (x5 : Int) : Prop :=
∀ _ : I32 (σ 215 1),
I32 ((σ 215 1) + 20) ∧
((((σ 215 1) + 20) : Int) ≤ 200 →
f_X12_push σ x1 (fun σ4 =>
f_X12_push σ4 x2 (fun σ5 =>
f_X12_push σ5 x3 (fun σ6 =>
f_X12_push σ6 x4 (fun σ7 =>
f_X12_push σ7 x5 (fun σ8 =>
∀ _ : I32 (σ8 215 1),
Q (σ8 215 1) σ8)))))) ∧
(¬ ((((σ 215 1) + 20) : Int) ≤ 200) →
Q (-1) σ)
def f_X12_feed (σ : ml_St) (x1 : Int) (x2 : Int) (x3 : Int) (x4 : Int) (x5 : Int) (Q : Int → ml_St → Prop) : Prop := f_X12_feed_u0 Q σ x1 x2 x3 x4 x5
def rm_X12_feed : Room := { frames := 1, cells := 0, slots := 0, locals := 22 }
set_option maxRecDepth 100000 in
set_option maxHeartbeats 4000000 in
theorem u_X12_feed_0 {p : Program} {e : Env} {s : State} {m : MethodId} {args : Array Value} {below : List Frame} {meth : Method} {c : Code} {base : Nat} {D : va_G} {cA : Nat → ClassId} {n : Nat} {l : Launch} {Q : Int → ml_St → Prop} (X : ml_X p s m c meth args D cA cX12_feed 6 RX12 (some .int)) (hn : 256 ≤ n) (σ : ml_St) (x1 : Int) (x2 : Int) (x3 : Int) (x4 : Int) (x5 : Int) (h_x1 : I32 x1) (h_x2 : I32 x2) (h_x3 : I32 x3) (h_x4 : I32 x4) (h_x5 : I32 x5) (ls : Array Slot) (hl : lv_has ls 6 [(0, .ref (base + (215 : Int).toNat)), (1, .int (Int32.ofInt x1)), (2, .int (Int32.ofInt x2)), (3, .int (Int32.ofInt x3)), (4, .int (Int32.ofInt x4)), (5, .int (Int32.ofInt x5))]) (hw : f_X12_feed_u0 Q σ x1 x2 x3 x4 x5) : ml_V p l e rm_X12_feed s m args below meth c (MQ below (ml_Qi I32 base D cA n Q) args s 0 0 (ml_A base)) base D cA 0 0 n n σ (F0 m 0 ls []) := by
  unfold f_X12_feed_u0 at hw
  refine ml_aload_n (pc := 0) X hl 0 rfl rfl dX12_feed_0 ?_
  refine gf_X12_155 (pc := 1) X (ml_c215 hn) dX12_feed_1 (fun r1 => ?_)
  have hw := hw r1
  refine ml_bipush (pc := 4) X dX12_feed_4 (by decide) ?_
  obtain ⟨v2, hw⟩ := hw
  refine ml_iadd (pc := 6) X dX12_feed_6 ?_
  refine ml_sipush (pc := 7) X dX12_feed_7 (by decide) ?_
  refine ml_icmp_le (pc := 10) (tgt := 15) X v2 ⟨by decide, by decide⟩ dX12_feed_10 (by decide) (fun c3 => ?_) (fun c3 => ?_)
  · have hw := hw.1 c3
    refine ml_aload_n (pc := 15) X hl 0 rfl rfl dX12_feed_15 ?_
    refine ml_iload_n (pc := 16) X hl 1 rfl rfl dX12_feed_16 ?_
    refine ml_callvV (pc := 17) (rest := []) X [.int (Int32.ofInt x1)] (by decide) rfl (ml_c215 hn) (c_X12_push l base D cA n hn σ x1 h_x1 _ hw) cv_X12_158 ⟨rfl, rfl⟩ ⟨by decide, by decide⟩ rfl rfl hl (Nat.le_of_ble_eq_true rfl) ⟨Nat.zero_le _, Nat.zero_le _⟩ dX12_feed_17 (fun σ4 hw => ?_)
    refine ml_aload_n (pc := 20) X hl 0 rfl rfl dX12_feed_20 ?_
    refine ml_iload_n (pc := 21) X hl 2 rfl rfl dX12_feed_21 ?_
    refine ml_callvV (pc := 22) (rest := []) X [.int (Int32.ofInt x2)] (by decide) rfl (ml_c215 hn) (c_X12_push l base D cA n hn σ4 x2 h_x2 _ hw) cv_X12_158 ⟨rfl, rfl⟩ ⟨by decide, by decide⟩ rfl rfl hl (Nat.le_of_ble_eq_true rfl) ⟨Nat.zero_le _, Nat.zero_le _⟩ dX12_feed_22 (fun σ5 hw => ?_)
    refine ml_aload_n (pc := 25) X hl 0 rfl rfl dX12_feed_25 ?_
    refine ml_iload_n (pc := 26) X hl 3 rfl rfl dX12_feed_26 ?_
    refine ml_callvV (pc := 27) (rest := []) X [.int (Int32.ofInt x3)] (by decide) rfl (ml_c215 hn) (c_X12_push l base D cA n hn σ5 x3 h_x3 _ hw) cv_X12_158 ⟨rfl, rfl⟩ ⟨by decide, by decide⟩ rfl rfl hl (Nat.le_of_ble_eq_true rfl) ⟨Nat.zero_le _, Nat.zero_le _⟩ dX12_feed_27 (fun σ6 hw => ?_)
    refine ml_aload_n (pc := 30) X hl 0 rfl rfl dX12_feed_30 ?_
    refine ml_iload (pc := 31) X hl 4 rfl dX12_feed_31 ?_
    refine ml_callvV (pc := 33) (rest := []) X [.int (Int32.ofInt x4)] (by decide) rfl (ml_c215 hn) (c_X12_push l base D cA n hn σ6 x4 h_x4 _ hw) cv_X12_158 ⟨rfl, rfl⟩ ⟨by decide, by decide⟩ rfl rfl hl (Nat.le_of_ble_eq_true rfl) ⟨Nat.zero_le _, Nat.zero_le _⟩ dX12_feed_33 (fun σ7 hw => ?_)
    refine ml_aload_n (pc := 36) X hl 0 rfl rfl dX12_feed_36 ?_
    refine ml_iload (pc := 37) X hl 5 rfl dX12_feed_37 ?_
    refine ml_callvV (pc := 39) (rest := []) X [.int (Int32.ofInt x5)] (by decide) rfl (ml_c215 hn) (c_X12_push l base D cA n hn σ7 x5 h_x5 _ hw) cv_X12_158 ⟨rfl, rfl⟩ ⟨by decide, by decide⟩ rfl rfl hl (Nat.le_of_ble_eq_true rfl) ⟨Nat.zero_le _, Nat.zero_le _⟩ dX12_feed_39 (fun σ8 hw => ?_)
    refine ml_aload_n (pc := 42) X hl 0 rfl rfl dX12_feed_42 ?_
    refine gf_X12_155 (pc := 43) X (ml_c215 hn) dX12_feed_43 (fun r9 => ?_)
    have hw := hw r9
    exact ml_iret (pc := 46) X r9 hw dX12_feed_46
  · have hw := hw.2 c3
    refine ml_iconst (pc := 13) X dX12_feed_13 ?_
    exact ml_iret (pc := 14) X ⟨by decide, by decide⟩ hw dX12_feed_14
set_option maxRecDepth 100000 in
theorem c_X12_feed (l : Launch) (base : Nat) (D : va_G) (cA : Nat → ClassId) (n : Nat) (hn : 256 ≤ n) (σ : ml_St) (x1 : Int) (x2 : Int) (x3 : Int) (x4 : Int) (x5 : Int) (h_x1 : I32 x1) (h_x2 : I32 x2) (h_x3 : I32 x3) (h_x4 : I32 x4) (h_x5 : I32 x5) (Q : Int → ml_St → Prop) (hw : f_X12_feed σ x1 x2 x3 x4 x5 Q) : Met l yX12_feed (Cond.code yX12_feed cX12_feed 6 (some .int) :: ml_T) rm_X12_feed (va_Pc [.ref (base + (215 : Int).toNat), .int (Int32.ofInt x1), .int (Int32.ofInt x2), .int (Int32.ofInt x3), .int (Int32.ofInt x4), .int (Int32.ofInt x5)] (ml_U base D cA n σ)) (ml_Qi I32 base D cA n Q) 0 0 (ml_A base) := by
  refine Met.ofW (cc := cX12_feed) (maxL := 6) (ret := (some .int)) (by decide) rfl ?_
  intro p e s m args below meth c s₁ B hml hv
  obtain ⟨rfl, hP, hK, hok, hro⟩ := hv
  have X : ml_X p s m c meth _ D cA cX12_feed 6 RX12 (some .int) := ⟨B.exec, B.bytes, hml, findClass_of_methodNamed B.named, fun w hw => atoms_spec (ws := Cond.code yX12_feed cX12_feed 6 (some .int) :: ml_T) B.pre w (List.mem_cons_of_mem _ hw), hK, B.notSynchronized, B.returns⟩
  have hl := lv_entry [.ref (base + (215 : Int).toNat), .int (Int32.ofInt x1), .int (Int32.ofInt x2), .int (Int32.ofInt x3), .int (Int32.ofInt x4), .int (Int32.ofInt x5)] (n := 6) (Nat.le_of_ble_eq_true rfl)
  rw [lg_entry_eq]
  generalize (lg_sl [.ref (base + (215 : Int).toNat), .int (Int32.ofInt x1), .int (Int32.ofInt x2), .int (Int32.ofInt x3), .int (Int32.ofInt x4), .int (Int32.ofInt x5)] ++ List.replicate (6 - (lg_sl [.ref (base + (215 : Int).toNat), .int (Int32.ofInt x1), .int (Int32.ofInt x2), .int (Int32.ofInt x3), .int (Int32.ofInt x4), .int (Int32.ofInt x5)]).length) Slot.unset).toArray = ls at hl ⊢
  have hl : lv_has ls 6 [(0, .ref (base + (215 : Int).toNat)), (1, .int (Int32.ofInt x1)), (2, .int (Int32.ofInt x2)), (3, .int (Int32.ofInt x3)), (4, .int (Int32.ofInt x4)), (5, .int (Int32.ofInt x5))] := hl
  unfold f_X12_feed at hw
  exact u_X12_feed_0 X hn σ x1 x2 x3 x4 x5 h_x1 h_x2 h_x3 h_x4 h_x5 _ (lv_sub hl [0, 1, 2, 3, 4, 5] rfl) hw s.heap [] hP va_S.rf hok hro
theorem dX12_isLength_0 : decode cX12_isLength 0 = .ok (.iload_n 1, 1) := by decide +kernel
theorem dX12_isLength_1 : decode cX12_isLength 1 = .ok (.i2l, 1) := by decide +kernel
theorem dX12_isLength_2 : decode cX12_isLength 2 = .ok (.lconst 1, 1) := by decide +kernel
theorem dX12_isLength_3 : decode cX12_isLength 3 = .ok (.ldc2_w 268, 3) := by decide +kernel
theorem dX12_isLength_6 : decode cX12_isLength 6 = .ok (.invokestatic 143, 3) := by decide +kernel
theorem dX12_isLength_9 : decode cX12_isLength 9 = .ok (.ifCond .eq 15, 3) := by decide +kernel
theorem dX12_isLength_12 : decode cX12_isLength 12 = .ok (.iload_n 1, 1) := by decide +kernel
theorem dX12_isLength_13 : decode cX12_isLength 13 = .ok (.aload_n 0, 1) := by decide +kernel
theorem dX12_isLength_14 : decode cX12_isLength 14 = .ok (.getfield 155, 3) := by decide +kernel
theorem dX12_isLength_17 : decode cX12_isLength 17 = .ok (.if_icmp .gt 7, 3) := by decide +kernel
theorem dX12_isLength_20 : decode cX12_isLength 20 = .ok (.iconst 1, 1) := by decide +kernel
theorem dX12_isLength_21 : decode cX12_isLength 21 = .ok (.goto 4, 3) := by decide +kernel
theorem dX12_isLength_24 : decode cX12_isLength 24 = .ok (.iconst 0, 1) := by decide +kernel
theorem dX12_isLength_25 : decode cX12_isLength 25 = .ok (.ireturn, 1) := by decide +kernel
def f_X12_isLength_u25 (Q : Int → ml_St → Prop) (σ : ml_St) (s0 : Int) : Prop :=
Q s0 σ
def f_X12_isLength_u24 (Q : Int → ml_St → Prop) (σ : ml_St) : Prop :=
f_X12_isLength_u25 Q σ 0
def f_X12_isLength_u0 (Q : Int → ml_St → Prop) (σ : ml_St) (x1 : Int) : Prop :=
f_X12_lies σ x1 1 100 (fun r1 σ1 => ∀ _ : ml_B r1,
(r1 = 0 →
f_X12_isLength_u24 Q σ1) ∧
(r1 ≠ 0 →
∀ _ : I32 (σ1 215 1),
((σ1 215 1) < x1 →
f_X12_isLength_u24 Q σ1) ∧
(¬ ((σ1 215 1) < x1) →
f_X12_isLength_u25 Q σ1 1)))
def f_X12_isLength (σ : ml_St) (x1 : Int) (Q : Int → ml_St → Prop) : Prop := f_X12_isLength_u0 Q σ x1
def rm_X12_isLength : Room := { frames := 1, cells := 0, slots := 0, locals := 25 }
set_option maxRecDepth 100000 in
set_option maxHeartbeats 4000000 in
theorem u_X12_isLength_25 {p : Program} {e : Env} {s : State} {m : MethodId} {args : Array Value} {below : List Frame} {meth : Method} {c : Code} {base : Nat} {D : va_G} {cA : Nat → ClassId} {n : Nat} {l : Launch} {Q : Int → ml_St → Prop} (X : ml_X p s m c meth args D cA cX12_isLength 2 RX12 (some .boolean)) (hn : 256 ≤ n) (σ : ml_St) (s0 : Int) (h_s0 : ml_B s0) (ls : Array Slot) (hl : lv_has ls 2 []) (hw : f_X12_isLength_u25 Q σ s0) : ml_V p l e rm_X12_isLength s m args below meth c (MQ below (ml_Qi ml_B base D cA n Q) args s 0 0 (ml_A base)) base D cA 0 0 n n σ (F0 m 25 ls [.int (Int32.ofInt s0)]) := by
  unfold f_X12_isLength_u25 at hw
  exact ml_zret (pc := 25) X h_s0 hw dX12_isLength_25
set_option maxRecDepth 100000 in
set_option maxHeartbeats 4000000 in
theorem u_X12_isLength_24 {p : Program} {e : Env} {s : State} {m : MethodId} {args : Array Value} {below : List Frame} {meth : Method} {c : Code} {base : Nat} {D : va_G} {cA : Nat → ClassId} {n : Nat} {l : Launch} {Q : Int → ml_St → Prop} (X : ml_X p s m c meth args D cA cX12_isLength 2 RX12 (some .boolean)) (hn : 256 ≤ n) (σ : ml_St) (ls : Array Slot) (hl : lv_has ls 2 []) (hw : f_X12_isLength_u24 Q σ) : ml_V p l e rm_X12_isLength s m args below meth c (MQ below (ml_Qi ml_B base D cA n Q) args s 0 0 (ml_A base)) base D cA 0 0 n n σ (F0 m 24 ls []) := by
  unfold f_X12_isLength_u24 at hw
  refine ml_iconst (pc := 24) X dX12_isLength_24 ?_
  exact u_X12_isLength_25 X hn σ 0 ⟨by decide, by decide⟩ _ (lv_sub hl [] rfl) hw
set_option maxRecDepth 100000 in
set_option maxHeartbeats 4000000 in
theorem u_X12_isLength_0 {p : Program} {e : Env} {s : State} {m : MethodId} {args : Array Value} {below : List Frame} {meth : Method} {c : Code} {base : Nat} {D : va_G} {cA : Nat → ClassId} {n : Nat} {l : Launch} {Q : Int → ml_St → Prop} (X : ml_X p s m c meth args D cA cX12_isLength 2 RX12 (some .boolean)) (hn : 256 ≤ n) (σ : ml_St) (x1 : Int) (h_x1 : I32 x1) (ls : Array Slot) (hl : lv_has ls 2 [(0, .ref (base + (215 : Int).toNat)), (1, .int (Int32.ofInt x1))]) (hw : f_X12_isLength_u0 Q σ x1) : ml_V p l e rm_X12_isLength s m args below meth c (MQ below (ml_Qi ml_B base D cA n Q) args s 0 0 (ml_A base)) base D cA 0 0 n n σ (F0 m 0 ls []) := by
  unfold f_X12_isLength_u0 at hw
  refine ml_iload_n (pc := 0) X hl 1 rfl rfl dX12_isLength_0 ?_
  refine ml_i2l (pc := 1) X h_x1 dX12_isLength_1 ?_
  refine ml_lconst1 (pc := 2) X dX12_isLength_2 ?_
  refine ml_ldc2 (pc := 3) (v := 100) X dX12_isLength_3 tc_5_164 ?_
  refine ml_callzS (pc := 6) (rest := []) X [.long (Int64.ofInt x1), .long (Int64.ofInt 1), .long (Int64.ofInt 100)] (c_X12_lies l base D cA n hn σ x1 1 100 (h_x1).l ⟨by decide, by decide⟩ ⟨by decide, by decide⟩ _ hw) cv_X12_143 ⟨rfl, rfl⟩ ⟨by decide, by decide⟩ rfl rfl hl (Nat.le_of_ble_eq_true rfl) ⟨Nat.zero_le _, Nat.zero_le _⟩ dX12_isLength_6 (fun r1 σ1 t1 hw => ?_)
  have hw := hw t1
  refine ml_if_eq (pc := 9) (tgt := 24) X t1.i dX12_isLength_9 (by decide) (fun c2 => ?_) (fun c2 => ?_)
  · have hw := hw.1 c2
    exact u_X12_isLength_24 X hn σ1   _ (lv_sub hl [] rfl) hw
  · have hw := hw.2 c2
    refine ml_iload_n (pc := 12) X hl 1 rfl rfl dX12_isLength_12 ?_
    refine ml_aload_n (pc := 13) X hl 0 rfl rfl dX12_isLength_13 ?_
    refine gf_X12_155 (pc := 14) X (ml_c215 hn) dX12_isLength_14 (fun r3 => ?_)
    have hw := hw r3
    refine ml_icmp_gt (pc := 17) (tgt := 24) X h_x1 r3 dX12_isLength_17 (by decide) (fun c4 => ?_) (fun c4 => ?_)
    · have hw := hw.1 c4
      exact u_X12_isLength_24 X hn σ1   _ (lv_sub hl [] rfl) hw
    · have hw := hw.2 c4
      refine ml_iconst (pc := 20) X dX12_isLength_20 ?_
      refine ml_goto (pc := 21) (tgt := 25) X dX12_isLength_21 (by decide) ?_
      exact u_X12_isLength_25 X hn σ1 1 ⟨by decide, by decide⟩ _ (lv_sub hl [] rfl) hw
set_option maxRecDepth 100000 in
theorem c_X12_isLength (l : Launch) (base : Nat) (D : va_G) (cA : Nat → ClassId) (n : Nat) (hn : 256 ≤ n) (σ : ml_St) (x1 : Int) (h_x1 : I32 x1) (Q : Int → ml_St → Prop) (hw : f_X12_isLength σ x1 Q) : Met l yX12_isLength (Cond.code yX12_isLength cX12_isLength 2 (some .boolean) :: ml_T) rm_X12_isLength (va_Pc [.ref (base + (215 : Int).toNat), .int (Int32.ofInt x1)] (ml_U base D cA n σ)) (ml_Qi ml_B base D cA n Q) 0 0 (ml_A base) := by
  refine Met.ofW (cc := cX12_isLength) (maxL := 2) (ret := (some .boolean)) (by decide) rfl ?_
  intro p e s m args below meth c s₁ B hml hv
  obtain ⟨rfl, hP, hK, hok, hro⟩ := hv
  have X : ml_X p s m c meth _ D cA cX12_isLength 2 RX12 (some .boolean) := ⟨B.exec, B.bytes, hml, findClass_of_methodNamed B.named, fun w hw => atoms_spec (ws := Cond.code yX12_isLength cX12_isLength 2 (some .boolean) :: ml_T) B.pre w (List.mem_cons_of_mem _ hw), hK, B.notSynchronized, B.returns⟩
  have hl := lv_entry [.ref (base + (215 : Int).toNat), .int (Int32.ofInt x1)] (n := 2) (Nat.le_of_ble_eq_true rfl)
  rw [lg_entry_eq]
  generalize (lg_sl [.ref (base + (215 : Int).toNat), .int (Int32.ofInt x1)] ++ List.replicate (2 - (lg_sl [.ref (base + (215 : Int).toNat), .int (Int32.ofInt x1)]).length) Slot.unset).toArray = ls at hl ⊢
  have hl : lv_has ls 2 [(0, .ref (base + (215 : Int).toNat)), (1, .int (Int32.ofInt x1))] := hl
  unfold f_X12_isLength at hw
  exact u_X12_isLength_0 X hn σ x1 h_x1 _ (lv_sub hl [0, 1] rfl) hw s.heap [] hP va_S.rf hok hro
theorem dX12_word_0 : decode cX12_word 0 = .ok (.aload_n 0, 1) := by decide +kernel
theorem dX12_word_1 : decode cX12_word 1 = .ok (.getfield 140, 3) := by decide +kernel
theorem dX12_word_4 : decode cX12_word 4 = .ok (.bipush 16, 2) := by decide +kernel
theorem dX12_word_6 : decode cX12_word 6 = .ok (.if_icmp .eq 11, 3) := by decide +kernel
theorem dX12_word_9 : decode cX12_word 9 = .ok (.aload_n 0, 1) := by decide +kernel
theorem dX12_word_10 : decode cX12_word 10 = .ok (.iload_n 1, 1) := by decide +kernel
theorem dX12_word_11 : decode cX12_word 11 = .ok (.invokevirtual 277, 3) := by decide +kernel
theorem dX12_word_14 : decode cX12_word 14 = .ok (.ifCond .ne 5, 3) := by decide +kernel
theorem dX12_word_17 : decode cX12_word 17 = .ok (.iconst (-1), 1) := by decide +kernel
theorem dX12_word_18 : decode cX12_word 18 = .ok (.ireturn, 1) := by decide +kernel
theorem dX12_word_19 : decode cX12_word 19 = .ok (.aload_n 0, 1) := by decide +kernel
theorem dX12_word_20 : decode cX12_word 20 = .ok (.getfield 24, 3) := by decide +kernel
theorem dX12_word_23 : decode cX12_word 23 = .ok (.aload_n 0, 1) := by decide +kernel
theorem dX12_word_24 : decode cX12_word 24 = .ok (.getfield 140, 3) := by decide +kernel
theorem dX12_word_27 : decode cX12_word 27 = .ok (.iconst 0, 1) := by decide +kernel
theorem dX12_word_28 : decode cX12_word 28 = .ok (.iastore, 1) := by decide +kernel
theorem dX12_word_29 : decode cX12_word 29 = .ok (.aload_n 0, 1) := by decide +kernel
theorem dX12_word_30 : decode cX12_word 30 = .ok (.aload_n 0, 1) := by decide +kernel
theorem dX12_word_31 : decode cX12_word 31 = .ok (.getfield 140, 3) := by decide +kernel
theorem dX12_word_34 : decode cX12_word 34 = .ok (.iload_n 1, 1) := by decide +kernel
theorem dX12_word_35 : decode cX12_word 35 = .ok (.invokevirtual 280, 3) := by decide +kernel
theorem dX12_word_38 : decode cX12_word 38 = .ok (.istore_n 2, 1) := by decide +kernel
theorem dX12_word_39 : decode cX12_word 39 = .ok (.iload_n 2, 1) := by decide +kernel
theorem dX12_word_40 : decode cX12_word 40 = .ok (.ifCond .ge 5, 3) := by decide +kernel
theorem dX12_word_43 : decode cX12_word 43 = .ok (.iload_n 2, 1) := by decide +kernel
theorem dX12_word_44 : decode cX12_word 44 = .ok (.ireturn, 1) := by decide +kernel
theorem dX12_word_45 : decode cX12_word 45 = .ok (.aload_n 0, 1) := by decide +kernel
theorem dX12_word_46 : decode cX12_word 46 = .ok (.dup, 1) := by decide +kernel
theorem dX12_word_47 : decode cX12_word 47 = .ok (.getfield 140, 3) := by decide +kernel
theorem dX12_word_50 : decode cX12_word 50 = .ok (.iconst 1, 1) := by decide +kernel
theorem dX12_word_51 : decode cX12_word 51 = .ok (.iadd, 1) := by decide +kernel
theorem dX12_word_52 : decode cX12_word 52 = .ok (.putfield 140, 3) := by decide +kernel
theorem dX12_word_55 : decode cX12_word 55 = .ok (.aload_n 0, 1) := by decide +kernel
theorem dX12_word_56 : decode cX12_word 56 = .ok (.invokevirtual 284, 3) := by decide +kernel
theorem dX12_word_59 : decode cX12_word 59 = .ok (.aload_n 0, 1) := by decide +kernel
theorem dX12_word_60 : decode cX12_word 60 = .ok (.getfield 140, 3) := by decide +kernel
theorem dX12_word_63 : decode cX12_word 63 = .ok (.iconst 1, 1) := by decide +kernel
theorem dX12_word_64 : decode cX12_word 64 = .ok (.isub, 1) := by decide +kernel
theorem dX12_word_65 : decode cX12_word 65 = .ok (.ireturn, 1) := by decide +kernel
def f_X12_word_u17 (Q : Int → ml_St → Prop) (σ : ml_St) : Prop :=
Q (-1) σ
def f_X12_word_u0 (Q : Int → ml_St → Prop) (σ : ml_St) (x1 : Int) : Prop :=
∀ _ : I32 (σ 215 3),
(((σ 215 3) : Int) = 16 →
f_X12_word_u17 Q σ) ∧
((σ 215 3) ≠ 16 →
f_X12_isLength σ x1 (fun r3 σ3 => ∀ _ : ml_B r3,
(r3 ≠ 0 →
∀ _ : I32 (σ3 215 3),
(0 : Int) ≤ (σ3 215 3) ∧ ((σ3 215 3) : Int) < 16 ∧
∀ σ6, σ6 = ml_up σ3 219 (σ3 215 3) 0 →
∀ _ : I32 (σ6 215 3),
False) ∧
(r3 = 0 →
f_X12_word_u17 Q σ3)))
def f_X12_word (σ : ml_St) (x1 : Int) (Q : Int → ml_St → Prop) : Prop := f_X12_word_u0 Q σ x1
def rm_X12_word : Room := { frames := 2, cells := 0, slots := 0, locals := 46 }
set_option maxRecDepth 100000 in
set_option maxHeartbeats 4000000 in
theorem u_X12_word_17 {p : Program} {e : Env} {s : State} {m : MethodId} {args : Array Value} {below : List Frame} {meth : Method} {c : Code} {base : Nat} {D : va_G} {cA : Nat → ClassId} {n : Nat} {l : Launch} {Q : Int → ml_St → Prop} (X : ml_X p s m c meth args D cA cX12_word 3 RX12 (some .int)) (hn : 256 ≤ n) (σ : ml_St) (ls : Array Slot) (hl : lv_has ls 3 []) (hw : f_X12_word_u17 Q σ) : ml_V p l e rm_X12_word s m args below meth c (MQ below (ml_Qi I32 base D cA n Q) args s 0 0 (ml_A base)) base D cA 0 0 n n σ (F0 m 17 ls []) := by
  unfold f_X12_word_u17 at hw
  refine ml_iconst (pc := 17) X dX12_word_17 ?_
  exact ml_iret (pc := 18) X ⟨by decide, by decide⟩ hw dX12_word_18
set_option maxRecDepth 100000 in
set_option maxHeartbeats 4000000 in
theorem u_X12_word_0 {p : Program} {e : Env} {s : State} {m : MethodId} {args : Array Value} {below : List Frame} {meth : Method} {c : Code} {base : Nat} {D : va_G} {cA : Nat → ClassId} {n : Nat} {l : Launch} {Q : Int → ml_St → Prop} (X : ml_X p s m c meth args D cA cX12_word 3 RX12 (some .int)) (hn : 256 ≤ n) (σ : ml_St) (x1 : Int) (h_x1 : I32 x1) (ls : Array Slot) (hl : lv_has ls 3 [(0, .ref (base + (215 : Int).toNat)), (1, .int (Int32.ofInt x1))]) (hw : f_X12_word_u0 Q σ x1) : ml_V p l e rm_X12_word s m args below meth c (MQ below (ml_Qi I32 base D cA n Q) args s 0 0 (ml_A base)) base D cA 0 0 n n σ (F0 m 0 ls []) := by
  unfold f_X12_word_u0 at hw
  refine ml_aload_n (pc := 0) X hl 0 rfl rfl dX12_word_0 ?_
  refine gf_X12_140 (pc := 1) X (ml_c215 hn) dX12_word_1 (fun r1 => ?_)
  have hw := hw r1
  refine ml_bipush (pc := 4) X dX12_word_4 (by decide) ?_
  refine ml_icmp_eq (pc := 6) (tgt := 17) X r1 ⟨by decide, by decide⟩ dX12_word_6 (by decide) (fun c2 => ?_) (fun c2 => ?_)
  · have hw := hw.1 c2
    exact u_X12_word_17 X hn σ   _ (lv_sub hl [] rfl) hw
  · have hw := hw.2 c2
    refine ml_aload_n (pc := 9) X hl 0 rfl rfl dX12_word_9 ?_
    refine ml_iload_n (pc := 10) X hl 1 rfl rfl dX12_word_10 ?_
    refine ml_callzV (pc := 11) (rest := []) X [.int (Int32.ofInt x1)] (by decide) rfl (ml_c215 hn) (c_X12_isLength l base D cA n hn σ x1 h_x1 _ hw) cv_X12_277 ⟨rfl, rfl⟩ ⟨by decide, by decide⟩ rfl rfl hl (Nat.le_of_ble_eq_true rfl) ⟨Nat.zero_le _, Nat.zero_le _⟩ dX12_word_11 (fun r3 σ3 t3 hw => ?_)
    have hw := hw t3
    refine ml_if_ne (pc := 14) (tgt := 19) X t3.i dX12_word_14 (by decide) (fun c4 => ?_) (fun c4 => ?_)
    · have hw := hw.1 c4
      refine ml_aload_n (pc := 19) X hl 0 rfl rfl dX12_word_19 ?_
      refine gf_X12_24 (pc := 20) X (ml_c215 hn) dX12_word_20 ?_
      refine ml_aload_n (pc := 23) X hl 0 rfl rfl dX12_word_23 ?_
      refine gf_X12_140 (pc := 24) X (ml_c215 hn) dX12_word_24 (fun r5 => ?_)
      have hw := hw r5
      refine ml_iconst (pc := 27) X dX12_word_27 ?_
      obtain ⟨a6, b6, hw⟩ := hw
      refine ml_iast (pc := 28) (N := 16) X (ml_c219 hn) a6 b6 ⟨by decide, by decide⟩ dX12_word_28 (fun σ6 g6 => ?_)
      have hw := hw σ6 g6
      refine ml_aload_n (pc := 29) X hl 0 rfl rfl dX12_word_29 ?_
      refine ml_aload_n (pc := 30) X hl 0 rfl rfl dX12_word_30 ?_
      refine gf_X12_140 (pc := 31) X (ml_c215 hn) dX12_word_31 (fun r7 => ?_)
      have hw := hw r7
      refine ml_iload_n (pc := 34) X hl 1 rfl rfl dX12_word_34 ?_
      exact hw.elim
    · have hw := hw.2 c4
      exact u_X12_word_17 X hn σ3   _ (lv_sub hl [] rfl) hw
set_option maxRecDepth 100000 in
theorem c_X12_word (l : Launch) (base : Nat) (D : va_G) (cA : Nat → ClassId) (n : Nat) (hn : 256 ≤ n) (σ : ml_St) (x1 : Int) (h_x1 : I32 x1) (Q : Int → ml_St → Prop) (hw : f_X12_word σ x1 Q) : Met l yX12_word (Cond.code yX12_word cX12_word 3 (some .int) :: ml_T) rm_X12_word (va_Pc [.ref (base + (215 : Int).toNat), .int (Int32.ofInt x1)] (ml_U base D cA n σ)) (ml_Qi I32 base D cA n Q) 0 0 (ml_A base) := by
  refine Met.ofW (cc := cX12_word) (maxL := 3) (ret := (some .int)) (by decide) rfl ?_
  intro p e s m args below meth c s₁ B hml hv
  obtain ⟨rfl, hP, hK, hok, hro⟩ := hv
  have X : ml_X p s m c meth _ D cA cX12_word 3 RX12 (some .int) := ⟨B.exec, B.bytes, hml, findClass_of_methodNamed B.named, fun w hw => atoms_spec (ws := Cond.code yX12_word cX12_word 3 (some .int) :: ml_T) B.pre w (List.mem_cons_of_mem _ hw), hK, B.notSynchronized, B.returns⟩
  have hl := lv_entry [.ref (base + (215 : Int).toNat), .int (Int32.ofInt x1)] (n := 3) (Nat.le_of_ble_eq_true rfl)
  rw [lg_entry_eq]
  generalize (lg_sl [.ref (base + (215 : Int).toNat), .int (Int32.ofInt x1)] ++ List.replicate (3 - (lg_sl [.ref (base + (215 : Int).toNat), .int (Int32.ofInt x1)]).length) Slot.unset).toArray = ls at hl ⊢
  have hl : lv_has ls 3 [(0, .ref (base + (215 : Int).toNat)), (1, .int (Int32.ofInt x1))] := hl
  unfold f_X12_word at hw
  exact u_X12_word_0 X hn σ x1 h_x1 _ (lv_sub hl [0, 1] rfl) hw s.heap [] hP va_S.rf hok hro
theorem dX12_isWord_0 : decode cX12_isWord 0 = .ok (.iload_n 1, 1) := by decide +kernel
theorem dX12_isWord_1 : decode cX12_isWord 1 = .ok (.i2l, 1) := by decide +kernel
theorem dX12_isWord_2 : decode cX12_isWord 2 = .ok (.lconst 0, 1) := by decide +kernel
theorem dX12_isWord_3 : decode cX12_isWord 3 = .ok (.aload_n 0, 1) := by decide +kernel
theorem dX12_isWord_4 : decode cX12_isWord 4 = .ok (.getfield 140, 3) := by decide +kernel
theorem dX12_isWord_7 : decode cX12_isWord 7 = .ok (.iconst 1, 1) := by decide +kernel
theorem dX12_isWord_8 : decode cX12_isWord 8 = .ok (.isub, 1) := by decide +kernel
theorem dX12_isWord_9 : decode cX12_isWord 9 = .ok (.i2l, 1) := by decide +kernel
theorem dX12_isWord_10 : decode cX12_isWord 10 = .ok (.invokestatic 143, 3) := by decide +kernel
theorem dX12_isWord_13 : decode cX12_isWord 13 = .ok (.ireturn, 1) := by decide +kernel
def f_X12_isWord_u0 (Q : Int → ml_St → Prop) (σ : ml_St) (x1 : Int) : Prop :=
∀ _ : I32 (σ 215 3),
I32 ((σ 215 3) - 1) ∧
f_X12_lies σ x1 0 ((σ 215 3) - 1) (fun r3 σ3 => ∀ _ : ml_B r3,
Q r3 σ3)
def f_X12_isWord (σ : ml_St) (x1 : Int) (Q : Int → ml_St → Prop) : Prop := f_X12_isWord_u0 Q σ x1
def rm_X12_isWord : Room := { frames := 1, cells := 0, slots := 0, locals := 25 }
set_option maxRecDepth 100000 in
set_option maxHeartbeats 4000000 in
theorem u_X12_isWord_0 {p : Program} {e : Env} {s : State} {m : MethodId} {args : Array Value} {below : List Frame} {meth : Method} {c : Code} {base : Nat} {D : va_G} {cA : Nat → ClassId} {n : Nat} {l : Launch} {Q : Int → ml_St → Prop} (X : ml_X p s m c meth args D cA cX12_isWord 2 RX12 (some .boolean)) (hn : 256 ≤ n) (σ : ml_St) (x1 : Int) (h_x1 : I32 x1) (ls : Array Slot) (hl : lv_has ls 2 [(0, .ref (base + (215 : Int).toNat)), (1, .int (Int32.ofInt x1))]) (hw : f_X12_isWord_u0 Q σ x1) : ml_V p l e rm_X12_isWord s m args below meth c (MQ below (ml_Qi ml_B base D cA n Q) args s 0 0 (ml_A base)) base D cA 0 0 n n σ (F0 m 0 ls []) := by
  unfold f_X12_isWord_u0 at hw
  refine ml_iload_n (pc := 0) X hl 1 rfl rfl dX12_isWord_0 ?_
  refine ml_i2l (pc := 1) X h_x1 dX12_isWord_1 ?_
  refine ml_lconst0 (pc := 2) X dX12_isWord_2 ?_
  refine ml_aload_n (pc := 3) X hl 0 rfl rfl dX12_isWord_3 ?_
  refine gf_X12_140 (pc := 4) X (ml_c215 hn) dX12_isWord_4 (fun r1 => ?_)
  have hw := hw r1
  refine ml_iconst (pc := 7) X dX12_isWord_7 ?_
  obtain ⟨v2, hw⟩ := hw
  refine ml_isub (pc := 8) X dX12_isWord_8 ?_
  refine ml_i2l (pc := 9) X v2 dX12_isWord_9 ?_
  refine ml_callzS (pc := 10) (rest := []) X [.long (Int64.ofInt x1), .long (Int64.ofInt 0), .long (Int64.ofInt ((σ 215 3) - 1))] (c_X12_lies l base D cA n hn σ x1 0 ((σ 215 3) - 1) (h_x1).l ⟨by decide, by decide⟩ (v2).l _ hw) cv_X12_143 ⟨rfl, rfl⟩ ⟨by decide, by decide⟩ rfl rfl hl (Nat.le_of_ble_eq_true rfl) ⟨Nat.zero_le _, Nat.zero_le _⟩ dX12_isWord_10 (fun r3 σ3 t3 hw => ?_)
  have hw := hw t3
  exact ml_zret (pc := 13) X t3 hw dX12_isWord_13
set_option maxRecDepth 100000 in
theorem c_X12_isWord (l : Launch) (base : Nat) (D : va_G) (cA : Nat → ClassId) (n : Nat) (hn : 256 ≤ n) (σ : ml_St) (x1 : Int) (h_x1 : I32 x1) (Q : Int → ml_St → Prop) (hw : f_X12_isWord σ x1 Q) : Met l yX12_isWord (Cond.code yX12_isWord cX12_isWord 2 (some .boolean) :: ml_T) rm_X12_isWord (va_Pc [.ref (base + (215 : Int).toNat), .int (Int32.ofInt x1)] (ml_U base D cA n σ)) (ml_Qi ml_B base D cA n Q) 0 0 (ml_A base) := by
  refine Met.ofW (cc := cX12_isWord) (maxL := 2) (ret := (some .boolean)) (by decide) rfl ?_
  intro p e s m args below meth c s₁ B hml hv
  obtain ⟨rfl, hP, hK, hok, hro⟩ := hv
  have X : ml_X p s m c meth _ D cA cX12_isWord 2 RX12 (some .boolean) := ⟨B.exec, B.bytes, hml, findClass_of_methodNamed B.named, fun w hw => atoms_spec (ws := Cond.code yX12_isWord cX12_isWord 2 (some .boolean) :: ml_T) B.pre w (List.mem_cons_of_mem _ hw), hK, B.notSynchronized, B.returns⟩
  have hl := lv_entry [.ref (base + (215 : Int).toNat), .int (Int32.ofInt x1)] (n := 2) (Nat.le_of_ble_eq_true rfl)
  rw [lg_entry_eq]
  generalize (lg_sl [.ref (base + (215 : Int).toNat), .int (Int32.ofInt x1)] ++ List.replicate (2 - (lg_sl [.ref (base + (215 : Int).toNat), .int (Int32.ofInt x1)]).length) Slot.unset).toArray = ls at hl ⊢
  have hl : lv_has ls 2 [(0, .ref (base + (215 : Int).toNat)), (1, .int (Int32.ofInt x1))] := hl
  unfold f_X12_isWord at hw
  exact u_X12_isWord_0 X hn σ x1 h_x1 _ (lv_sub hl [0, 1] rfl) hw s.heap [] hP va_S.rf hok hro
theorem dX12_change_0 : decode cX12_change 0 = .ok (.aload_n 0, 1) := by decide +kernel
theorem dX12_change_1 : decode cX12_change 1 = .ok (.iload_n 1, 1) := by decide +kernel
theorem dX12_change_2 : decode cX12_change 2 = .ok (.invokevirtual 287, 3) := by decide +kernel
theorem dX12_change_5 : decode cX12_change 5 = .ok (.ifCond .eq 11, 3) := by decide +kernel
theorem dX12_change_8 : decode cX12_change 8 = .ok (.aload_n 0, 1) := by decide +kernel
theorem dX12_change_9 : decode cX12_change 9 = .ok (.iload_n 2, 1) := by decide +kernel
theorem dX12_change_10 : decode cX12_change 10 = .ok (.invokevirtual 277, 3) := by decide +kernel
theorem dX12_change_13 : decode cX12_change 13 = .ok (.ifCond .ne 5, 3) := by decide +kernel
theorem dX12_change_16 : decode cX12_change 16 = .ok (.iconst (-1), 1) := by decide +kernel
theorem dX12_change_17 : decode cX12_change 17 = .ok (.ireturn, 1) := by decide +kernel
theorem dX12_change_18 : decode cX12_change 18 = .ok (.aload_n 0, 1) := by decide +kernel
theorem dX12_change_19 : decode cX12_change 19 = .ok (.iload_n 1, 1) := by decide +kernel
theorem dX12_change_20 : decode cX12_change 20 = .ok (.iload_n 2, 1) := by decide +kernel
theorem dX12_change_21 : decode cX12_change 21 = .ok (.invokevirtual 280, 3) := by decide +kernel
theorem dX12_change_24 : decode cX12_change 24 = .ok (.istore_n 3, 1) := by decide +kernel
theorem dX12_change_25 : decode cX12_change 25 = .ok (.iload_n 3, 1) := by decide +kernel
theorem dX12_change_26 : decode cX12_change 26 = .ok (.ifCond .ge 5, 3) := by decide +kernel
theorem dX12_change_29 : decode cX12_change 29 = .ok (.iload_n 3, 1) := by decide +kernel
theorem dX12_change_30 : decode cX12_change 30 = .ok (.ireturn, 1) := by decide +kernel
theorem dX12_change_31 : decode cX12_change 31 = .ok (.aload_n 0, 1) := by decide +kernel
theorem dX12_change_32 : decode cX12_change 32 = .ok (.invokevirtual 284, 3) := by decide +kernel
theorem dX12_change_35 : decode cX12_change 35 = .ok (.iload_n 1, 1) := by decide +kernel
theorem dX12_change_36 : decode cX12_change 36 = .ok (.ireturn, 1) := by decide +kernel
def f_X12_change_u16 (Q : Int → ml_St → Prop) (σ : ml_St) : Prop :=
Q (-1) σ
def f_X12_change_u0 (Q : Int → ml_St → Prop) (σ : ml_St) (x1 : Int) (x2 : Int) : Prop :=
f_X12_isWord σ x1 (fun r1 σ1 => ∀ _ : ml_B r1,
(r1 = 0 →
f_X12_change_u16 Q σ1) ∧
(r1 ≠ 0 →
f_X12_isLength σ1 x2 (fun r3 σ3 => ∀ _ : ml_B r3,
(r3 ≠ 0 →
False) ∧
(r3 = 0 →
f_X12_change_u16 Q σ3))))
def f_X12_change (σ : ml_St) (x1 : Int) (x2 : Int) (Q : Int → ml_St → Prop) : Prop := f_X12_change_u0 Q σ x1 x2
def rm_X12_change : Room := { frames := 2, cells := 0, slots := 0, locals := 46 }
set_option maxRecDepth 100000 in
set_option maxHeartbeats 4000000 in
theorem u_X12_change_16 {p : Program} {e : Env} {s : State} {m : MethodId} {args : Array Value} {below : List Frame} {meth : Method} {c : Code} {base : Nat} {D : va_G} {cA : Nat → ClassId} {n : Nat} {l : Launch} {Q : Int → ml_St → Prop} (X : ml_X p s m c meth args D cA cX12_change 4 RX12 (some .int)) (hn : 256 ≤ n) (σ : ml_St) (ls : Array Slot) (hl : lv_has ls 4 []) (hw : f_X12_change_u16 Q σ) : ml_V p l e rm_X12_change s m args below meth c (MQ below (ml_Qi I32 base D cA n Q) args s 0 0 (ml_A base)) base D cA 0 0 n n σ (F0 m 16 ls []) := by
  unfold f_X12_change_u16 at hw
  refine ml_iconst (pc := 16) X dX12_change_16 ?_
  exact ml_iret (pc := 17) X ⟨by decide, by decide⟩ hw dX12_change_17
set_option maxRecDepth 100000 in
set_option maxHeartbeats 4000000 in
theorem u_X12_change_0 {p : Program} {e : Env} {s : State} {m : MethodId} {args : Array Value} {below : List Frame} {meth : Method} {c : Code} {base : Nat} {D : va_G} {cA : Nat → ClassId} {n : Nat} {l : Launch} {Q : Int → ml_St → Prop} (X : ml_X p s m c meth args D cA cX12_change 4 RX12 (some .int)) (hn : 256 ≤ n) (σ : ml_St) (x1 : Int) (x2 : Int) (h_x1 : I32 x1) (h_x2 : I32 x2) (ls : Array Slot) (hl : lv_has ls 4 [(0, .ref (base + (215 : Int).toNat)), (1, .int (Int32.ofInt x1)), (2, .int (Int32.ofInt x2))]) (hw : f_X12_change_u0 Q σ x1 x2) : ml_V p l e rm_X12_change s m args below meth c (MQ below (ml_Qi I32 base D cA n Q) args s 0 0 (ml_A base)) base D cA 0 0 n n σ (F0 m 0 ls []) := by
  unfold f_X12_change_u0 at hw
  refine ml_aload_n (pc := 0) X hl 0 rfl rfl dX12_change_0 ?_
  refine ml_iload_n (pc := 1) X hl 1 rfl rfl dX12_change_1 ?_
  refine ml_callzV (pc := 2) (rest := []) X [.int (Int32.ofInt x1)] (by decide) rfl (ml_c215 hn) (c_X12_isWord l base D cA n hn σ x1 h_x1 _ hw) cv_X12_287 ⟨rfl, rfl⟩ ⟨by decide, by decide⟩ rfl rfl hl (Nat.le_of_ble_eq_true rfl) ⟨Nat.zero_le _, Nat.zero_le _⟩ dX12_change_2 (fun r1 σ1 t1 hw => ?_)
  have hw := hw t1
  refine ml_if_eq (pc := 5) (tgt := 16) X t1.i dX12_change_5 (by decide) (fun c2 => ?_) (fun c2 => ?_)
  · have hw := hw.1 c2
    exact u_X12_change_16 X hn σ1   _ (lv_sub hl [] rfl) hw
  · have hw := hw.2 c2
    refine ml_aload_n (pc := 8) X hl 0 rfl rfl dX12_change_8 ?_
    refine ml_iload_n (pc := 9) X hl 2 rfl rfl dX12_change_9 ?_
    refine ml_callzV (pc := 10) (rest := []) X [.int (Int32.ofInt x2)] (by decide) rfl (ml_c215 hn) (c_X12_isLength l base D cA n hn σ1 x2 h_x2 _ hw) cv_X12_277 ⟨rfl, rfl⟩ ⟨by decide, by decide⟩ rfl rfl hl (Nat.le_of_ble_eq_true rfl) ⟨Nat.zero_le _, Nat.zero_le _⟩ dX12_change_10 (fun r3 σ3 t3 hw => ?_)
    have hw := hw t3
    refine ml_if_ne (pc := 13) (tgt := 18) X t3.i dX12_change_13 (by decide) (fun c4 => ?_) (fun c4 => ?_)
    · have hw := hw.1 c4
      refine ml_aload_n (pc := 18) X hl 0 rfl rfl dX12_change_18 ?_
      refine ml_iload_n (pc := 19) X hl 1 rfl rfl dX12_change_19 ?_
      refine ml_iload_n (pc := 20) X hl 2 rfl rfl dX12_change_20 ?_
      exact hw.elim
    · have hw := hw.2 c4
      exact u_X12_change_16 X hn σ3   _ (lv_sub hl [] rfl) hw
set_option maxRecDepth 100000 in
theorem c_X12_change (l : Launch) (base : Nat) (D : va_G) (cA : Nat → ClassId) (n : Nat) (hn : 256 ≤ n) (σ : ml_St) (x1 : Int) (x2 : Int) (h_x1 : I32 x1) (h_x2 : I32 x2) (Q : Int → ml_St → Prop) (hw : f_X12_change σ x1 x2 Q) : Met l yX12_change (Cond.code yX12_change cX12_change 4 (some .int) :: ml_T) rm_X12_change (va_Pc [.ref (base + (215 : Int).toNat), .int (Int32.ofInt x1), .int (Int32.ofInt x2)] (ml_U base D cA n σ)) (ml_Qi I32 base D cA n Q) 0 0 (ml_A base) := by
  refine Met.ofW (cc := cX12_change) (maxL := 4) (ret := (some .int)) (by decide) rfl ?_
  intro p e s m args below meth c s₁ B hml hv
  obtain ⟨rfl, hP, hK, hok, hro⟩ := hv
  have X : ml_X p s m c meth _ D cA cX12_change 4 RX12 (some .int) := ⟨B.exec, B.bytes, hml, findClass_of_methodNamed B.named, fun w hw => atoms_spec (ws := Cond.code yX12_change cX12_change 4 (some .int) :: ml_T) B.pre w (List.mem_cons_of_mem _ hw), hK, B.notSynchronized, B.returns⟩
  have hl := lv_entry [.ref (base + (215 : Int).toNat), .int (Int32.ofInt x1), .int (Int32.ofInt x2)] (n := 4) (Nat.le_of_ble_eq_true rfl)
  rw [lg_entry_eq]
  generalize (lg_sl [.ref (base + (215 : Int).toNat), .int (Int32.ofInt x1), .int (Int32.ofInt x2)] ++ List.replicate (4 - (lg_sl [.ref (base + (215 : Int).toNat), .int (Int32.ofInt x1), .int (Int32.ofInt x2)]).length) Slot.unset).toArray = ls at hl ⊢
  have hl : lv_has ls 4 [(0, .ref (base + (215 : Int).toNat)), (1, .int (Int32.ofInt x1)), (2, .int (Int32.ofInt x2))] := hl
  unfold f_X12_change at hw
  exact u_X12_change_0 X hn σ x1 x2 h_x1 h_x2 _ (lv_sub hl [0, 1, 2] rfl) hw s.heap [] hP va_S.rf hok hro
theorem dX12_round_0 : decode cX12_round 0 = .ok (.aload_n 0, 1) := by decide +kernel
theorem dX12_round_1 : decode cX12_round 1 = .ok (.iconst 0, 1) := by decide +kernel
theorem dX12_round_2 : decode cX12_round 2 = .ok (.putfield 151, 3) := by decide +kernel
theorem dX12_round_5 : decode cX12_round 5 = .ok (.iconst 1, 1) := by decide +kernel
theorem dX12_round_6 : decode cX12_round 6 = .ok (.ireturn, 1) := by decide +kernel
def f_X12_round_u0 (Q : Int → ml_St → Prop) (σ : ml_St) : Prop :=
∀ σ1, σ1 = ml_up σ 215 4 0 →
Q 1 σ1
def f_X12_round (σ : ml_St) (Q : Int → ml_St → Prop) : Prop := f_X12_round_u0 Q σ
def rm_X12_round : Room := { frames := 0, cells := 0, slots := 0, locals := 0 }
set_option maxRecDepth 100000 in
set_option maxHeartbeats 4000000 in
theorem u_X12_round_0 {p : Program} {e : Env} {s : State} {m : MethodId} {args : Array Value} {below : List Frame} {meth : Method} {c : Code} {base : Nat} {D : va_G} {cA : Nat → ClassId} {n : Nat} {l : Launch} {Q : Int → ml_St → Prop} (X : ml_X p s m c meth args D cA cX12_round 1 RX12 (some .boolean)) (hn : 256 ≤ n) (σ : ml_St) (ls : Array Slot) (hl : lv_has ls 1 [(0, .ref (base + (215 : Int).toNat))]) (hw : f_X12_round_u0 Q σ) : ml_V p l e rm_X12_round s m args below meth c (MQ below (ml_Qi ml_B base D cA n Q) args s 0 0 (ml_A base)) base D cA 0 0 n n σ (F0 m 0 ls []) := by
  unfold f_X12_round_u0 at hw
  refine ml_aload_n (pc := 0) X hl 0 rfl rfl dX12_round_0 ?_
  refine ml_iconst (pc := 1) X dX12_round_1 ?_
  refine pf_X12_151 (pc := 2) X (ml_c215 hn) ⟨by decide, by decide⟩ dX12_round_2 (fun σ1 g1 => ?_)
  have hw := hw σ1 g1
  refine ml_iconst (pc := 5) X dX12_round_5 ?_
  exact ml_zret (pc := 6) X ⟨by decide, by decide⟩ hw dX12_round_6
set_option maxRecDepth 100000 in
theorem c_X12_round (l : Launch) (base : Nat) (D : va_G) (cA : Nat → ClassId) (n : Nat) (hn : 256 ≤ n) (σ : ml_St) (Q : Int → ml_St → Prop) (hw : f_X12_round σ Q) : Met l yX12_round (Cond.code yX12_round cX12_round 1 (some .boolean) :: ml_T) rm_X12_round (va_Pc [.ref (base + (215 : Int).toNat)] (ml_U base D cA n σ)) (ml_Qi ml_B base D cA n Q) 0 0 (ml_A base) := by
  refine Met.ofW (cc := cX12_round) (maxL := 1) (ret := (some .boolean)) (by decide) rfl ?_
  intro p e s m args below meth c s₁ B hml hv
  obtain ⟨rfl, hP, hK, hok, hro⟩ := hv
  have X : ml_X p s m c meth _ D cA cX12_round 1 RX12 (some .boolean) := ⟨B.exec, B.bytes, hml, findClass_of_methodNamed B.named, fun w hw => atoms_spec (ws := Cond.code yX12_round cX12_round 1 (some .boolean) :: ml_T) B.pre w (List.mem_cons_of_mem _ hw), hK, B.notSynchronized, B.returns⟩
  have hl := lv_entry [.ref (base + (215 : Int).toNat)] (n := 1) (Nat.le_of_ble_eq_true rfl)
  rw [lg_entry_eq]
  generalize (lg_sl [.ref (base + (215 : Int).toNat)] ++ List.replicate (1 - (lg_sl [.ref (base + (215 : Int).toNat)]).length) Slot.unset).toArray = ls at hl ⊢
  have hl : lv_has ls 1 [(0, .ref (base + (215 : Int).toNat))] := hl
  unfold f_X12_round at hw
  exact u_X12_round_0 X hn σ  _ (lv_sub hl [0] rfl) hw s.heap [] hP va_S.rf hok hro
theorem dX12_caps_0 : decode cX12_caps 0 = .ok (.aload_n 0, 1) := by decide +kernel
theorem dX12_caps_1 : decode cX12_caps 1 = .ok (.getfield 13, 3) := by decide +kernel
theorem dX12_caps_4 : decode cX12_caps 4 = .ok (.iconst 2, 1) := by decide +kernel
theorem dX12_caps_5 : decode cX12_caps 5 = .ok (.irem, 1) := by decide +kernel
theorem dX12_caps_6 : decode cX12_caps 6 = .ok (.iconst 1, 1) := by decide +kernel
theorem dX12_caps_7 : decode cX12_caps 7 = .ok (.if_icmp .eq 16, 3) := by decide +kernel
theorem dX12_caps_10 : decode cX12_caps 10 = .ok (.aload_n 0, 1) := by decide +kernel
theorem dX12_caps_11 : decode cX12_caps 11 = .ok (.getfield 155, 3) := by decide +kernel
theorem dX12_caps_14 : decode cX12_caps 14 = .ok (.iconst 2, 1) := by decide +kernel
theorem dX12_caps_15 : decode cX12_caps 15 = .ok (.aload_n 0, 1) := by decide +kernel
theorem dX12_caps_16 : decode cX12_caps 16 = .ok (.getfield 13, 3) := by decide +kernel
theorem dX12_caps_19 : decode cX12_caps 19 = .ok (.imul, 1) := by decide +kernel
theorem dX12_caps_20 : decode cX12_caps 20 = .ok (.if_icmp .ge 5, 3) := by decide +kernel
theorem dX12_caps_23 : decode cX12_caps 23 = .ok (.iconst 0, 1) := by decide +kernel
theorem dX12_caps_24 : decode cX12_caps 24 = .ok (.ireturn, 1) := by decide +kernel
theorem dX12_caps_25 : decode cX12_caps 25 = .ok (.aload_n 0, 1) := by decide +kernel
theorem dX12_caps_26 : decode cX12_caps 26 = .ok (.iconst 0, 1) := by decide +kernel
theorem dX12_caps_27 : decode cX12_caps 27 = .ok (.putfield 155, 3) := by decide +kernel
theorem dX12_caps_30 : decode cX12_caps 30 = .ok (.iconst 0, 1) := by decide +kernel
theorem dX12_caps_31 : decode cX12_caps 31 = .ok (.istore_n 1, 1) := by decide +kernel
theorem dX12_caps_32 : decode cX12_caps 32 = .ok (.iload_n 1, 1) := by decide +kernel
theorem dX12_caps_33 : decode cX12_caps 33 = .ok (.iconst 2, 1) := by decide +kernel
theorem dX12_caps_34 : decode cX12_caps 34 = .ok (.aload_n 0, 1) := by decide +kernel
theorem dX12_caps_35 : decode cX12_caps 35 = .ok (.getfield 13, 3) := by decide +kernel
theorem dX12_caps_38 : decode cX12_caps 38 = .ok (.imul, 1) := by decide +kernel
theorem dX12_caps_39 : decode cX12_caps 39 = .ok (.if_icmp .ge 80, 3) := by decide +kernel
theorem dX12_caps_42 : decode cX12_caps 42 = .ok (.aload_n 0, 1) := by decide +kernel
theorem dX12_caps_43 : decode cX12_caps 43 = .ok (.getfield 7, 3) := by decide +kernel
theorem dX12_caps_46 : decode cX12_caps 46 = .ok (.iload_n 1, 1) := by decide +kernel
theorem dX12_caps_47 : decode cX12_caps 47 = .ok (.baload, 1) := by decide +kernel
theorem dX12_caps_48 : decode cX12_caps 48 = .ok (.sipush 255, 3) := by decide +kernel
theorem dX12_caps_51 : decode cX12_caps 51 = .ok (.iand, 1) := by decide +kernel
theorem dX12_caps_52 : decode cX12_caps 52 = .ok (.istore_n 2, 1) := by decide +kernel
theorem dX12_caps_53 : decode cX12_caps 53 = .ok (.iload_n 2, 1) := by decide +kernel
theorem dX12_caps_54 : decode cX12_caps 54 = .ok (.iconst 2, 1) := by decide +kernel
theorem dX12_caps_55 : decode cX12_caps 55 = .ok (.aload_n 0, 1) := by decide +kernel
theorem dX12_caps_56 : decode cX12_caps 56 = .ok (.getfield 13, 3) := by decide +kernel
theorem dX12_caps_59 : decode cX12_caps 59 = .ok (.imul, 1) := by decide +kernel
theorem dX12_caps_60 : decode cX12_caps 60 = .ok (.if_icmp .ge 51, 3) := by decide +kernel
theorem dX12_caps_63 : decode cX12_caps 63 = .ok (.iload_n 2, 1) := by decide +kernel
theorem dX12_caps_64 : decode cX12_caps 64 = .ok (.iload_n 1, 1) := by decide +kernel
theorem dX12_caps_65 : decode cX12_caps 65 = .ok (.if_icmp .eq 46, 3) := by decide +kernel
theorem dX12_caps_68 : decode cX12_caps 68 = .ok (.iload_n 2, 1) := by decide +kernel
theorem dX12_caps_69 : decode cX12_caps 69 = .ok (.aload_n 0, 1) := by decide +kernel
theorem dX12_caps_70 : decode cX12_caps 70 = .ok (.getfield 13, 3) := by decide +kernel
theorem dX12_caps_73 : decode cX12_caps 73 = .ok (.if_icmp .ge 7, 3) := by decide +kernel
theorem dX12_caps_76 : decode cX12_caps 76 = .ok (.iconst 1, 1) := by decide +kernel
theorem dX12_caps_77 : decode cX12_caps 77 = .ok (.goto 4, 3) := by decide +kernel
theorem dX12_caps_80 : decode cX12_caps 80 = .ok (.iconst 0, 1) := by decide +kernel
theorem dX12_caps_81 : decode cX12_caps 81 = .ok (.iload_n 1, 1) := by decide +kernel
theorem dX12_caps_82 : decode cX12_caps 82 = .ok (.aload_n 0, 1) := by decide +kernel
theorem dX12_caps_83 : decode cX12_caps 83 = .ok (.getfield 13, 3) := by decide +kernel
theorem dX12_caps_86 : decode cX12_caps 86 = .ok (.if_icmp .ge 7, 3) := by decide +kernel
theorem dX12_caps_89 : decode cX12_caps 89 = .ok (.iconst 1, 1) := by decide +kernel
theorem dX12_caps_90 : decode cX12_caps 90 = .ok (.goto 4, 3) := by decide +kernel
theorem dX12_caps_93 : decode cX12_caps 93 = .ok (.iconst 0, 1) := by decide +kernel
theorem dX12_caps_94 : decode cX12_caps 94 = .ok (.if_icmp .ne 17, 3) := by decide +kernel
theorem dX12_caps_97 : decode cX12_caps 97 = .ok (.aload_n 0, 1) := by decide +kernel
theorem dX12_caps_98 : decode cX12_caps 98 = .ok (.getfield 7, 3) := by decide +kernel
theorem dX12_caps_101 : decode cX12_caps 101 = .ok (.iload_n 2, 1) := by decide +kernel
theorem dX12_caps_102 : decode cX12_caps 102 = .ok (.baload, 1) := by decide +kernel
theorem dX12_caps_103 : decode cX12_caps 103 = .ok (.sipush 255, 3) := by decide +kernel
theorem dX12_caps_106 : decode cX12_caps 106 = .ok (.iand, 1) := by decide +kernel
theorem dX12_caps_107 : decode cX12_caps 107 = .ok (.iload_n 1, 1) := by decide +kernel
theorem dX12_caps_108 : decode cX12_caps 108 = .ok (.if_icmp .eq 5, 3) := by decide +kernel
theorem dX12_caps_111 : decode cX12_caps 111 = .ok (.iconst 0, 1) := by decide +kernel
theorem dX12_caps_112 : decode cX12_caps 112 = .ok (.ireturn, 1) := by decide +kernel
theorem dX12_caps_113 : decode cX12_caps 113 = .ok (.iinc 1 1, 3) := by decide +kernel
theorem dX12_caps_116 : decode cX12_caps 116 = .ok (.goto (-84), 3) := by decide +kernel
theorem dX12_caps_119 : decode cX12_caps 119 = .ok (.iconst 0, 1) := by decide +kernel
theorem dX12_caps_120 : decode cX12_caps 120 = .ok (.istore_n 1, 1) := by decide +kernel
theorem dX12_caps_121 : decode cX12_caps 121 = .ok (.iload_n 1, 1) := by decide +kernel
theorem dX12_caps_122 : decode cX12_caps 122 = .ok (.iconst 2, 1) := by decide +kernel
theorem dX12_caps_123 : decode cX12_caps 123 = .ok (.aload_n 0, 1) := by decide +kernel
theorem dX12_caps_124 : decode cX12_caps 124 = .ok (.getfield 13, 3) := by decide +kernel
theorem dX12_caps_127 : decode cX12_caps 127 = .ok (.imul, 1) := by decide +kernel
theorem dX12_caps_128 : decode cX12_caps 128 = .ok (.if_icmp .ge 21, 3) := by decide +kernel
theorem dX12_caps_131 : decode cX12_caps 131 = .ok (.aload_n 0, 1) := by decide +kernel
theorem dX12_caps_132 : decode cX12_caps 132 = .ok (.getfield 17, 3) := by decide +kernel
theorem dX12_caps_135 : decode cX12_caps 135 = .ok (.iload_n 1, 1) := by decide +kernel
theorem dX12_caps_136 : decode cX12_caps 136 = .ok (.aload_n 0, 1) := by decide +kernel
theorem dX12_caps_137 : decode cX12_caps 137 = .ok (.getfield 7, 3) := by decide +kernel
theorem dX12_caps_140 : decode cX12_caps 140 = .ok (.iload_n 1, 1) := by decide +kernel
theorem dX12_caps_141 : decode cX12_caps 141 = .ok (.baload, 1) := by decide +kernel
theorem dX12_caps_142 : decode cX12_caps 142 = .ok (.iastore, 1) := by decide +kernel
theorem dX12_caps_143 : decode cX12_caps 143 = .ok (.iinc 1 1, 3) := by decide +kernel
theorem dX12_caps_146 : decode cX12_caps 146 = .ok (.goto (-25), 3) := by decide +kernel
theorem dX12_caps_149 : decode cX12_caps 149 = .ok (.aload_n 0, 1) := by decide +kernel
theorem dX12_caps_150 : decode cX12_caps 150 = .ok (.iconst 1, 1) := by decide +kernel
theorem dX12_caps_151 : decode cX12_caps 151 = .ok (.putfield 151, 3) := by decide +kernel
theorem dX12_caps_154 : decode cX12_caps 154 = .ok (.iconst 1, 1) := by decide +kernel
theorem dX12_caps_155 : decode cX12_caps 155 = .ok (.ireturn, 1) := by decide +kernel
def f_X12_caps_u23 (Q : Int → ml_St → Prop) (σ : ml_St) : Prop :=
Q 0 σ
def f_X12_caps_u94 (Q : Int → ml_St → Prop) (K32 : ml_St → Int → Prop) (K111 : ml_St → Prop) (σ : ml_St) (x1 : Int) (x2 : Int) (s0 : Int) (s1 : Int) : Prop :=
(s0 ≠ s1 →
K111 σ) ∧
(s0 = s1 →
(0 : Int) ≤ x2 ∧ (x2 : Int) < 200 ∧
∀ _ : ml_I8 (σ 216 x2),
((b_and (σ 216 x2) 255) = x1 →
I32 (x1 + 1) ∧
∀ y4 : Int, y4 = x1 + 1 →
K32 σ y4) ∧
((b_and (σ 216 x2) 255) ≠ x1 →
K111 σ))
def f_X12_caps_u81 (Q : Int → ml_St → Prop) (K32 : ml_St → Int → Prop) (K111 : ml_St → Prop) (σ : ml_St) (x1 : Int) (x2 : Int) (s0 : Int) : Prop :=
∀ _ : I32 (σ 215 2),
((σ 215 2) ≤ x1 →
f_X12_caps_u94 Q K32 K111 σ x1 x2 s0 0) ∧
(¬ ((σ 215 2) ≤ x1) →
f_X12_caps_u94 Q K32 K111 σ x1 x2 s0 1)
def f_X12_caps_u32 (Q : Int → ml_St → Prop) (K111 : ml_St → Prop) (K119 : ml_St → Prop) : Nat → ml_St → Int → Prop
| 0, _, _ => False
| N + 1, σ, x1 =>
∀ _ : I32 (σ 215 2),
I32 (2 * (σ 215 2)) ∧
((2 * (σ 215 2)) ≤ x1 →
K119 σ) ∧
(¬ ((2 * (σ 215 2)) ≤ x1) →
(0 : Int) ≤ x1 ∧ (x1 : Int) < 200 ∧
∀ _ : ml_I8 (σ 216 x1),
∀ y5 : Int, y5 = b_and (σ 216 x1) 255 →
∀ _ : I32 (σ 215 2),
I32 (2 * (σ 215 2)) ∧
((2 * (σ 215 2)) ≤ y5 →
K111 σ) ∧
(¬ ((2 * (σ 215 2)) ≤ y5) →
(y5 = x1 →
K111 σ) ∧
(y5 ≠ x1 →
∀ _ : I32 (σ 215 2),
((σ 215 2) ≤ y5 →
f_X12_caps_u81 Q (f_X12_caps_u32 Q K111 K119 N) K111 σ x1 y5 0) ∧
(¬ ((σ 215 2) ≤ y5) →
f_X12_caps_u81 Q (f_X12_caps_u32 Q K111 K119 N) K111 σ x1 y5 1))))
def f_X12_caps_u111 (Q : Int → ml_St → Prop) (σ : ml_St) : Prop :=
Q 0 σ
def f_X12_caps_u121 (Q : Int → ml_St → Prop) (K149 : ml_St → Prop) : Nat → ml_St → Int → Prop
| 0, _, _ => False
| N + 1, σ, x1 =>
∀ _ : I32 (σ 215 2),
I32 (2 * (σ 215 2)) ∧
((2 * (σ 215 2)) ≤ x1 →
K149 σ) ∧
(¬ ((2 * (σ 215 2)) ≤ x1) →
(0 : Int) ≤ x1 ∧ (x1 : Int) < 200 ∧
∀ _ : ml_I8 (σ 216 x1),
(0 : Int) ≤ x1 ∧ (x1 : Int) < 10 ∧
∀ σ5, σ5 = ml_up σ 217 x1 (σ 216 x1) →
I32 (x1 + 1) ∧
∀ y6 : Int, y6 = x1 + 1 →
f_X12_caps_u121 Q K149 N σ5 y6)
def f_X12_caps_u149 (Q : Int → ml_St → Prop) (σ : ml_St) : Prop :=
∀ σ1, σ1 = ml_up σ 215 4 1 →
Q 1 σ1
def f_X12_caps_u119 (Q : Int → ml_St → Prop) (σ : ml_St) : Prop :=
∃ N1, f_X12_caps_u121 Q (f_X12_caps_u149 Q) N1 σ 0
def f_X12_caps_u0 (Q : Int → ml_St → Prop) (σ : ml_St) : Prop :=
∀ _ : I32 (σ 215 2),
(2 : Int) ≠ 0 ∧ I32 (Int.tmod (σ 215 2) 2) ∧
(((Int.tmod (σ 215 2) 2) : Int) = 1 →
f_X12_caps_u23 Q σ) ∧
((Int.tmod (σ 215 2) 2) ≠ 1 →
∀ _ : I32 (σ 215 1),
∀ _ : I32 (σ 215 2),
I32 (2 * (σ 215 2)) ∧
((2 * (σ 215 2)) ≤ ((σ 215 1) : Int) →
∀ σ8, σ8 = ml_up σ 215 1 0 →
∃ N1, f_X12_caps_u32 Q (f_X12_caps_u111 Q) (f_X12_caps_u119 Q) N1 σ8 0) ∧
(¬ ((2 * (σ 215 2)) ≤ ((σ 215 1) : Int)) →
f_X12_caps_u23 Q σ))
def f_X12_caps (σ : ml_St) (Q : Int → ml_St → Prop) : Prop := f_X12_caps_u0 Q σ
def rm_X12_caps : Room := { frames := 0, cells := 0, slots := 0, locals := 0 }
set_option maxRecDepth 100000 in
set_option maxHeartbeats 4000000 in
theorem u_X12_caps_23 {p : Program} {e : Env} {s : State} {m : MethodId} {args : Array Value} {below : List Frame} {meth : Method} {c : Code} {base : Nat} {D : va_G} {cA : Nat → ClassId} {n : Nat} {l : Launch} {Q : Int → ml_St → Prop} (X : ml_X p s m c meth args D cA cX12_caps 3 RX12 (some .boolean)) (hn : 256 ≤ n) (σ : ml_St) (ls : Array Slot) (hl : lv_has ls 3 []) (hw : f_X12_caps_u23 Q σ) : ml_V p l e rm_X12_caps s m args below meth c (MQ below (ml_Qi ml_B base D cA n Q) args s 0 0 (ml_A base)) base D cA 0 0 n n σ (F0 m 23 ls []) := by
  unfold f_X12_caps_u23 at hw
  refine ml_iconst (pc := 23) X dX12_caps_23 ?_
  exact ml_zret (pc := 24) X ⟨by decide, by decide⟩ hw dX12_caps_24
set_option maxRecDepth 100000 in
set_option maxHeartbeats 4000000 in
theorem u_X12_caps_94 {p : Program} {e : Env} {s : State} {m : MethodId} {args : Array Value} {below : List Frame} {meth : Method} {c : Code} {base : Nat} {D : va_G} {cA : Nat → ClassId} {n : Nat} {l : Launch} {Q : Int → ml_St → Prop} {K32 : ml_St → Int → Prop} {K111 : ml_St → Prop} (X : ml_X p s m c meth args D cA cX12_caps 3 RX12 (some .boolean)) (hn : 256 ≤ n) (hK32 : ∀ (σ : ml_St) (x1 : Int) (h_x1 : I32 x1) (ls : Array Slot), lv_has ls 3 [(0, .ref (base + (215 : Int).toNat)), (1, .int (Int32.ofInt x1))] → K32 σ x1 → ml_V p l e rm_X12_caps s m args below meth c (MQ below (ml_Qi ml_B base D cA n Q) args s 0 0 (ml_A base)) base D cA 0 0 n n σ (F0 m 32 ls [])) (hK111 : ∀ (σ : ml_St) (ls : Array Slot), lv_has ls 3 [] → K111 σ → ml_V p l e rm_X12_caps s m args below meth c (MQ below (ml_Qi ml_B base D cA n Q) args s 0 0 (ml_A base)) base D cA 0 0 n n σ (F0 m 111 ls [])) (σ : ml_St) (x1 : Int) (x2 : Int) (s0 : Int) (s1 : Int) (h_x1 : I32 x1) (h_x2 : I32 x2) (h_s0 : ml_B s0) (h_s1 : ml_B s1) (ls : Array Slot) (hl : lv_has ls 3 [(0, .ref (base + (215 : Int).toNat)), (1, .int (Int32.ofInt x1)), (2, .int (Int32.ofInt x2))]) (hw : f_X12_caps_u94 Q K32 K111 σ x1 x2 s0 s1) : ml_V p l e rm_X12_caps s m args below meth c (MQ below (ml_Qi ml_B base D cA n Q) args s 0 0 (ml_A base)) base D cA 0 0 n n σ (F0 m 94 ls [.int (Int32.ofInt s1), .int (Int32.ofInt s0)]) := by
  unfold f_X12_caps_u94 at hw
  refine ml_icmp_ne (pc := 94) (tgt := 111) X h_s0.i h_s1.i dX12_caps_94 (by decide) (fun c1 => ?_) (fun c1 => ?_)
  · have hw := hw.1 c1
    exact hK111 σ   _ (lv_sub hl [] rfl) hw
  · have hw := hw.2 c1
    refine ml_aload_n (pc := 97) X hl 0 rfl rfl dX12_caps_97 ?_
    refine gf_X12_7 (pc := 98) X (ml_c215 hn) dX12_caps_98 ?_
    refine ml_iload_n (pc := 101) X hl 2 rfl rfl dX12_caps_101 ?_
    obtain ⟨a2, b2, hw⟩ := hw
    refine ml_bald (pc := 102) (N := 200) X (ml_c216 hn) a2 b2 dX12_caps_102 (fun r2 => ?_)
    have hw := hw r2
    refine ml_sipush (pc := 103) X dX12_caps_103 (by decide) ?_
    refine ml_iand (pc := 106) X dX12_caps_106 ?_
    refine ml_iload_n (pc := 107) X hl 1 rfl rfl dX12_caps_107 ?_
    refine ml_icmp_eq (pc := 108) (tgt := 113) X (b_and_r _ _) h_x1 dX12_caps_108 (by decide) (fun c3 => ?_) (fun c3 => ?_)
    · have hw := hw.1 c3
      obtain ⟨v4, hw⟩ := hw
      obtain ⟨y4, e4⟩ : ∃ y : Int, y = x1 + 1 := ⟨_, rfl⟩
      have hw := hw y4 e4
      rw [← e4] at v4
      refine ml_iinc (pc := 113) X e4 hl 1 rfl (by decide) (lst' := [(1, .int (Int32.ofInt y4)), (0, .ref (base + (215 : Int).toNat)), (2, .int (Int32.ofInt x2))]) rfl dX12_caps_113 (fun ls hl => ?_)
      refine ml_goto (pc := 116) (tgt := 32) X dX12_caps_116 (by decide) ?_
      exact hK32 σ y4 v4 _ (lv_sub hl [1, 0] rfl) hw
    · have hw := hw.2 c3
      exact hK111 σ   _ (lv_sub hl [] rfl) hw
set_option maxRecDepth 100000 in
set_option maxHeartbeats 4000000 in
theorem u_X12_caps_81 {p : Program} {e : Env} {s : State} {m : MethodId} {args : Array Value} {below : List Frame} {meth : Method} {c : Code} {base : Nat} {D : va_G} {cA : Nat → ClassId} {n : Nat} {l : Launch} {Q : Int → ml_St → Prop} {K32 : ml_St → Int → Prop} {K111 : ml_St → Prop} (X : ml_X p s m c meth args D cA cX12_caps 3 RX12 (some .boolean)) (hn : 256 ≤ n) (hK32 : ∀ (σ : ml_St) (x1 : Int) (h_x1 : I32 x1) (ls : Array Slot), lv_has ls 3 [(0, .ref (base + (215 : Int).toNat)), (1, .int (Int32.ofInt x1))] → K32 σ x1 → ml_V p l e rm_X12_caps s m args below meth c (MQ below (ml_Qi ml_B base D cA n Q) args s 0 0 (ml_A base)) base D cA 0 0 n n σ (F0 m 32 ls [])) (hK111 : ∀ (σ : ml_St) (ls : Array Slot), lv_has ls 3 [] → K111 σ → ml_V p l e rm_X12_caps s m args below meth c (MQ below (ml_Qi ml_B base D cA n Q) args s 0 0 (ml_A base)) base D cA 0 0 n n σ (F0 m 111 ls [])) (σ : ml_St) (x1 : Int) (x2 : Int) (s0 : Int) (h_x1 : I32 x1) (h_x2 : I32 x2) (h_s0 : ml_B s0) (ls : Array Slot) (hl : lv_has ls 3 [(0, .ref (base + (215 : Int).toNat)), (1, .int (Int32.ofInt x1)), (2, .int (Int32.ofInt x2))]) (hw : f_X12_caps_u81 Q K32 K111 σ x1 x2 s0) : ml_V p l e rm_X12_caps s m args below meth c (MQ below (ml_Qi ml_B base D cA n Q) args s 0 0 (ml_A base)) base D cA 0 0 n n σ (F0 m 81 ls [.int (Int32.ofInt s0)]) := by
  unfold f_X12_caps_u81 at hw
  refine ml_iload_n (pc := 81) X hl 1 rfl rfl dX12_caps_81 ?_
  refine ml_aload_n (pc := 82) X hl 0 rfl rfl dX12_caps_82 ?_
  refine gf_X12_13 (pc := 83) X (ml_c215 hn) dX12_caps_83 (fun r1 => ?_)
  have hw := hw r1
  refine ml_icmp_ge (pc := 86) (tgt := 93) X h_x1 r1 dX12_caps_86 (by decide) (fun c2 => ?_) (fun c2 => ?_)
  · have hw := hw.1 c2
    refine ml_iconst (pc := 93) X dX12_caps_93 ?_
    exact u_X12_caps_94 X hn hK32 hK111 σ x1 x2 s0 0 h_x1 h_x2 h_s0 ⟨by decide, by decide⟩ _ (lv_sub hl [0, 1, 2] rfl) hw
  · have hw := hw.2 c2
    refine ml_iconst (pc := 89) X dX12_caps_89 ?_
    refine ml_goto (pc := 90) (tgt := 94) X dX12_caps_90 (by decide) ?_
    exact u_X12_caps_94 X hn hK32 hK111 σ x1 x2 s0 1 h_x1 h_x2 h_s0 ⟨by decide, by decide⟩ _ (lv_sub hl [0, 1, 2] rfl) hw
set_option maxRecDepth 100000 in
set_option maxHeartbeats 4000000 in
theorem u_X12_caps_32 {p : Program} {e : Env} {s : State} {m : MethodId} {args : Array Value} {below : List Frame} {meth : Method} {c : Code} {base : Nat} {D : va_G} {cA : Nat → ClassId} {n : Nat} {l : Launch} {Q : Int → ml_St → Prop} {K111 : ml_St → Prop} {K119 : ml_St → Prop} (X : ml_X p s m c meth args D cA cX12_caps 3 RX12 (some .boolean)) (hn : 256 ≤ n) (hK111 : ∀ (σ : ml_St) (ls : Array Slot), lv_has ls 3 [] → K111 σ → ml_V p l e rm_X12_caps s m args below meth c (MQ below (ml_Qi ml_B base D cA n Q) args s 0 0 (ml_A base)) base D cA 0 0 n n σ (F0 m 111 ls [])) (hK119 : ∀ (σ : ml_St) (ls : Array Slot), lv_has ls 3 [(0, .ref (base + (215 : Int).toNat))] → K119 σ → ml_V p l e rm_X12_caps s m args below meth c (MQ below (ml_Qi ml_B base D cA n Q) args s 0 0 (ml_A base)) base D cA 0 0 n n σ (F0 m 119 ls [])) : ∀ (N : Nat) (σ : ml_St) (x1 : Int) (h_x1 : I32 x1) (ls : Array Slot), lv_has ls 3 [(0, .ref (base + (215 : Int).toNat)), (1, .int (Int32.ofInt x1))] → f_X12_caps_u32 Q K111 K119 N σ x1 → ml_V p l e rm_X12_caps s m args below meth c (MQ below (ml_Qi ml_B base D cA n Q) args s 0 0 (ml_A base)) base D cA 0 0 n n σ (F0 m 32 ls []) := by
  intro N
  induction N with
  | zero => intro σ x1 h_x1 ls hl hw; exact False.elim hw
  | succ N ih =>
    intro σ x1 h_x1 ls hl hw
    unfold f_X12_caps_u32 at hw
    refine ml_iload_n (pc := 32) X hl 1 rfl rfl dX12_caps_32 ?_
    refine ml_iconst (pc := 33) X dX12_caps_33 ?_
    refine ml_aload_n (pc := 34) X hl 0 rfl rfl dX12_caps_34 ?_
    refine gf_X12_13 (pc := 35) X (ml_c215 hn) dX12_caps_35 (fun r1 => ?_)
    have hw := hw r1
    obtain ⟨v2, hw⟩ := hw
    refine ml_imul (pc := 38) X dX12_caps_38 ?_
    refine ml_icmp_ge (pc := 39) (tgt := 119) X h_x1 v2 dX12_caps_39 (by decide) (fun c3 => ?_) (fun c3 => ?_)
    · have hw := hw.1 c3
      exact hK119 σ   _ (lv_sub hl [0] rfl) hw
    · have hw := hw.2 c3
      refine ml_aload_n (pc := 42) X hl 0 rfl rfl dX12_caps_42 ?_
      refine gf_X12_7 (pc := 43) X (ml_c215 hn) dX12_caps_43 ?_
      refine ml_iload_n (pc := 46) X hl 1 rfl rfl dX12_caps_46 ?_
      obtain ⟨a4, b4, hw⟩ := hw
      refine ml_bald (pc := 47) (N := 200) X (ml_c216 hn) a4 b4 dX12_caps_47 (fun r4 => ?_)
      have hw := hw r4
      refine ml_sipush (pc := 48) X dX12_caps_48 (by decide) ?_
      refine ml_iand (pc := 51) X dX12_caps_51 ?_
      refine ml_topI (pc := 52) (fun y5 e5 => ?_)
      have hw := hw y5 e5
      have q5 : I32 y5 := by rw [e5]; exact (b_and_r _ _)
      refine ml_istore_n (pc := 52) X rfl hl (by decide) (lst' := [(2, .int (Int32.ofInt y5)), (0, .ref (base + (215 : Int).toNat)), (1, .int (Int32.ofInt x1))]) rfl dX12_caps_52 (fun ls hl => ?_)
      refine ml_iload_n (pc := 53) X hl 0 rfl rfl dX12_caps_53 ?_
      refine ml_iconst (pc := 54) X dX12_caps_54 ?_
      refine ml_aload_n (pc := 55) X hl 1 rfl rfl dX12_caps_55 ?_
      refine gf_X12_13 (pc := 56) X (ml_c215 hn) dX12_caps_56 (fun r6 => ?_)
      have hw := hw r6
      obtain ⟨v7, hw⟩ := hw
      refine ml_imul (pc := 59) X dX12_caps_59 ?_
      refine ml_icmp_ge (pc := 60) (tgt := 111) X q5 v7 dX12_caps_60 (by decide) (fun c8 => ?_) (fun c8 => ?_)
      · have hw := hw.1 c8
        exact hK111 σ   _ (lv_sub hl [] rfl) hw
      · have hw := hw.2 c8
        refine ml_iload_n (pc := 63) X hl 0 rfl rfl dX12_caps_63 ?_
        refine ml_iload_n (pc := 64) X hl 2 rfl rfl dX12_caps_64 ?_
        refine ml_icmp_eq (pc := 65) (tgt := 111) X q5 h_x1 dX12_caps_65 (by decide) (fun c9 => ?_) (fun c9 => ?_)
        · have hw := hw.1 c9
          exact hK111 σ   _ (lv_sub hl [] rfl) hw
        · have hw := hw.2 c9
          refine ml_iload_n (pc := 68) X hl 0 rfl rfl dX12_caps_68 ?_
          refine ml_aload_n (pc := 69) X hl 1 rfl rfl dX12_caps_69 ?_
          refine gf_X12_13 (pc := 70) X (ml_c215 hn) dX12_caps_70 (fun r10 => ?_)
          have hw := hw r10
          refine ml_icmp_ge (pc := 73) (tgt := 80) X q5 r10 dX12_caps_73 (by decide) (fun c11 => ?_) (fun c11 => ?_)
          · have hw := hw.1 c11
            refine ml_iconst (pc := 80) X dX12_caps_80 ?_
            exact u_X12_caps_81 X hn ih hK111 σ x1 y5 0 h_x1 q5 ⟨by decide, by decide⟩ _ (lv_sub hl [1, 2, 0] rfl) hw
          · have hw := hw.2 c11
            refine ml_iconst (pc := 76) X dX12_caps_76 ?_
            refine ml_goto (pc := 77) (tgt := 81) X dX12_caps_77 (by decide) ?_
            exact u_X12_caps_81 X hn ih hK111 σ x1 y5 1 h_x1 q5 ⟨by decide, by decide⟩ _ (lv_sub hl [1, 2, 0] rfl) hw
set_option maxRecDepth 100000 in
set_option maxHeartbeats 4000000 in
theorem u_X12_caps_111 {p : Program} {e : Env} {s : State} {m : MethodId} {args : Array Value} {below : List Frame} {meth : Method} {c : Code} {base : Nat} {D : va_G} {cA : Nat → ClassId} {n : Nat} {l : Launch} {Q : Int → ml_St → Prop} (X : ml_X p s m c meth args D cA cX12_caps 3 RX12 (some .boolean)) (hn : 256 ≤ n) (σ : ml_St) (ls : Array Slot) (hl : lv_has ls 3 []) (hw : f_X12_caps_u111 Q σ) : ml_V p l e rm_X12_caps s m args below meth c (MQ below (ml_Qi ml_B base D cA n Q) args s 0 0 (ml_A base)) base D cA 0 0 n n σ (F0 m 111 ls []) := by
  unfold f_X12_caps_u111 at hw
  refine ml_iconst (pc := 111) X dX12_caps_111 ?_
  exact ml_zret (pc := 112) X ⟨by decide, by decide⟩ hw dX12_caps_112
set_option maxRecDepth 100000 in
set_option maxHeartbeats 4000000 in
theorem u_X12_caps_121 {p : Program} {e : Env} {s : State} {m : MethodId} {args : Array Value} {below : List Frame} {meth : Method} {c : Code} {base : Nat} {D : va_G} {cA : Nat → ClassId} {n : Nat} {l : Launch} {Q : Int → ml_St → Prop} {K149 : ml_St → Prop} (X : ml_X p s m c meth args D cA cX12_caps 3 RX12 (some .boolean)) (hn : 256 ≤ n) (hK149 : ∀ (σ : ml_St) (ls : Array Slot), lv_has ls 3 [(0, .ref (base + (215 : Int).toNat))] → K149 σ → ml_V p l e rm_X12_caps s m args below meth c (MQ below (ml_Qi ml_B base D cA n Q) args s 0 0 (ml_A base)) base D cA 0 0 n n σ (F0 m 149 ls [])) : ∀ (N : Nat) (σ : ml_St) (x1 : Int) (h_x1 : I32 x1) (ls : Array Slot), lv_has ls 3 [(0, .ref (base + (215 : Int).toNat)), (1, .int (Int32.ofInt x1))] → f_X12_caps_u121 Q K149 N σ x1 → ml_V p l e rm_X12_caps s m args below meth c (MQ below (ml_Qi ml_B base D cA n Q) args s 0 0 (ml_A base)) base D cA 0 0 n n σ (F0 m 121 ls []) := by
  intro N
  induction N with
  | zero => intro σ x1 h_x1 ls hl hw; exact False.elim hw
  | succ N ih =>
    intro σ x1 h_x1 ls hl hw
    unfold f_X12_caps_u121 at hw
    refine ml_iload_n (pc := 121) X hl 1 rfl rfl dX12_caps_121 ?_
    refine ml_iconst (pc := 122) X dX12_caps_122 ?_
    refine ml_aload_n (pc := 123) X hl 0 rfl rfl dX12_caps_123 ?_
    refine gf_X12_13 (pc := 124) X (ml_c215 hn) dX12_caps_124 (fun r1 => ?_)
    have hw := hw r1
    obtain ⟨v2, hw⟩ := hw
    refine ml_imul (pc := 127) X dX12_caps_127 ?_
    refine ml_icmp_ge (pc := 128) (tgt := 149) X h_x1 v2 dX12_caps_128 (by decide) (fun c3 => ?_) (fun c3 => ?_)
    · have hw := hw.1 c3
      exact hK149 σ   _ (lv_sub hl [0] rfl) hw
    · have hw := hw.2 c3
      refine ml_aload_n (pc := 131) X hl 0 rfl rfl dX12_caps_131 ?_
      refine gf_X12_17 (pc := 132) X (ml_c215 hn) dX12_caps_132 ?_
      refine ml_iload_n (pc := 135) X hl 1 rfl rfl dX12_caps_135 ?_
      refine ml_aload_n (pc := 136) X hl 0 rfl rfl dX12_caps_136 ?_
      refine gf_X12_7 (pc := 137) X (ml_c215 hn) dX12_caps_137 ?_
      refine ml_iload_n (pc := 140) X hl 1 rfl rfl dX12_caps_140 ?_
      obtain ⟨a4, b4, hw⟩ := hw
      refine ml_bald (pc := 141) (N := 200) X (ml_c216 hn) a4 b4 dX12_caps_141 (fun r4 => ?_)
      have hw := hw r4
      obtain ⟨a5, b5, hw⟩ := hw
      refine ml_iast (pc := 142) (N := 10) X (ml_c217 hn) a5 b5 r4.i dX12_caps_142 (fun σ5 g5 => ?_)
      have hw := hw σ5 g5
      obtain ⟨v6, hw⟩ := hw
      obtain ⟨y6, e6⟩ : ∃ y : Int, y = x1 + 1 := ⟨_, rfl⟩
      have hw := hw y6 e6
      rw [← e6] at v6
      refine ml_iinc (pc := 143) X e6 hl 1 rfl (by decide) (lst' := [(1, .int (Int32.ofInt y6)), (0, .ref (base + (215 : Int).toNat))]) rfl dX12_caps_143 (fun ls hl => ?_)
      refine ml_goto (pc := 146) (tgt := 121) X dX12_caps_146 (by decide) ?_
      exact ih σ5 y6 v6 _ (lv_sub hl [1, 0] rfl) hw
set_option maxRecDepth 100000 in
set_option maxHeartbeats 4000000 in
theorem u_X12_caps_149 {p : Program} {e : Env} {s : State} {m : MethodId} {args : Array Value} {below : List Frame} {meth : Method} {c : Code} {base : Nat} {D : va_G} {cA : Nat → ClassId} {n : Nat} {l : Launch} {Q : Int → ml_St → Prop} (X : ml_X p s m c meth args D cA cX12_caps 3 RX12 (some .boolean)) (hn : 256 ≤ n) (σ : ml_St) (ls : Array Slot) (hl : lv_has ls 3 [(0, .ref (base + (215 : Int).toNat))]) (hw : f_X12_caps_u149 Q σ) : ml_V p l e rm_X12_caps s m args below meth c (MQ below (ml_Qi ml_B base D cA n Q) args s 0 0 (ml_A base)) base D cA 0 0 n n σ (F0 m 149 ls []) := by
  unfold f_X12_caps_u149 at hw
  refine ml_aload_n (pc := 149) X hl 0 rfl rfl dX12_caps_149 ?_
  refine ml_iconst (pc := 150) X dX12_caps_150 ?_
  refine pf_X12_151 (pc := 151) X (ml_c215 hn) ⟨by decide, by decide⟩ dX12_caps_151 (fun σ1 g1 => ?_)
  have hw := hw σ1 g1
  refine ml_iconst (pc := 154) X dX12_caps_154 ?_
  exact ml_zret (pc := 155) X ⟨by decide, by decide⟩ hw dX12_caps_155
set_option maxRecDepth 100000 in
set_option maxHeartbeats 4000000 in
theorem u_X12_caps_119 {p : Program} {e : Env} {s : State} {m : MethodId} {args : Array Value} {below : List Frame} {meth : Method} {c : Code} {base : Nat} {D : va_G} {cA : Nat → ClassId} {n : Nat} {l : Launch} {Q : Int → ml_St → Prop} (X : ml_X p s m c meth args D cA cX12_caps 3 RX12 (some .boolean)) (hn : 256 ≤ n) (σ : ml_St) (ls : Array Slot) (hl : lv_has ls 3 [(0, .ref (base + (215 : Int).toNat))]) (hw : f_X12_caps_u119 Q σ) : ml_V p l e rm_X12_caps s m args below meth c (MQ below (ml_Qi ml_B base D cA n Q) args s 0 0 (ml_A base)) base D cA 0 0 n n σ (F0 m 119 ls []) := by
  unfold f_X12_caps_u119 at hw
  refine ml_iconst (pc := 119) X dX12_caps_119 ?_
  refine ml_istore_n (pc := 120) X rfl hl (by decide) (lst' := [(1, .int (Int32.ofInt 0)), (0, .ref (base + (215 : Int).toNat))]) rfl dX12_caps_120 (fun ls hl => ?_)
  obtain ⟨N0, hw⟩ := hw
  exact u_X12_caps_121 X hn (fun σ   ls hl hw => u_X12_caps_149 X hn σ   ls hl hw) N0 σ 0 ⟨by decide, by decide⟩ _ (lv_sub hl [1, 0] rfl) hw
set_option maxRecDepth 100000 in
set_option maxHeartbeats 4000000 in
theorem u_X12_caps_0 {p : Program} {e : Env} {s : State} {m : MethodId} {args : Array Value} {below : List Frame} {meth : Method} {c : Code} {base : Nat} {D : va_G} {cA : Nat → ClassId} {n : Nat} {l : Launch} {Q : Int → ml_St → Prop} (X : ml_X p s m c meth args D cA cX12_caps 3 RX12 (some .boolean)) (hn : 256 ≤ n) (σ : ml_St) (ls : Array Slot) (hl : lv_has ls 3 [(0, .ref (base + (215 : Int).toNat))]) (hw : f_X12_caps_u0 Q σ) : ml_V p l e rm_X12_caps s m args below meth c (MQ below (ml_Qi ml_B base D cA n Q) args s 0 0 (ml_A base)) base D cA 0 0 n n σ (F0 m 0 ls []) := by
  unfold f_X12_caps_u0 at hw
  refine ml_aload_n (pc := 0) X hl 0 rfl rfl dX12_caps_0 ?_
  refine gf_X12_13 (pc := 1) X (ml_c215 hn) dX12_caps_1 (fun r1 => ?_)
  have hw := hw r1
  refine ml_iconst (pc := 4) X dX12_caps_4 ?_
  obtain ⟨z2, v2, hw⟩ := hw
  refine ml_irem (pc := 5) X r1 ⟨by decide, by decide⟩ z2 dX12_caps_5 ?_
  refine ml_iconst (pc := 6) X dX12_caps_6 ?_
  refine ml_icmp_eq (pc := 7) (tgt := 23) X v2 ⟨by decide, by decide⟩ dX12_caps_7 (by decide) (fun c3 => ?_) (fun c3 => ?_)
  · have hw := hw.1 c3
    exact u_X12_caps_23 X hn σ   _ (lv_sub hl [] rfl) hw
  · have hw := hw.2 c3
    refine ml_aload_n (pc := 10) X hl 0 rfl rfl dX12_caps_10 ?_
    refine gf_X12_155 (pc := 11) X (ml_c215 hn) dX12_caps_11 (fun r4 => ?_)
    have hw := hw r4
    refine ml_iconst (pc := 14) X dX12_caps_14 ?_
    refine ml_aload_n (pc := 15) X hl 0 rfl rfl dX12_caps_15 ?_
    refine gf_X12_13 (pc := 16) X (ml_c215 hn) dX12_caps_16 (fun r5 => ?_)
    have hw := hw r5
    obtain ⟨v6, hw⟩ := hw
    refine ml_imul (pc := 19) X dX12_caps_19 ?_
    refine ml_icmp_ge (pc := 20) (tgt := 25) X r4 v6 dX12_caps_20 (by decide) (fun c7 => ?_) (fun c7 => ?_)
    · have hw := hw.1 c7
      refine ml_aload_n (pc := 25) X hl 0 rfl rfl dX12_caps_25 ?_
      refine ml_iconst (pc := 26) X dX12_caps_26 ?_
      refine pf_X12_155 (pc := 27) X (ml_c215 hn) ⟨by decide, by decide⟩ dX12_caps_27 (fun σ8 g8 => ?_)
      have hw := hw σ8 g8
      refine ml_iconst (pc := 30) X dX12_caps_30 ?_
      refine ml_istore_n (pc := 31) X rfl hl (by decide) (lst' := [(1, .int (Int32.ofInt 0)), (0, .ref (base + (215 : Int).toNat))]) rfl dX12_caps_31 (fun ls hl => ?_)
      obtain ⟨N0, hw⟩ := hw
      exact u_X12_caps_32 X hn (fun σ   ls hl hw => u_X12_caps_111 X hn σ   ls hl hw) (fun σ   ls hl hw => u_X12_caps_119 X hn σ   ls hl hw) N0 σ8 0 ⟨by decide, by decide⟩ _ (lv_sub hl [1, 0] rfl) hw
    · have hw := hw.2 c7
      exact u_X12_caps_23 X hn σ   _ (lv_sub hl [] rfl) hw
set_option maxRecDepth 100000 in
theorem c_X12_caps (l : Launch) (base : Nat) (D : va_G) (cA : Nat → ClassId) (n : Nat) (hn : 256 ≤ n) (σ : ml_St) (Q : Int → ml_St → Prop) (hw : f_X12_caps σ Q) : Met l yX12_caps (Cond.code yX12_caps cX12_caps 3 (some .boolean) :: ml_T) rm_X12_caps (va_Pc [.ref (base + (215 : Int).toNat)] (ml_U base D cA n σ)) (ml_Qi ml_B base D cA n Q) 0 0 (ml_A base) := by
  refine Met.ofW (cc := cX12_caps) (maxL := 3) (ret := (some .boolean)) (by decide) rfl ?_
  intro p e s m args below meth c s₁ B hml hv
  obtain ⟨rfl, hP, hK, hok, hro⟩ := hv
  have X : ml_X p s m c meth _ D cA cX12_caps 3 RX12 (some .boolean) := ⟨B.exec, B.bytes, hml, findClass_of_methodNamed B.named, fun w hw => atoms_spec (ws := Cond.code yX12_caps cX12_caps 3 (some .boolean) :: ml_T) B.pre w (List.mem_cons_of_mem _ hw), hK, B.notSynchronized, B.returns⟩
  have hl := lv_entry [.ref (base + (215 : Int).toNat)] (n := 3) (Nat.le_of_ble_eq_true rfl)
  rw [lg_entry_eq]
  generalize (lg_sl [.ref (base + (215 : Int).toNat)] ++ List.replicate (3 - (lg_sl [.ref (base + (215 : Int).toNat)]).length) Slot.unset).toArray = ls at hl ⊢
  have hl : lv_has ls 3 [(0, .ref (base + (215 : Int).toNat))] := hl
  unfold f_X12_caps at hw
  exact u_X12_caps_0 X hn σ  _ (lv_sub hl [0] rfl) hw s.heap [] hP va_S.rf hok hro
