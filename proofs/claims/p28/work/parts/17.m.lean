theorem dX12_goesOn_0 : decode cX12_goesOn 0 = .ok (.aload_n 0, 1) := by decide +kernel
theorem dX12_goesOn_1 : decode cX12_goesOn 1 = .ok (.bipush 16, 2) := by decide +kernel
theorem dX12_goesOn_3 : decode cX12_goesOn 3 = .ok (.iconst 2, 1) := by decide +kernel
theorem dX12_goesOn_4 : decode cX12_goesOn 4 = .ok (.iload_n 1, 1) := by decide +kernel
theorem dX12_goesOn_5 : decode cX12_goesOn 5 = .ok (.imul, 1) := by decide +kernel
theorem dX12_goesOn_6 : decode cX12_goesOn 6 = .ok (.iadd, 1) := by decide +kernel
theorem dX12_goesOn_7 : decode cX12_goesOn 7 = .ok (.bipush 17, 2) := by decide +kernel
theorem dX12_goesOn_9 : decode cX12_goesOn 9 = .ok (.iconst 2, 1) := by decide +kernel
theorem dX12_goesOn_10 : decode cX12_goesOn 10 = .ok (.iload_n 1, 1) := by decide +kernel
theorem dX12_goesOn_11 : decode cX12_goesOn 11 = .ok (.imul, 1) := by decide +kernel
theorem dX12_goesOn_12 : decode cX12_goesOn 12 = .ok (.iadd, 1) := by decide +kernel
theorem dX12_goesOn_13 : decode cX12_goesOn 13 = .ok (.bipush 63, 2) := by decide +kernel
theorem dX12_goesOn_15 : decode cX12_goesOn 15 = .ok (.invokevirtual 245, 3) := by decide +kernel
theorem dX12_goesOn_18 : decode cX12_goesOn 18 = .ok (.aload_n 0, 1) := by decide +kernel
theorem dX12_goesOn_19 : decode cX12_goesOn 19 = .ok (.bipush 63, 2) := by decide +kernel
theorem dX12_goesOn_21 : decode cX12_goesOn 21 = .ok (.bipush 16, 2) := by decide +kernel
theorem dX12_goesOn_23 : decode cX12_goesOn 23 = .ok (.iconst 2, 1) := by decide +kernel
theorem dX12_goesOn_24 : decode cX12_goesOn 24 = .ok (.iload_n 1, 1) := by decide +kernel
theorem dX12_goesOn_25 : decode cX12_goesOn 25 = .ok (.imul, 1) := by decide +kernel
theorem dX12_goesOn_26 : decode cX12_goesOn 26 = .ok (.iadd, 1) := by decide +kernel
theorem dX12_goesOn_27 : decode cX12_goesOn 27 = .ok (.invokevirtual 242, 3) := by decide +kernel
theorem dX12_goesOn_30 : decode cX12_goesOn 30 = .ok (.return_, 1) := by decide +kernel
def f_X12_goesOn_u0 (Q : ml_St → Prop) (σ : ml_St) (x1 : Int) : Prop :=
I32 (2 * x1) ∧
I32 (16 + (2 * x1)) ∧
I32 (2 * x1) ∧
I32 (17 + (2 * x1)) ∧
f_X12_lays σ (16 + (2 * x1)) (17 + (2 * x1)) 63 (fun σ5 =>
I32 (2 * x1) ∧
I32 (16 + (2 * x1)) ∧
f_X12_copies σ5 63 (16 + (2 * x1)) (fun σ8 =>
Q σ8))
def f_X12_goesOn (σ : ml_St) (x1 : Int) (Q : ml_St → Prop) : Prop := f_X12_goesOn_u0 Q σ x1
def rm_X12_goesOn : Room := { frames := 2, cells := 0, slots := 0, locals := 53 }
set_option maxRecDepth 100000 in
set_option maxHeartbeats 4000000 in
theorem u_X12_goesOn_0 {p : Program} {e : Env} {s : State} {m : MethodId} {args : Array Value} {below : List Frame} {meth : Method} {c : Code} {base : Nat} {D : va_G} {cA : Nat → ClassId} {n : Nat} {l : Launch} {Q : ml_St → Prop} (X : ml_X p s m c meth args D cA cX12_goesOn 2 RX12 none) (hn : 256 ≤ n) (σ : ml_St) (x1 : Int) (h_x1 : I32 x1) (ls : Array Slot) (hl : lv_has ls 2 [(0, .ref (base + (215 : Int).toNat)), (1, .int (Int32.ofInt x1))]) (hw : f_X12_goesOn_u0 Q σ x1) : ml_V p l e rm_X12_goesOn s m args below meth c (MQ below (ml_Qv base D cA n Q) args s 0 0 (ml_A base)) base D cA 0 0 n n σ (F0 m 0 ls []) := by
  unfold f_X12_goesOn_u0 at hw
  refine ml_aload_n (pc := 0) X hl 0 rfl rfl dX12_goesOn_0 ?_
  refine ml_bipush (pc := 1) X dX12_goesOn_1 (by decide) ?_
  refine ml_iconst (pc := 3) X dX12_goesOn_3 ?_
  refine ml_iload_n (pc := 4) X hl 1 rfl rfl dX12_goesOn_4 ?_
  obtain ⟨v1, hw⟩ := hw
  refine ml_imul (pc := 5) X dX12_goesOn_5 ?_
  obtain ⟨v2, hw⟩ := hw
  refine ml_iadd (pc := 6) X dX12_goesOn_6 ?_
  refine ml_bipush (pc := 7) X dX12_goesOn_7 (by decide) ?_
  refine ml_iconst (pc := 9) X dX12_goesOn_9 ?_
  refine ml_iload_n (pc := 10) X hl 1 rfl rfl dX12_goesOn_10 ?_
  obtain ⟨v3, hw⟩ := hw
  refine ml_imul (pc := 11) X dX12_goesOn_11 ?_
  obtain ⟨v4, hw⟩ := hw
  refine ml_iadd (pc := 12) X dX12_goesOn_12 ?_
  refine ml_bipush (pc := 13) X dX12_goesOn_13 (by decide) ?_
  refine ml_callvV (pc := 15) (rest := []) X [.int (Int32.ofInt (16 + (2 * x1))), .int (Int32.ofInt (17 + (2 * x1))), .int (Int32.ofInt 63)] (by decide) rfl (ml_c215 hn) (c_X12_lays l base D cA n hn σ (16 + (2 * x1)) (17 + (2 * x1)) 63 v2 v4 ⟨by decide, by decide⟩ _ hw) cv_X12_245 ⟨rfl, rfl⟩ ⟨by decide, by decide⟩ rfl rfl hl (Nat.le_of_ble_eq_true rfl) ⟨Nat.zero_le _, Nat.zero_le _⟩ dX12_goesOn_15 (fun σ5 hw => ?_)
  refine ml_aload_n (pc := 18) X hl 0 rfl rfl dX12_goesOn_18 ?_
  refine ml_bipush (pc := 19) X dX12_goesOn_19 (by decide) ?_
  refine ml_bipush (pc := 21) X dX12_goesOn_21 (by decide) ?_
  refine ml_iconst (pc := 23) X dX12_goesOn_23 ?_
  refine ml_iload_n (pc := 24) X hl 1 rfl rfl dX12_goesOn_24 ?_
  obtain ⟨v6, hw⟩ := hw
  refine ml_imul (pc := 25) X dX12_goesOn_25 ?_
  obtain ⟨v7, hw⟩ := hw
  refine ml_iadd (pc := 26) X dX12_goesOn_26 ?_
  refine ml_callvV (pc := 27) (rest := []) X [.int (Int32.ofInt 63), .int (Int32.ofInt (16 + (2 * x1)))] (by decide) rfl (ml_c215 hn) (c_X12_copies l base D cA n hn σ5 63 (16 + (2 * x1)) ⟨by decide, by decide⟩ v7 _ hw) cv_X12_242 ⟨rfl, rfl⟩ ⟨by decide, by decide⟩ rfl rfl hl (Nat.le_of_ble_eq_true rfl) ⟨Nat.zero_le _, Nat.zero_le _⟩ dX12_goesOn_27 (fun σ8 hw => ?_)
  exact ml_vret (pc := 30) X hw dX12_goesOn_30
set_option maxRecDepth 100000 in
theorem c_X12_goesOn (l : Launch) (base : Nat) (D : va_G) (cA : Nat → ClassId) (n : Nat) (hn : 256 ≤ n) (σ : ml_St) (x1 : Int) (h_x1 : I32 x1) (Q : ml_St → Prop) (hw : f_X12_goesOn σ x1 Q) : Met l yX12_goesOn (Cond.code yX12_goesOn cX12_goesOn 2 none :: ml_T) rm_X12_goesOn (va_Pc [.ref (base + (215 : Int).toNat), .int (Int32.ofInt x1)] (ml_U base D cA n σ)) (ml_Qv base D cA n Q) 0 0 (ml_A base) := by
  refine Met.ofW (cc := cX12_goesOn) (maxL := 2) (ret := none) (by decide) rfl ?_
  intro p e s m args below meth c s₁ B hml hv
  obtain ⟨rfl, hP, hK, hok, hro⟩ := hv
  have X : ml_X p s m c meth _ D cA cX12_goesOn 2 RX12 none := ⟨B.exec, B.bytes, hml, findClass_of_methodNamed B.named, fun w hw => atoms_spec (ws := Cond.code yX12_goesOn cX12_goesOn 2 none :: ml_T) B.pre w (List.mem_cons_of_mem _ hw), hK, B.notSynchronized, B.returns⟩
  have hl := lv_entry [.ref (base + (215 : Int).toNat), .int (Int32.ofInt x1)] (n := 2) (Nat.le_of_ble_eq_true rfl)
  rw [lg_entry_eq]
  generalize (lg_sl [.ref (base + (215 : Int).toNat), .int (Int32.ofInt x1)] ++ List.replicate (2 - (lg_sl [.ref (base + (215 : Int).toNat), .int (Int32.ofInt x1)]).length) Slot.unset).toArray = ls at hl ⊢
  have hl : lv_has ls 2 [(0, .ref (base + (215 : Int).toNat)), (1, .int (Int32.ofInt x1))] := hl
  unfold f_X12_goesOn at hw
  exact u_X12_goesOn_0 X hn σ x1 h_x1 _ (lv_sub hl [0, 1] rfl) hw s.heap [] hP va_S.rf hok hro
theorem dX12_joins_0 : decode cX12_joins 0 = .ok (.aload_n 0, 1) := by decide +kernel
theorem dX12_joins_1 : decode cX12_joins 1 = .ok (.getfield 49, 3) := by decide +kernel
theorem dX12_joins_4 : decode cX12_joins 4 = .ok (.bipush 10, 2) := by decide +kernel
theorem dX12_joins_6 : decode cX12_joins 6 = .ok (.iload_n 1, 1) := by decide +kernel
theorem dX12_joins_7 : decode cX12_joins 7 = .ok (.imul, 1) := by decide +kernel
theorem dX12_joins_8 : decode cX12_joins 8 = .ok (.iload_n 2, 1) := by decide +kernel
theorem dX12_joins_9 : decode cX12_joins 9 = .ok (.iadd, 1) := by decide +kernel
theorem dX12_joins_10 : decode cX12_joins 10 = .ok (.iload_n 3, 1) := by decide +kernel
theorem dX12_joins_11 : decode cX12_joins 11 = .ok (.iastore, 1) := by decide +kernel
theorem dX12_joins_12 : decode cX12_joins 12 = .ok (.aload_n 0, 1) := by decide +kernel
theorem dX12_joins_13 : decode cX12_joins 13 = .ok (.getfield 49, 3) := by decide +kernel
theorem dX12_joins_16 : decode cX12_joins 16 = .ok (.bipush 10, 2) := by decide +kernel
theorem dX12_joins_18 : decode cX12_joins 18 = .ok (.iload_n 1, 1) := by decide +kernel
theorem dX12_joins_19 : decode cX12_joins 19 = .ok (.imul, 1) := by decide +kernel
theorem dX12_joins_20 : decode cX12_joins 20 = .ok (.iload_n 3, 1) := by decide +kernel
theorem dX12_joins_21 : decode cX12_joins 21 = .ok (.iadd, 1) := by decide +kernel
theorem dX12_joins_22 : decode cX12_joins 22 = .ok (.iload_n 2, 1) := by decide +kernel
theorem dX12_joins_23 : decode cX12_joins 23 = .ok (.iastore, 1) := by decide +kernel
theorem dX12_joins_24 : decode cX12_joins 24 = .ok (.aload_n 0, 1) := by decide +kernel
theorem dX12_joins_25 : decode cX12_joins 25 = .ok (.getfield 52, 3) := by decide +kernel
theorem dX12_joins_28 : decode cX12_joins 28 = .ok (.bipush 10, 2) := by decide +kernel
theorem dX12_joins_30 : decode cX12_joins 30 = .ok (.iload_n 1, 1) := by decide +kernel
theorem dX12_joins_31 : decode cX12_joins 31 = .ok (.imul, 1) := by decide +kernel
theorem dX12_joins_32 : decode cX12_joins 32 = .ok (.iload_n 2, 1) := by decide +kernel
theorem dX12_joins_33 : decode cX12_joins 33 = .ok (.iadd, 1) := by decide +kernel
theorem dX12_joins_34 : decode cX12_joins 34 = .ok (.lload 4, 2) := by decide +kernel
theorem dX12_joins_36 : decode cX12_joins 36 = .ok (.lastore, 1) := by decide +kernel
theorem dX12_joins_37 : decode cX12_joins 37 = .ok (.aload_n 0, 1) := by decide +kernel
theorem dX12_joins_38 : decode cX12_joins 38 = .ok (.getfield 52, 3) := by decide +kernel
theorem dX12_joins_41 : decode cX12_joins 41 = .ok (.bipush 10, 2) := by decide +kernel
theorem dX12_joins_43 : decode cX12_joins 43 = .ok (.iload_n 1, 1) := by decide +kernel
theorem dX12_joins_44 : decode cX12_joins 44 = .ok (.imul, 1) := by decide +kernel
theorem dX12_joins_45 : decode cX12_joins 45 = .ok (.iload_n 3, 1) := by decide +kernel
theorem dX12_joins_46 : decode cX12_joins 46 = .ok (.iadd, 1) := by decide +kernel
theorem dX12_joins_47 : decode cX12_joins 47 = .ok (.lload 4, 2) := by decide +kernel
theorem dX12_joins_49 : decode cX12_joins 49 = .ok (.lastore, 1) := by decide +kernel
theorem dX12_joins_50 : decode cX12_joins 50 = .ok (.return_, 1) := by decide +kernel
def f_X12_joins_u0 (Q : ml_St → Prop) (σ : ml_St) (x1 : Int) (x2 : Int) (x3 : Int) (x4 : Int) : Prop :=
I32 (10 * x1) ∧
I32 ((10 * x1) + x2) ∧
(0 : Int) ≤ ((10 * x1) + x2) ∧ (((10 * x1) + x2) : Int) < 640 ∧
∀ σ3, σ3 = ml_up σ 227 ((10 * x1) + x2) x3 →
I32 (10 * x1) ∧
I32 ((10 * x1) + x3) ∧
(0 : Int) ≤ ((10 * x1) + x3) ∧ (((10 * x1) + x3) : Int) < 640 ∧
∀ σ6, σ6 = ml_up σ3 227 ((10 * x1) + x3) x2 →
I32 (10 * x1) ∧
I32 ((10 * x1) + x2) ∧
(0 : Int) ≤ ((10 * x1) + x2) ∧ (((10 * x1) + x2) : Int) < 640 ∧
∀ σ9, σ9 = ml_up σ6 228 ((10 * x1) + x2) x4 →
I32 (10 * x1) ∧
I32 ((10 * x1) + x3) ∧
(0 : Int) ≤ ((10 * x1) + x3) ∧ (((10 * x1) + x3) : Int) < 640 ∧
∀ σ12, σ12 = ml_up σ9 228 ((10 * x1) + x3) x4 →
Q σ12
def f_X12_joins (σ : ml_St) (x1 : Int) (x2 : Int) (x3 : Int) (x4 : Int) (Q : ml_St → Prop) : Prop := f_X12_joins_u0 Q σ x1 x2 x3 x4
def rm_X12_joins : Room := { frames := 0, cells := 0, slots := 0, locals := 0 }
set_option maxRecDepth 100000 in
set_option maxHeartbeats 4000000 in
theorem u_X12_joins_0 {p : Program} {e : Env} {s : State} {m : MethodId} {args : Array Value} {below : List Frame} {meth : Method} {c : Code} {base : Nat} {D : va_G} {cA : Nat → ClassId} {n : Nat} {l : Launch} {Q : ml_St → Prop} (X : ml_X p s m c meth args D cA cX12_joins 6 RX12 none) (hn : 256 ≤ n) (σ : ml_St) (x1 : Int) (x2 : Int) (x3 : Int) (x4 : Int) (h_x1 : I32 x1) (h_x2 : I32 x2) (h_x3 : I32 x3) (h_x4 : I64 x4) (ls : Array Slot) (hl : lv_has ls 6 [(0, .ref (base + (215 : Int).toNat)), (1, .int (Int32.ofInt x1)), (2, .int (Int32.ofInt x2)), (3, .int (Int32.ofInt x3)), (4, .long (Int64.ofInt x4))]) (hw : f_X12_joins_u0 Q σ x1 x2 x3 x4) : ml_V p l e rm_X12_joins s m args below meth c (MQ below (ml_Qv base D cA n Q) args s 0 0 (ml_A base)) base D cA 0 0 n n σ (F0 m 0 ls []) := by
  unfold f_X12_joins_u0 at hw
  refine ml_aload_n (pc := 0) X hl 0 rfl rfl dX12_joins_0 ?_
  refine gf_X12_49 (pc := 1) X (ml_c215 hn) dX12_joins_1 ?_
  refine ml_bipush (pc := 4) X dX12_joins_4 (by decide) ?_
  refine ml_iload_n (pc := 6) X hl 1 rfl rfl dX12_joins_6 ?_
  obtain ⟨v1, hw⟩ := hw
  refine ml_imul (pc := 7) X dX12_joins_7 ?_
  refine ml_iload_n (pc := 8) X hl 2 rfl rfl dX12_joins_8 ?_
  obtain ⟨v2, hw⟩ := hw
  refine ml_iadd (pc := 9) X dX12_joins_9 ?_
  refine ml_iload_n (pc := 10) X hl 3 rfl rfl dX12_joins_10 ?_
  obtain ⟨a3, b3, hw⟩ := hw
  refine ml_iast (pc := 11) (N := 640) X (ml_c227 hn) a3 b3 h_x3 dX12_joins_11 (fun σ3 g3 => ?_)
  have hw := hw σ3 g3
  refine ml_aload_n (pc := 12) X hl 0 rfl rfl dX12_joins_12 ?_
  refine gf_X12_49 (pc := 13) X (ml_c215 hn) dX12_joins_13 ?_
  refine ml_bipush (pc := 16) X dX12_joins_16 (by decide) ?_
  refine ml_iload_n (pc := 18) X hl 1 rfl rfl dX12_joins_18 ?_
  obtain ⟨v4, hw⟩ := hw
  refine ml_imul (pc := 19) X dX12_joins_19 ?_
  refine ml_iload_n (pc := 20) X hl 3 rfl rfl dX12_joins_20 ?_
  obtain ⟨v5, hw⟩ := hw
  refine ml_iadd (pc := 21) X dX12_joins_21 ?_
  refine ml_iload_n (pc := 22) X hl 2 rfl rfl dX12_joins_22 ?_
  obtain ⟨a6, b6, hw⟩ := hw
  refine ml_iast (pc := 23) (N := 640) X (ml_c227 hn) a6 b6 h_x2 dX12_joins_23 (fun σ6 g6 => ?_)
  have hw := hw σ6 g6
  refine ml_aload_n (pc := 24) X hl 0 rfl rfl dX12_joins_24 ?_
  refine gf_X12_52 (pc := 25) X (ml_c215 hn) dX12_joins_25 ?_
  refine ml_bipush (pc := 28) X dX12_joins_28 (by decide) ?_
  refine ml_iload_n (pc := 30) X hl 1 rfl rfl dX12_joins_30 ?_
  obtain ⟨v7, hw⟩ := hw
  refine ml_imul (pc := 31) X dX12_joins_31 ?_
  refine ml_iload_n (pc := 32) X hl 2 rfl rfl dX12_joins_32 ?_
  obtain ⟨v8, hw⟩ := hw
  refine ml_iadd (pc := 33) X dX12_joins_33 ?_
  refine ml_lload (pc := 34) X hl 4 rfl dX12_joins_34 ?_
  obtain ⟨a9, b9, hw⟩ := hw
  refine ml_last (pc := 36) (N := 640) X (ml_c228 hn) a9 b9 h_x4 dX12_joins_36 (fun σ9 g9 => ?_)
  have hw := hw σ9 g9
  refine ml_aload_n (pc := 37) X hl 0 rfl rfl dX12_joins_37 ?_
  refine gf_X12_52 (pc := 38) X (ml_c215 hn) dX12_joins_38 ?_
  refine ml_bipush (pc := 41) X dX12_joins_41 (by decide) ?_
  refine ml_iload_n (pc := 43) X hl 1 rfl rfl dX12_joins_43 ?_
  obtain ⟨v10, hw⟩ := hw
  refine ml_imul (pc := 44) X dX12_joins_44 ?_
  refine ml_iload_n (pc := 45) X hl 3 rfl rfl dX12_joins_45 ?_
  obtain ⟨v11, hw⟩ := hw
  refine ml_iadd (pc := 46) X dX12_joins_46 ?_
  refine ml_lload (pc := 47) X hl 4 rfl dX12_joins_47 ?_
  obtain ⟨a12, b12, hw⟩ := hw
  refine ml_last (pc := 49) (N := 640) X (ml_c228 hn) a12 b12 h_x4 dX12_joins_49 (fun σ12 g12 => ?_)
  have hw := hw σ12 g12
  exact ml_vret (pc := 50) X hw dX12_joins_50
set_option maxRecDepth 100000 in
theorem c_X12_joins (l : Launch) (base : Nat) (D : va_G) (cA : Nat → ClassId) (n : Nat) (hn : 256 ≤ n) (σ : ml_St) (x1 : Int) (x2 : Int) (x3 : Int) (x4 : Int) (h_x1 : I32 x1) (h_x2 : I32 x2) (h_x3 : I32 x3) (h_x4 : I64 x4) (Q : ml_St → Prop) (hw : f_X12_joins σ x1 x2 x3 x4 Q) : Met l yX12_joins (Cond.code yX12_joins cX12_joins 6 none :: ml_T) rm_X12_joins (va_Pc [.ref (base + (215 : Int).toNat), .int (Int32.ofInt x1), .int (Int32.ofInt x2), .int (Int32.ofInt x3), .long (Int64.ofInt x4)] (ml_U base D cA n σ)) (ml_Qv base D cA n Q) 0 0 (ml_A base) := by
  refine Met.ofW (cc := cX12_joins) (maxL := 6) (ret := none) (by decide) rfl ?_
  intro p e s m args below meth c s₁ B hml hv
  obtain ⟨rfl, hP, hK, hok, hro⟩ := hv
  have X : ml_X p s m c meth _ D cA cX12_joins 6 RX12 none := ⟨B.exec, B.bytes, hml, findClass_of_methodNamed B.named, fun w hw => atoms_spec (ws := Cond.code yX12_joins cX12_joins 6 none :: ml_T) B.pre w (List.mem_cons_of_mem _ hw), hK, B.notSynchronized, B.returns⟩
  have hl := lv_entry [.ref (base + (215 : Int).toNat), .int (Int32.ofInt x1), .int (Int32.ofInt x2), .int (Int32.ofInt x3), .long (Int64.ofInt x4)] (n := 6) (Nat.le_of_ble_eq_true rfl)
  rw [lg_entry_eq]
  generalize (lg_sl [.ref (base + (215 : Int).toNat), .int (Int32.ofInt x1), .int (Int32.ofInt x2), .int (Int32.ofInt x3), .long (Int64.ofInt x4)] ++ List.replicate (6 - (lg_sl [.ref (base + (215 : Int).toNat), .int (Int32.ofInt x1), .int (Int32.ofInt x2), .int (Int32.ofInt x3), .long (Int64.ofInt x4)]).length) Slot.unset).toArray = ls at hl ⊢
  have hl : lv_has ls 6 [(0, .ref (base + (215 : Int).toNat)), (1, .int (Int32.ofInt x1)), (2, .int (Int32.ofInt x2)), (3, .int (Int32.ofInt x3)), (4, .long (Int64.ofInt x4))] := hl
  unfold f_X12_joins at hw
  exact u_X12_joins_0 X hn σ x1 x2 x3 x4 h_x1 h_x2 h_x3 h_x4 _ (lv_sub hl [0, 1, 2, 3, 4] rfl) hw s.heap [] hP va_S.rf hok hro
theorem dX12_straight_0 : decode cX12_straight 0 = .ok (.iconst 0, 1) := by decide +kernel
theorem dX12_straight_1 : decode cX12_straight 1 = .ok (.istore_n 2, 1) := by decide +kernel
theorem dX12_straight_2 : decode cX12_straight 2 = .ok (.iload_n 2, 1) := by decide +kernel
theorem dX12_straight_3 : decode cX12_straight 3 = .ok (.aload_n 0, 1) := by decide +kernel
theorem dX12_straight_4 : decode cX12_straight 4 = .ok (.getfield 13, 3) := by decide +kernel
theorem dX12_straight_7 : decode cX12_straight 7 = .ok (.if_icmp .ge 22, 3) := by decide +kernel
theorem dX12_straight_10 : decode cX12_straight 10 = .ok (.aload_n 0, 1) := by decide +kernel
theorem dX12_straight_11 : decode cX12_straight 11 = .ok (.iload_n 1, 1) := by decide +kernel
theorem dX12_straight_12 : decode cX12_straight 12 = .ok (.iload_n 2, 1) := by decide +kernel
theorem dX12_straight_13 : decode cX12_straight 13 = .ok (.aload_n 0, 1) := by decide +kernel
theorem dX12_straight_14 : decode cX12_straight 14 = .ok (.getfield 13, 3) := by decide +kernel
theorem dX12_straight_17 : decode cX12_straight 17 = .ok (.iload_n 2, 1) := by decide +kernel
theorem dX12_straight_18 : decode cX12_straight 18 = .ok (.iadd, 1) := by decide +kernel
theorem dX12_straight_19 : decode cX12_straight 19 = .ok (.lconst 0, 1) := by decide +kernel
theorem dX12_straight_20 : decode cX12_straight 20 = .ok (.invokevirtual 223, 3) := by decide +kernel
theorem dX12_straight_23 : decode cX12_straight 23 = .ok (.iinc 2 1, 3) := by decide +kernel
theorem dX12_straight_26 : decode cX12_straight 26 = .ok (.goto (-24), 3) := by decide +kernel
theorem dX12_straight_29 : decode cX12_straight 29 = .ok (.aload_n 0, 1) := by decide +kernel
theorem dX12_straight_30 : decode cX12_straight 30 = .ok (.getfield 55, 3) := by decide +kernel
theorem dX12_straight_33 : decode cX12_straight 33 = .ok (.iload_n 1, 1) := by decide +kernel
theorem dX12_straight_34 : decode cX12_straight 34 = .ok (.lconst 0, 1) := by decide +kernel
theorem dX12_straight_35 : decode cX12_straight 35 = .ok (.lastore, 1) := by decide +kernel
theorem dX12_straight_36 : decode cX12_straight 36 = .ok (.aload_n 0, 1) := by decide +kernel
theorem dX12_straight_37 : decode cX12_straight 37 = .ok (.getfield 58, 3) := by decide +kernel
theorem dX12_straight_40 : decode cX12_straight 40 = .ok (.iload_n 1, 1) := by decide +kernel
theorem dX12_straight_41 : decode cX12_straight 41 = .ok (.lconst 0, 1) := by decide +kernel
theorem dX12_straight_42 : decode cX12_straight 42 = .ok (.lastore, 1) := by decide +kernel
theorem dX12_straight_43 : decode cX12_straight 43 = .ok (.aload_n 0, 1) := by decide +kernel
theorem dX12_straight_44 : decode cX12_straight 44 = .ok (.getfield 61, 3) := by decide +kernel
theorem dX12_straight_47 : decode cX12_straight 47 = .ok (.iload_n 1, 1) := by decide +kernel
theorem dX12_straight_48 : decode cX12_straight 48 = .ok (.lconst 0, 1) := by decide +kernel
theorem dX12_straight_49 : decode cX12_straight 49 = .ok (.lastore, 1) := by decide +kernel
theorem dX12_straight_50 : decode cX12_straight 50 = .ok (.return_, 1) := by decide +kernel
def f_X12_straight_u2 (Q : ml_St → Prop) (K29 : ml_St → Int → Prop) : Nat → ml_St → Int → Int → Prop
| 0, _, _, _ => False
| N + 1, σ, x1, x2 =>
∀ _ : I32 (σ 215 2),
((σ 215 2) ≤ x2 →
K29 σ x1) ∧
(¬ ((σ 215 2) ≤ x2) →
∀ _ : I32 (σ 215 2),
I32 ((σ 215 2) + x2) ∧
f_X12_joins σ x1 x2 ((σ 215 2) + x2) 0 (fun σ5 =>
I32 (x2 + 1) ∧
∀ y6 : Int, y6 = x2 + 1 →
f_X12_straight_u2 Q K29 N σ5 x1 y6))
def f_X12_straight_u29 (Q : ml_St → Prop) (σ : ml_St) (x1 : Int) : Prop :=
(0 : Int) ≤ x1 ∧ (x1 : Int) < 64 ∧
∀ σ1, σ1 = ml_up σ 229 x1 0 →
(0 : Int) ≤ x1 ∧ (x1 : Int) < 64 ∧
∀ σ2, σ2 = ml_up σ1 230 x1 0 →
(0 : Int) ≤ x1 ∧ (x1 : Int) < 64 ∧
∀ σ3, σ3 = ml_up σ2 231 x1 0 →
Q σ3
def f_X12_straight_u0 (Q : ml_St → Prop) (σ : ml_St) (x1 : Int) : Prop :=
∃ N1, f_X12_straight_u2 Q (f_X12_straight_u29 Q) N1 σ x1 0
def f_X12_straight (σ : ml_St) (x1 : Int) (Q : ml_St → Prop) : Prop := f_X12_straight_u0 Q σ x1
def rm_X12_straight : Room := { frames := 1, cells := 0, slots := 0, locals := 25 }
set_option maxRecDepth 100000 in
set_option maxHeartbeats 4000000 in
theorem u_X12_straight_2 {p : Program} {e : Env} {s : State} {m : MethodId} {args : Array Value} {below : List Frame} {meth : Method} {c : Code} {base : Nat} {D : va_G} {cA : Nat → ClassId} {n : Nat} {l : Launch} {Q : ml_St → Prop} {K29 : ml_St → Int → Prop} (X : ml_X p s m c meth args D cA cX12_straight 3 RX12 none) (hn : 256 ≤ n) (hK29 : ∀ (σ : ml_St) (x1 : Int) (h_x1 : I32 x1) (ls : Array Slot), lv_has ls 3 [(0, .ref (base + (215 : Int).toNat)), (1, .int (Int32.ofInt x1))] → K29 σ x1 → ml_V p l e rm_X12_straight s m args below meth c (MQ below (ml_Qv base D cA n Q) args s 0 0 (ml_A base)) base D cA 0 0 n n σ (F0 m 29 ls [])) : ∀ (N : Nat) (σ : ml_St) (x1 : Int) (x2 : Int) (h_x1 : I32 x1) (h_x2 : I32 x2) (ls : Array Slot), lv_has ls 3 [(0, .ref (base + (215 : Int).toNat)), (1, .int (Int32.ofInt x1)), (2, .int (Int32.ofInt x2))] → f_X12_straight_u2 Q K29 N σ x1 x2 → ml_V p l e rm_X12_straight s m args below meth c (MQ below (ml_Qv base D cA n Q) args s 0 0 (ml_A base)) base D cA 0 0 n n σ (F0 m 2 ls []) := by
  intro N
  induction N with
  | zero => intro σ x1 x2 h_x1 h_x2 ls hl hw; exact False.elim hw
  | succ N ih =>
    intro σ x1 x2 h_x1 h_x2 ls hl hw
    unfold f_X12_straight_u2 at hw
    refine ml_iload_n (pc := 2) X hl 2 rfl rfl dX12_straight_2 ?_
    refine ml_aload_n (pc := 3) X hl 0 rfl rfl dX12_straight_3 ?_
    refine gf_X12_13 (pc := 4) X (ml_c215 hn) dX12_straight_4 (fun r1 => ?_)
    have hw := hw r1
    refine ml_icmp_ge (pc := 7) (tgt := 29) X h_x2 r1 dX12_straight_7 (by decide) (fun c2 => ?_) (fun c2 => ?_)
    · have hw := hw.1 c2
      exact hK29 σ x1 h_x1 _ (lv_sub hl [0, 1] rfl) hw
    · have hw := hw.2 c2
      refine ml_aload_n (pc := 10) X hl 0 rfl rfl dX12_straight_10 ?_
      refine ml_iload_n (pc := 11) X hl 1 rfl rfl dX12_straight_11 ?_
      refine ml_iload_n (pc := 12) X hl 2 rfl rfl dX12_straight_12 ?_
      refine ml_aload_n (pc := 13) X hl 0 rfl rfl dX12_straight_13 ?_
      refine gf_X12_13 (pc := 14) X (ml_c215 hn) dX12_straight_14 (fun r3 => ?_)
      have hw := hw r3
      refine ml_iload_n (pc := 17) X hl 2 rfl rfl dX12_straight_17 ?_
      obtain ⟨v4, hw⟩ := hw
      refine ml_iadd (pc := 18) X dX12_straight_18 ?_
      refine ml_lconst0 (pc := 19) X dX12_straight_19 ?_
      refine ml_callvV (pc := 20) (rest := []) X [.int (Int32.ofInt x1), .int (Int32.ofInt x2), .int (Int32.ofInt ((σ 215 2) + x2)), .long (Int64.ofInt 0)] (by decide) rfl (ml_c215 hn) (c_X12_joins l base D cA n hn σ x1 x2 ((σ 215 2) + x2) 0 h_x1 h_x2 v4 ⟨by decide, by decide⟩ _ hw) cv_X12_223 ⟨rfl, rfl⟩ ⟨by decide, by decide⟩ rfl rfl hl (Nat.le_of_ble_eq_true rfl) ⟨Nat.zero_le _, Nat.zero_le _⟩ dX12_straight_20 (fun σ5 hw => ?_)
      obtain ⟨v6, hw⟩ := hw
      obtain ⟨y6, e6⟩ : ∃ y : Int, y = x2 + 1 := ⟨_, rfl⟩
      have hw := hw y6 e6
      rw [← e6] at v6
      refine ml_iinc (pc := 23) X e6 hl 2 rfl (by decide) (lst' := [(2, .int (Int32.ofInt y6)), (0, .ref (base + (215 : Int).toNat)), (1, .int (Int32.ofInt x1))]) rfl dX12_straight_23 (fun ls hl => ?_)
      refine ml_goto (pc := 26) (tgt := 2) X dX12_straight_26 (by decide) ?_
      exact ih σ5 x1 y6 h_x1 v6 _ (lv_sub hl [1, 2, 0] rfl) hw
set_option maxRecDepth 100000 in
set_option maxHeartbeats 4000000 in
theorem u_X12_straight_29 {p : Program} {e : Env} {s : State} {m : MethodId} {args : Array Value} {below : List Frame} {meth : Method} {c : Code} {base : Nat} {D : va_G} {cA : Nat → ClassId} {n : Nat} {l : Launch} {Q : ml_St → Prop} (X : ml_X p s m c meth args D cA cX12_straight 3 RX12 none) (hn : 256 ≤ n) (σ : ml_St) (x1 : Int) (h_x1 : I32 x1) (ls : Array Slot) (hl : lv_has ls 3 [(0, .ref (base + (215 : Int).toNat)), (1, .int (Int32.ofInt x1))]) (hw : f_X12_straight_u29 Q σ x1) : ml_V p l e rm_X12_straight s m args below meth c (MQ below (ml_Qv base D cA n Q) args s 0 0 (ml_A base)) base D cA 0 0 n n σ (F0 m 29 ls []) := by
  unfold f_X12_straight_u29 at hw
  refine ml_aload_n (pc := 29) X hl 0 rfl rfl dX12_straight_29 ?_
  refine gf_X12_55 (pc := 30) X (ml_c215 hn) dX12_straight_30 ?_
  refine ml_iload_n (pc := 33) X hl 1 rfl rfl dX12_straight_33 ?_
  refine ml_lconst0 (pc := 34) X dX12_straight_34 ?_
  obtain ⟨a1, b1, hw⟩ := hw
  refine ml_last (pc := 35) (N := 64) X (ml_c229 hn) a1 b1 ⟨by decide, by decide⟩ dX12_straight_35 (fun σ1 g1 => ?_)
  have hw := hw σ1 g1
  refine ml_aload_n (pc := 36) X hl 0 rfl rfl dX12_straight_36 ?_
  refine gf_X12_58 (pc := 37) X (ml_c215 hn) dX12_straight_37 ?_
  refine ml_iload_n (pc := 40) X hl 1 rfl rfl dX12_straight_40 ?_
  refine ml_lconst0 (pc := 41) X dX12_straight_41 ?_
  obtain ⟨a2, b2, hw⟩ := hw
  refine ml_last (pc := 42) (N := 64) X (ml_c230 hn) a2 b2 ⟨by decide, by decide⟩ dX12_straight_42 (fun σ2 g2 => ?_)
  have hw := hw σ2 g2
  refine ml_aload_n (pc := 43) X hl 0 rfl rfl dX12_straight_43 ?_
  refine gf_X12_61 (pc := 44) X (ml_c215 hn) dX12_straight_44 ?_
  refine ml_iload_n (pc := 47) X hl 1 rfl rfl dX12_straight_47 ?_
  refine ml_lconst0 (pc := 48) X dX12_straight_48 ?_
  obtain ⟨a3, b3, hw⟩ := hw
  refine ml_last (pc := 49) (N := 64) X (ml_c231 hn) a3 b3 ⟨by decide, by decide⟩ dX12_straight_49 (fun σ3 g3 => ?_)
  have hw := hw σ3 g3
  exact ml_vret (pc := 50) X hw dX12_straight_50
set_option maxRecDepth 100000 in
set_option maxHeartbeats 4000000 in
theorem u_X12_straight_0 {p : Program} {e : Env} {s : State} {m : MethodId} {args : Array Value} {below : List Frame} {meth : Method} {c : Code} {base : Nat} {D : va_G} {cA : Nat → ClassId} {n : Nat} {l : Launch} {Q : ml_St → Prop} (X : ml_X p s m c meth args D cA cX12_straight 3 RX12 none) (hn : 256 ≤ n) (σ : ml_St) (x1 : Int) (h_x1 : I32 x1) (ls : Array Slot) (hl : lv_has ls 3 [(0, .ref (base + (215 : Int).toNat)), (1, .int (Int32.ofInt x1))]) (hw : f_X12_straight_u0 Q σ x1) : ml_V p l e rm_X12_straight s m args below meth c (MQ below (ml_Qv base D cA n Q) args s 0 0 (ml_A base)) base D cA 0 0 n n σ (F0 m 0 ls []) := by
  unfold f_X12_straight_u0 at hw
  refine ml_iconst (pc := 0) X dX12_straight_0 ?_
  refine ml_istore_n (pc := 1) X rfl hl (by decide) (lst' := [(2, .int (Int32.ofInt 0)), (0, .ref (base + (215 : Int).toNat)), (1, .int (Int32.ofInt x1))]) rfl dX12_straight_1 (fun ls hl => ?_)
  obtain ⟨N0, hw⟩ := hw
  exact u_X12_straight_2 X hn (fun σ x1 h_x1 ls hl hw => u_X12_straight_29 X hn σ x1 h_x1 ls hl hw) N0 σ x1 0 h_x1 ⟨by decide, by decide⟩ _ (lv_sub hl [1, 2, 0] rfl) hw
set_option maxRecDepth 100000 in
theorem c_X12_straight (l : Launch) (base : Nat) (D : va_G) (cA : Nat → ClassId) (n : Nat) (hn : 256 ≤ n) (σ : ml_St) (x1 : Int) (h_x1 : I32 x1) (Q : ml_St → Prop) (hw : f_X12_straight σ x1 Q) : Met l yX12_straight (Cond.code yX12_straight cX12_straight 3 none :: ml_T) rm_X12_straight (va_Pc [.ref (base + (215 : Int).toNat), .int (Int32.ofInt x1)] (ml_U base D cA n σ)) (ml_Qv base D cA n Q) 0 0 (ml_A base) := by
  refine Met.ofW (cc := cX12_straight) (maxL := 3) (ret := none) (by decide) rfl ?_
  intro p e s m args below meth c s₁ B hml hv
  obtain ⟨rfl, hP, hK, hok, hro⟩ := hv
  have X : ml_X p s m c meth _ D cA cX12_straight 3 RX12 none := ⟨B.exec, B.bytes, hml, findClass_of_methodNamed B.named, fun w hw => atoms_spec (ws := Cond.code yX12_straight cX12_straight 3 none :: ml_T) B.pre w (List.mem_cons_of_mem _ hw), hK, B.notSynchronized, B.returns⟩
  have hl := lv_entry [.ref (base + (215 : Int).toNat), .int (Int32.ofInt x1)] (n := 3) (Nat.le_of_ble_eq_true rfl)
  rw [lg_entry_eq]
  generalize (lg_sl [.ref (base + (215 : Int).toNat), .int (Int32.ofInt x1)] ++ List.replicate (3 - (lg_sl [.ref (base + (215 : Int).toNat), .int (Int32.ofInt x1)]).length) Slot.unset).toArray = ls at hl ⊢
  have hl : lv_has ls 3 [(0, .ref (base + (215 : Int).toNat)), (1, .int (Int32.ofInt x1))] := hl
  unfold f_X12_straight at hw
  exact u_X12_straight_0 X hn σ x1 h_x1 _ (lv_sub hl [0, 1] rfl) hw s.heap [] hP va_S.rf hok hro
theorem dX12_repeats_0 : decode cX12_repeats 0 = .ok (.aload_n 0, 1) := by decide +kernel
theorem dX12_repeats_1 : decode cX12_repeats 1 = .ok (.bipush 60, 2) := by decide +kernel
theorem dX12_repeats_3 : decode cX12_repeats 3 = .ok (.invokevirtual 227, 3) := by decide +kernel
theorem dX12_repeats_6 : decode cX12_repeats 6 = .ok (.aload_n 0, 1) := by decide +kernel
theorem dX12_repeats_7 : decode cX12_repeats 7 = .ok (.iload_n 1, 1) := by decide +kernel
theorem dX12_repeats_8 : decode cX12_repeats 8 = .ok (.bipush 61, 2) := by decide +kernel
theorem dX12_repeats_10 : decode cX12_repeats 10 = .ok (.invokevirtual 242, 3) := by decide +kernel
theorem dX12_repeats_13 : decode cX12_repeats 13 = .ok (.iload_n 2, 1) := by decide +kernel
theorem dX12_repeats_14 : decode cX12_repeats 14 = .ok (.istore_n 3, 1) := by decide +kernel
theorem dX12_repeats_15 : decode cX12_repeats 15 = .ok (.iload_n 3, 1) := by decide +kernel
theorem dX12_repeats_16 : decode cX12_repeats 16 = .ok (.ifCond .le 53, 3) := by decide +kernel
theorem dX12_repeats_19 : decode cX12_repeats 19 = .ok (.iload_n 3, 1) := by decide +kernel
theorem dX12_repeats_20 : decode cX12_repeats 20 = .ok (.iconst 2, 1) := by decide +kernel
theorem dX12_repeats_21 : decode cX12_repeats 21 = .ok (.irem, 1) := by decide +kernel
theorem dX12_repeats_22 : decode cX12_repeats 22 = .ok (.iconst 1, 1) := by decide +kernel
theorem dX12_repeats_23 : decode cX12_repeats 23 = .ok (.if_icmp .ne 21, 3) := by decide +kernel
theorem dX12_repeats_26 : decode cX12_repeats 26 = .ok (.aload_n 0, 1) := by decide +kernel
theorem dX12_repeats_27 : decode cX12_repeats 27 = .ok (.bipush 60, 2) := by decide +kernel
theorem dX12_repeats_29 : decode cX12_repeats 29 = .ok (.bipush 61, 2) := by decide +kernel
theorem dX12_repeats_31 : decode cX12_repeats 31 = .ok (.bipush 62, 2) := by decide +kernel
theorem dX12_repeats_33 : decode cX12_repeats 33 = .ok (.invokevirtual 245, 3) := by decide +kernel
theorem dX12_repeats_36 : decode cX12_repeats 36 = .ok (.aload_n 0, 1) := by decide +kernel
theorem dX12_repeats_37 : decode cX12_repeats 37 = .ok (.bipush 62, 2) := by decide +kernel
theorem dX12_repeats_39 : decode cX12_repeats 39 = .ok (.bipush 60, 2) := by decide +kernel
theorem dX12_repeats_41 : decode cX12_repeats 41 = .ok (.invokevirtual 242, 3) := by decide +kernel
theorem dX12_repeats_44 : decode cX12_repeats 44 = .ok (.iload_n 3, 1) := by decide +kernel
theorem dX12_repeats_45 : decode cX12_repeats 45 = .ok (.iconst 2, 1) := by decide +kernel
theorem dX12_repeats_46 : decode cX12_repeats 46 = .ok (.idiv, 1) := by decide +kernel
theorem dX12_repeats_47 : decode cX12_repeats 47 = .ok (.istore_n 3, 1) := by decide +kernel
theorem dX12_repeats_48 : decode cX12_repeats 48 = .ok (.aload_n 0, 1) := by decide +kernel
theorem dX12_repeats_49 : decode cX12_repeats 49 = .ok (.bipush 61, 2) := by decide +kernel
theorem dX12_repeats_51 : decode cX12_repeats 51 = .ok (.bipush 61, 2) := by decide +kernel
theorem dX12_repeats_53 : decode cX12_repeats 53 = .ok (.bipush 62, 2) := by decide +kernel
theorem dX12_repeats_55 : decode cX12_repeats 55 = .ok (.invokevirtual 245, 3) := by decide +kernel
theorem dX12_repeats_58 : decode cX12_repeats 58 = .ok (.aload_n 0, 1) := by decide +kernel
theorem dX12_repeats_59 : decode cX12_repeats 59 = .ok (.bipush 62, 2) := by decide +kernel
theorem dX12_repeats_61 : decode cX12_repeats 61 = .ok (.bipush 61, 2) := by decide +kernel
theorem dX12_repeats_63 : decode cX12_repeats 63 = .ok (.invokevirtual 242, 3) := by decide +kernel
theorem dX12_repeats_66 : decode cX12_repeats 66 = .ok (.goto (-51), 3) := by decide +kernel
theorem dX12_repeats_69 : decode cX12_repeats 69 = .ok (.aload_n 0, 1) := by decide +kernel
theorem dX12_repeats_70 : decode cX12_repeats 70 = .ok (.bipush 60, 2) := by decide +kernel
theorem dX12_repeats_72 : decode cX12_repeats 72 = .ok (.iload_n 1, 1) := by decide +kernel
theorem dX12_repeats_73 : decode cX12_repeats 73 = .ok (.invokevirtual 242, 3) := by decide +kernel
theorem dX12_repeats_76 : decode cX12_repeats 76 = .ok (.return_, 1) := by decide +kernel
def f_X12_repeats_u44 (Q : ml_St → Prop) (K15 : ml_St → Int → Int → Prop) (σ : ml_St) (x1 : Int) (x3 : Int) : Prop :=
(2 : Int) ≠ 0 ∧ I32 (Int.tdiv x3 2) ∧
∀ y2 : Int, y2 = Int.tdiv x3 2 →
f_X12_lays σ 61 61 62 (fun σ3 =>
f_X12_copies σ3 62 61 (fun σ4 =>
K15 σ4 x1 y2))
def f_X12_repeats_u15 (Q : ml_St → Prop) (K69 : ml_St → Int → Prop) : Nat → ml_St → Int → Int → Prop
| 0, _, _, _ => False
| N + 1, σ, x1, x3 =>
(x3 ≤ 0 →
K69 σ x1) ∧
(¬ (x3 ≤ 0) →
(2 : Int) ≠ 0 ∧ I32 (Int.tmod x3 2) ∧
(((Int.tmod x3 2) : Int) ≠ 1 →
f_X12_repeats_u44 Q (f_X12_repeats_u15 Q K69 N) σ x1 x3) ∧
((Int.tmod x3 2) = 1 →
f_X12_lays σ 60 61 62 (fun σ4 =>
f_X12_copies σ4 62 60 (fun σ5 =>
f_X12_repeats_u44 Q (f_X12_repeats_u15 Q K69 N) σ5 x1 x3))))
def f_X12_repeats_u69 (Q : ml_St → Prop) (σ : ml_St) (x1 : Int) : Prop :=
f_X12_copies σ 60 x1 (fun σ1 =>
Q σ1)
def f_X12_repeats_u0 (Q : ml_St → Prop) (σ : ml_St) (x1 : Int) (x2 : Int) : Prop :=
f_X12_straight σ 60 (fun σ1 =>
f_X12_copies σ1 x1 61 (fun σ2 =>
∃ N1, f_X12_repeats_u15 Q (f_X12_repeats_u69 Q) N1 σ2 x1 x2))
def f_X12_repeats (σ : ml_St) (x1 : Int) (x2 : Int) (Q : ml_St → Prop) : Prop := f_X12_repeats_u0 Q σ x1 x2
def rm_X12_repeats : Room := { frames := 2, cells := 0, slots := 0, locals := 53 }
set_option maxRecDepth 100000 in
set_option maxHeartbeats 4000000 in
theorem u_X12_repeats_44 {p : Program} {e : Env} {s : State} {m : MethodId} {args : Array Value} {below : List Frame} {meth : Method} {c : Code} {base : Nat} {D : va_G} {cA : Nat → ClassId} {n : Nat} {l : Launch} {Q : ml_St → Prop} {K15 : ml_St → Int → Int → Prop} (X : ml_X p s m c meth args D cA cX12_repeats 4 RX12 none) (hn : 256 ≤ n) (hK15 : ∀ (σ : ml_St) (x1 : Int) (x3 : Int) (h_x1 : I32 x1) (h_x3 : I32 x3) (ls : Array Slot), lv_has ls 4 [(0, .ref (base + (215 : Int).toNat)), (1, .int (Int32.ofInt x1)), (3, .int (Int32.ofInt x3))] → K15 σ x1 x3 → ml_V p l e rm_X12_repeats s m args below meth c (MQ below (ml_Qv base D cA n Q) args s 0 0 (ml_A base)) base D cA 0 0 n n σ (F0 m 15 ls [])) (σ : ml_St) (x1 : Int) (x3 : Int) (h_x1 : I32 x1) (h_x3 : I32 x3) (ls : Array Slot) (hl : lv_has ls 4 [(0, .ref (base + (215 : Int).toNat)), (1, .int (Int32.ofInt x1)), (3, .int (Int32.ofInt x3))]) (hw : f_X12_repeats_u44 Q K15 σ x1 x3) : ml_V p l e rm_X12_repeats s m args below meth c (MQ below (ml_Qv base D cA n Q) args s 0 0 (ml_A base)) base D cA 0 0 n n σ (F0 m 44 ls []) := by
  unfold f_X12_repeats_u44 at hw
  refine ml_iload_n (pc := 44) X hl 2 rfl rfl dX12_repeats_44 ?_
  refine ml_iconst (pc := 45) X dX12_repeats_45 ?_
  obtain ⟨z1, v1, hw⟩ := hw
  refine ml_idiv (pc := 46) X h_x3 ⟨by decide, by decide⟩ z1 dX12_repeats_46 ?_
  refine ml_topI (pc := 47) (fun y2 e2 => ?_)
  have hw := hw y2 e2
  have q2 : I32 y2 := by rw [e2]; exact v1
  refine ml_istore_n (pc := 47) X rfl hl (by decide) (lst' := [(3, .int (Int32.ofInt y2)), (0, .ref (base + (215 : Int).toNat)), (1, .int (Int32.ofInt x1))]) rfl dX12_repeats_47 (fun ls hl => ?_)
  refine ml_aload_n (pc := 48) X hl 1 rfl rfl dX12_repeats_48 ?_
  refine ml_bipush (pc := 49) X dX12_repeats_49 (by decide) ?_
  refine ml_bipush (pc := 51) X dX12_repeats_51 (by decide) ?_
  refine ml_bipush (pc := 53) X dX12_repeats_53 (by decide) ?_
  refine ml_callvV (pc := 55) (rest := []) X [.int (Int32.ofInt 61), .int (Int32.ofInt 61), .int (Int32.ofInt 62)] (by decide) rfl (ml_c215 hn) (c_X12_lays l base D cA n hn σ 61 61 62 ⟨by decide, by decide⟩ ⟨by decide, by decide⟩ ⟨by decide, by decide⟩ _ hw) cv_X12_245 ⟨rfl, rfl⟩ ⟨by decide, by decide⟩ rfl rfl hl (Nat.le_of_ble_eq_true rfl) ⟨Nat.zero_le _, Nat.zero_le _⟩ dX12_repeats_55 (fun σ3 hw => ?_)
  refine ml_aload_n (pc := 58) X hl 1 rfl rfl dX12_repeats_58 ?_
  refine ml_bipush (pc := 59) X dX12_repeats_59 (by decide) ?_
  refine ml_bipush (pc := 61) X dX12_repeats_61 (by decide) ?_
  refine ml_callvV (pc := 63) (rest := []) X [.int (Int32.ofInt 62), .int (Int32.ofInt 61)] (by decide) rfl (ml_c215 hn) (c_X12_copies l base D cA n hn σ3 62 61 ⟨by decide, by decide⟩ ⟨by decide, by decide⟩ _ hw) cv_X12_242 ⟨rfl, rfl⟩ ⟨by decide, by decide⟩ rfl rfl hl (Nat.le_of_ble_eq_true rfl) ⟨Nat.zero_le _, Nat.zero_le _⟩ dX12_repeats_63 (fun σ4 hw => ?_)
  refine ml_goto (pc := 66) (tgt := 15) X dX12_repeats_66 (by decide) ?_
  exact hK15 σ4 x1 y2 h_x1 q2 _ (lv_sub hl [1, 2, 0] rfl) hw
set_option maxRecDepth 100000 in
set_option maxHeartbeats 4000000 in
theorem u_X12_repeats_15 {p : Program} {e : Env} {s : State} {m : MethodId} {args : Array Value} {below : List Frame} {meth : Method} {c : Code} {base : Nat} {D : va_G} {cA : Nat → ClassId} {n : Nat} {l : Launch} {Q : ml_St → Prop} {K69 : ml_St → Int → Prop} (X : ml_X p s m c meth args D cA cX12_repeats 4 RX12 none) (hn : 256 ≤ n) (hK69 : ∀ (σ : ml_St) (x1 : Int) (h_x1 : I32 x1) (ls : Array Slot), lv_has ls 4 [(0, .ref (base + (215 : Int).toNat)), (1, .int (Int32.ofInt x1))] → K69 σ x1 → ml_V p l e rm_X12_repeats s m args below meth c (MQ below (ml_Qv base D cA n Q) args s 0 0 (ml_A base)) base D cA 0 0 n n σ (F0 m 69 ls [])) : ∀ (N : Nat) (σ : ml_St) (x1 : Int) (x3 : Int) (h_x1 : I32 x1) (h_x3 : I32 x3) (ls : Array Slot), lv_has ls 4 [(0, .ref (base + (215 : Int).toNat)), (1, .int (Int32.ofInt x1)), (3, .int (Int32.ofInt x3))] → f_X12_repeats_u15 Q K69 N σ x1 x3 → ml_V p l e rm_X12_repeats s m args below meth c (MQ below (ml_Qv base D cA n Q) args s 0 0 (ml_A base)) base D cA 0 0 n n σ (F0 m 15 ls []) := by
  intro N
  induction N with
  | zero => intro σ x1 x3 h_x1 h_x3 ls hl hw; exact False.elim hw
  | succ N ih =>
    intro σ x1 x3 h_x1 h_x3 ls hl hw
    unfold f_X12_repeats_u15 at hw
    refine ml_iload_n (pc := 15) X hl 2 rfl rfl dX12_repeats_15 ?_
    refine ml_if_le (pc := 16) (tgt := 69) X h_x3 dX12_repeats_16 (by decide) (fun c1 => ?_) (fun c1 => ?_)
    · have hw := hw.1 c1
      exact hK69 σ x1 h_x1 _ (lv_sub hl [0, 1] rfl) hw
    · have hw := hw.2 c1
      refine ml_iload_n (pc := 19) X hl 2 rfl rfl dX12_repeats_19 ?_
      refine ml_iconst (pc := 20) X dX12_repeats_20 ?_
      obtain ⟨z2, v2, hw⟩ := hw
      refine ml_irem (pc := 21) X h_x3 ⟨by decide, by decide⟩ z2 dX12_repeats_21 ?_
      refine ml_iconst (pc := 22) X dX12_repeats_22 ?_
      refine ml_icmp_ne (pc := 23) (tgt := 44) X v2 ⟨by decide, by decide⟩ dX12_repeats_23 (by decide) (fun c3 => ?_) (fun c3 => ?_)
      · have hw := hw.1 c3
        exact u_X12_repeats_44 X hn ih σ x1 x3 h_x1 h_x3 _ (lv_sub hl [0, 1, 2] rfl) hw
      · have hw := hw.2 c3
        refine ml_aload_n (pc := 26) X hl 0 rfl rfl dX12_repeats_26 ?_
        refine ml_bipush (pc := 27) X dX12_repeats_27 (by decide) ?_
        refine ml_bipush (pc := 29) X dX12_repeats_29 (by decide) ?_
        refine ml_bipush (pc := 31) X dX12_repeats_31 (by decide) ?_
        refine ml_callvV (pc := 33) (rest := []) X [.int (Int32.ofInt 60), .int (Int32.ofInt 61), .int (Int32.ofInt 62)] (by decide) rfl (ml_c215 hn) (c_X12_lays l base D cA n hn σ 60 61 62 ⟨by decide, by decide⟩ ⟨by decide, by decide⟩ ⟨by decide, by decide⟩ _ hw) cv_X12_245 ⟨rfl, rfl⟩ ⟨by decide, by decide⟩ rfl rfl hl (Nat.le_of_ble_eq_true rfl) ⟨Nat.zero_le _, Nat.zero_le _⟩ dX12_repeats_33 (fun σ4 hw => ?_)
        refine ml_aload_n (pc := 36) X hl 0 rfl rfl dX12_repeats_36 ?_
        refine ml_bipush (pc := 37) X dX12_repeats_37 (by decide) ?_
        refine ml_bipush (pc := 39) X dX12_repeats_39 (by decide) ?_
        refine ml_callvV (pc := 41) (rest := []) X [.int (Int32.ofInt 62), .int (Int32.ofInt 60)] (by decide) rfl (ml_c215 hn) (c_X12_copies l base D cA n hn σ4 62 60 ⟨by decide, by decide⟩ ⟨by decide, by decide⟩ _ hw) cv_X12_242 ⟨rfl, rfl⟩ ⟨by decide, by decide⟩ rfl rfl hl (Nat.le_of_ble_eq_true rfl) ⟨Nat.zero_le _, Nat.zero_le _⟩ dX12_repeats_41 (fun σ5 hw => ?_)
        exact u_X12_repeats_44 X hn ih σ5 x1 x3 h_x1 h_x3 _ (lv_sub hl [0, 1, 2] rfl) hw
set_option maxRecDepth 100000 in
set_option maxHeartbeats 4000000 in
theorem u_X12_repeats_69 {p : Program} {e : Env} {s : State} {m : MethodId} {args : Array Value} {below : List Frame} {meth : Method} {c : Code} {base : Nat} {D : va_G} {cA : Nat → ClassId} {n : Nat} {l : Launch} {Q : ml_St → Prop} (X : ml_X p s m c meth args D cA cX12_repeats 4 RX12 none) (hn : 256 ≤ n) (σ : ml_St) (x1 : Int) (h_x1 : I32 x1) (ls : Array Slot) (hl : lv_has ls 4 [(0, .ref (base + (215 : Int).toNat)), (1, .int (Int32.ofInt x1))]) (hw : f_X12_repeats_u69 Q σ x1) : ml_V p l e rm_X12_repeats s m args below meth c (MQ below (ml_Qv base D cA n Q) args s 0 0 (ml_A base)) base D cA 0 0 n n σ (F0 m 69 ls []) := by
  unfold f_X12_repeats_u69 at hw
  refine ml_aload_n (pc := 69) X hl 0 rfl rfl dX12_repeats_69 ?_
  refine ml_bipush (pc := 70) X dX12_repeats_70 (by decide) ?_
  refine ml_iload_n (pc := 72) X hl 1 rfl rfl dX12_repeats_72 ?_
  refine ml_callvV (pc := 73) (rest := []) X [.int (Int32.ofInt 60), .int (Int32.ofInt x1)] (by decide) rfl (ml_c215 hn) (c_X12_copies l base D cA n hn σ 60 x1 ⟨by decide, by decide⟩ h_x1 _ hw) cv_X12_242 ⟨rfl, rfl⟩ ⟨by decide, by decide⟩ rfl rfl hl (Nat.le_of_ble_eq_true rfl) ⟨Nat.zero_le _, Nat.zero_le _⟩ dX12_repeats_73 (fun σ1 hw => ?_)
  exact ml_vret (pc := 76) X hw dX12_repeats_76
set_option maxRecDepth 100000 in
set_option maxHeartbeats 4000000 in
theorem u_X12_repeats_0 {p : Program} {e : Env} {s : State} {m : MethodId} {args : Array Value} {below : List Frame} {meth : Method} {c : Code} {base : Nat} {D : va_G} {cA : Nat → ClassId} {n : Nat} {l : Launch} {Q : ml_St → Prop} (X : ml_X p s m c meth args D cA cX12_repeats 4 RX12 none) (hn : 256 ≤ n) (σ : ml_St) (x1 : Int) (x2 : Int) (h_x1 : I32 x1) (h_x2 : I32 x2) (ls : Array Slot) (hl : lv_has ls 4 [(0, .ref (base + (215 : Int).toNat)), (1, .int (Int32.ofInt x1)), (2, .int (Int32.ofInt x2))]) (hw : f_X12_repeats_u0 Q σ x1 x2) : ml_V p l e rm_X12_repeats s m args below meth c (MQ below (ml_Qv base D cA n Q) args s 0 0 (ml_A base)) base D cA 0 0 n n σ (F0 m 0 ls []) := by
  unfold f_X12_repeats_u0 at hw
  refine ml_aload_n (pc := 0) X hl 0 rfl rfl dX12_repeats_0 ?_
  refine ml_bipush (pc := 1) X dX12_repeats_1 (by decide) ?_
  refine ml_callvV (pc := 3) (rest := []) X [.int (Int32.ofInt 60)] (by decide) rfl (ml_c215 hn) (c_X12_straight l base D cA n hn σ 60 ⟨by decide, by decide⟩ _ hw) cv_X12_227 ⟨rfl, rfl⟩ ⟨by decide, by decide⟩ rfl rfl hl (Nat.le_of_ble_eq_true rfl) ⟨Nat.zero_le _, Nat.zero_le _⟩ dX12_repeats_3 (fun σ1 hw => ?_)
  refine ml_aload_n (pc := 6) X hl 0 rfl rfl dX12_repeats_6 ?_
  refine ml_iload_n (pc := 7) X hl 1 rfl rfl dX12_repeats_7 ?_
  refine ml_bipush (pc := 8) X dX12_repeats_8 (by decide) ?_
  refine ml_callvV (pc := 10) (rest := []) X [.int (Int32.ofInt x1), .int (Int32.ofInt 61)] (by decide) rfl (ml_c215 hn) (c_X12_copies l base D cA n hn σ1 x1 61 h_x1 ⟨by decide, by decide⟩ _ hw) cv_X12_242 ⟨rfl, rfl⟩ ⟨by decide, by decide⟩ rfl rfl hl (Nat.le_of_ble_eq_true rfl) ⟨Nat.zero_le _, Nat.zero_le _⟩ dX12_repeats_10 (fun σ2 hw => ?_)
  refine ml_iload_n (pc := 13) X hl 2 rfl rfl dX12_repeats_13 ?_
  refine ml_istore_n (pc := 14) X rfl hl (by decide) (lst' := [(3, .int (Int32.ofInt x2)), (0, .ref (base + (215 : Int).toNat)), (1, .int (Int32.ofInt x1)), (2, .int (Int32.ofInt x2))]) rfl dX12_repeats_14 (fun ls hl => ?_)
  obtain ⟨N0, hw⟩ := hw
  exact u_X12_repeats_15 X hn (fun σ x1 h_x1 ls hl hw => u_X12_repeats_69 X hn σ x1 h_x1 ls hl hw) N0 σ2 x1 x2 h_x1 h_x2 _ (lv_sub hl [1, 2, 0] rfl) hw
set_option maxRecDepth 100000 in
theorem c_X12_repeats (l : Launch) (base : Nat) (D : va_G) (cA : Nat → ClassId) (n : Nat) (hn : 256 ≤ n) (σ : ml_St) (x1 : Int) (x2 : Int) (h_x1 : I32 x1) (h_x2 : I32 x2) (Q : ml_St → Prop) (hw : f_X12_repeats σ x1 x2 Q) : Met l yX12_repeats (Cond.code yX12_repeats cX12_repeats 4 none :: ml_T) rm_X12_repeats (va_Pc [.ref (base + (215 : Int).toNat), .int (Int32.ofInt x1), .int (Int32.ofInt x2)] (ml_U base D cA n σ)) (ml_Qv base D cA n Q) 0 0 (ml_A base) := by
  refine Met.ofW (cc := cX12_repeats) (maxL := 4) (ret := none) (by decide) rfl ?_
  intro p e s m args below meth c s₁ B hml hv
  obtain ⟨rfl, hP, hK, hok, hro⟩ := hv
  have X : ml_X p s m c meth _ D cA cX12_repeats 4 RX12 none := ⟨B.exec, B.bytes, hml, findClass_of_methodNamed B.named, fun w hw => atoms_spec (ws := Cond.code yX12_repeats cX12_repeats 4 none :: ml_T) B.pre w (List.mem_cons_of_mem _ hw), hK, B.notSynchronized, B.returns⟩
  have hl := lv_entry [.ref (base + (215 : Int).toNat), .int (Int32.ofInt x1), .int (Int32.ofInt x2)] (n := 4) (Nat.le_of_ble_eq_true rfl)
  rw [lg_entry_eq]
  generalize (lg_sl [.ref (base + (215 : Int).toNat), .int (Int32.ofInt x1), .int (Int32.ofInt x2)] ++ List.replicate (4 - (lg_sl [.ref (base + (215 : Int).toNat), .int (Int32.ofInt x1), .int (Int32.ofInt x2)]).length) Slot.unset).toArray = ls at hl ⊢
  have hl : lv_has ls 4 [(0, .ref (base + (215 : Int).toNat)), (1, .int (Int32.ofInt x1)), (2, .int (Int32.ofInt x2))] := hl
  unfold f_X12_repeats at hw
  exact u_X12_repeats_0 X hn σ x1 x2 h_x1 h_x2 _ (lv_sub hl [0, 1, 2] rfl) hw s.heap [] hP va_S.rf hok hro
theorem dX12_sign_0 : decode cX12_sign 0 = .ok (.aload_n 0, 1) := by decide +kernel
theorem dX12_sign_1 : decode cX12_sign 1 = .ok (.iload_n 1, 1) := by decide +kernel
theorem dX12_sign_2 : decode cX12_sign 2 = .ok (.invokevirtual 227, 3) := by decide +kernel
theorem dX12_sign_5 : decode cX12_sign 5 = .ok (.aload_n 0, 1) := by decide +kernel
theorem dX12_sign_6 : decode cX12_sign 6 = .ok (.iload_n 1, 1) := by decide +kernel
theorem dX12_sign_7 : decode cX12_sign 7 = .ok (.iload_n 3, 1) := by decide +kernel
theorem dX12_sign_8 : decode cX12_sign 8 = .ok (.iload_n 2, 1) := by decide +kernel
theorem dX12_sign_9 : decode cX12_sign 9 = .ok (.ifCond .eq 14, 3) := by decide +kernel
theorem dX12_sign_12 : decode cX12_sign 12 = .ok (.aload_n 0, 1) := by decide +kernel
theorem dX12_sign_13 : decode cX12_sign 13 = .ok (.getfield 13, 3) := by decide +kernel
theorem dX12_sign_16 : decode cX12_sign 16 = .ok (.iload_n 3, 1) := by decide +kernel
theorem dX12_sign_17 : decode cX12_sign 17 = .ok (.iadd, 1) := by decide +kernel
theorem dX12_sign_18 : decode cX12_sign 18 = .ok (.iconst 1, 1) := by decide +kernel
theorem dX12_sign_19 : decode cX12_sign 19 = .ok (.iadd, 1) := by decide +kernel
theorem dX12_sign_20 : decode cX12_sign 20 = .ok (.goto 6, 3) := by decide +kernel
theorem dX12_sign_23 : decode cX12_sign 23 = .ok (.iload_n 3, 1) := by decide +kernel
theorem dX12_sign_24 : decode cX12_sign 24 = .ok (.iconst 1, 1) := by decide +kernel
theorem dX12_sign_25 : decode cX12_sign 25 = .ok (.iadd, 1) := by decide +kernel
theorem dX12_sign_26 : decode cX12_sign 26 = .ok (.lconst 1, 1) := by decide +kernel
theorem dX12_sign_27 : decode cX12_sign 27 = .ok (.invokevirtual 223, 3) := by decide +kernel
theorem dX12_sign_30 : decode cX12_sign 30 = .ok (.aload_n 0, 1) := by decide +kernel
theorem dX12_sign_31 : decode cX12_sign 31 = .ok (.iload_n 1, 1) := by decide +kernel
theorem dX12_sign_32 : decode cX12_sign 32 = .ok (.iload_n 2, 1) := by decide +kernel
theorem dX12_sign_33 : decode cX12_sign 33 = .ok (.ifCond .eq 9, 3) := by decide +kernel
theorem dX12_sign_36 : decode cX12_sign 36 = .ok (.iload_n 3, 1) := by decide +kernel
theorem dX12_sign_37 : decode cX12_sign 37 = .ok (.iconst 1, 1) := by decide +kernel
theorem dX12_sign_38 : decode cX12_sign 38 = .ok (.iadd, 1) := by decide +kernel
theorem dX12_sign_39 : decode cX12_sign 39 = .ok (.goto 9, 3) := by decide +kernel
theorem dX12_sign_42 : decode cX12_sign 42 = .ok (.aload_n 0, 1) := by decide +kernel
theorem dX12_sign_43 : decode cX12_sign 43 = .ok (.getfield 13, 3) := by decide +kernel
theorem dX12_sign_46 : decode cX12_sign 46 = .ok (.iload_n 3, 1) := by decide +kernel
theorem dX12_sign_47 : decode cX12_sign 47 = .ok (.iadd, 1) := by decide +kernel
theorem dX12_sign_48 : decode cX12_sign 48 = .ok (.iload_n 2, 1) := by decide +kernel
theorem dX12_sign_49 : decode cX12_sign 49 = .ok (.ifCond .eq 12, 3) := by decide +kernel
theorem dX12_sign_52 : decode cX12_sign 52 = .ok (.aload_n 0, 1) := by decide +kernel
theorem dX12_sign_53 : decode cX12_sign 53 = .ok (.getfield 13, 3) := by decide +kernel
theorem dX12_sign_56 : decode cX12_sign 56 = .ok (.iload_n 3, 1) := by decide +kernel
theorem dX12_sign_57 : decode cX12_sign 57 = .ok (.iadd, 1) := by decide +kernel
theorem dX12_sign_58 : decode cX12_sign 58 = .ok (.goto 11, 3) := by decide +kernel
theorem dX12_sign_61 : decode cX12_sign 61 = .ok (.aload_n 0, 1) := by decide +kernel
theorem dX12_sign_62 : decode cX12_sign 62 = .ok (.getfield 13, 3) := by decide +kernel
theorem dX12_sign_65 : decode cX12_sign 65 = .ok (.iload_n 3, 1) := by decide +kernel
theorem dX12_sign_66 : decode cX12_sign 66 = .ok (.iadd, 1) := by decide +kernel
theorem dX12_sign_67 : decode cX12_sign 67 = .ok (.iconst 1, 1) := by decide +kernel
theorem dX12_sign_68 : decode cX12_sign 68 = .ok (.iadd, 1) := by decide +kernel
theorem dX12_sign_69 : decode cX12_sign 69 = .ok (.lconst 1, 1) := by decide +kernel
theorem dX12_sign_70 : decode cX12_sign 70 = .ok (.invokevirtual 223, 3) := by decide +kernel
theorem dX12_sign_73 : decode cX12_sign 73 = .ok (.return_, 1) := by decide +kernel
def f_X12_sign_u69 (Q : ml_St → Prop) (σ : ml_St) (s1 : Int) (s2 : Int) (s3 : Int) : Prop :=
f_X12_joins σ s1 s2 s3 1 (fun σ1 =>
Q σ1)
def f_X12_sign_u48 (Q : ml_St → Prop) (σ : ml_St) (x2 : Int) (x3 : Int) (s1 : Int) (s2 : Int) : Prop :=
(x2 = 0 →
∀ _ : I32 (σ 215 2),
I32 ((σ 215 2) + x3) ∧
I32 (((σ 215 2) + x3) + 1) ∧
f_X12_sign_u69 Q σ s1 s2 (((σ 215 2) + x3) + 1)) ∧
(x2 ≠ 0 →
∀ _ : I32 (σ 215 2),
I32 ((σ 215 2) + x3) ∧
f_X12_sign_u69 Q σ s1 s2 ((σ 215 2) + x3))
def f_X12_sign_u26 (Q : ml_St → Prop) (σ : ml_St) (x1 : Int) (x2 : Int) (x3 : Int) (s1 : Int) (s2 : Int) (s3 : Int) : Prop :=
f_X12_joins σ s1 s2 s3 1 (fun σ1 =>
(x2 = 0 →
∀ _ : I32 (σ1 215 2),
I32 ((σ1 215 2) + x3) ∧
f_X12_sign_u48 Q σ1 x2 x3 x1 ((σ1 215 2) + x3)) ∧
(x2 ≠ 0 →
I32 (x3 + 1) ∧
f_X12_sign_u48 Q σ1 x2 x3 x1 (x3 + 1)))
def f_X12_sign_u0 (Q : ml_St → Prop) (σ : ml_St) (x1 : Int) (x2 : Int) (x3 : Int) : Prop :=
f_X12_straight σ x1 (fun σ1 =>
(x2 = 0 →
I32 (x3 + 1) ∧
f_X12_sign_u26 Q σ1 x1 x2 x3 x1 x3 (x3 + 1)) ∧
(x2 ≠ 0 →
∀ _ : I32 (σ1 215 2),
I32 ((σ1 215 2) + x3) ∧
I32 (((σ1 215 2) + x3) + 1) ∧
f_X12_sign_u26 Q σ1 x1 x2 x3 x1 x3 (((σ1 215 2) + x3) + 1)))
def f_X12_sign (σ : ml_St) (x1 : Int) (x2 : Int) (x3 : Int) (Q : ml_St → Prop) : Prop := f_X12_sign_u0 Q σ x1 x2 x3
def rm_X12_sign : Room := { frames := 2, cells := 0, slots := 0, locals := 47 }
set_option maxRecDepth 100000 in
set_option maxHeartbeats 4000000 in
theorem u_X12_sign_69 {p : Program} {e : Env} {s : State} {m : MethodId} {args : Array Value} {below : List Frame} {meth : Method} {c : Code} {base : Nat} {D : va_G} {cA : Nat → ClassId} {n : Nat} {l : Launch} {Q : ml_St → Prop} (X : ml_X p s m c meth args D cA cX12_sign 4 RX12 none) (hn : 256 ≤ n) (σ : ml_St) (s1 : Int) (s2 : Int) (s3 : Int) (h_s1 : I32 s1) (h_s2 : I32 s2) (h_s3 : I32 s3) (ls : Array Slot) (hl : lv_has ls 4 []) (hw : f_X12_sign_u69 Q σ s1 s2 s3) : ml_V p l e rm_X12_sign s m args below meth c (MQ below (ml_Qv base D cA n Q) args s 0 0 (ml_A base)) base D cA 0 0 n n σ (F0 m 69 ls [.int (Int32.ofInt s3), .int (Int32.ofInt s2), .int (Int32.ofInt s1), .ref (base + (215 : Int).toNat)]) := by
  unfold f_X12_sign_u69 at hw
  refine ml_lconst1 (pc := 69) X dX12_sign_69 ?_
  refine ml_callvV (pc := 70) (rest := []) X [.int (Int32.ofInt s1), .int (Int32.ofInt s2), .int (Int32.ofInt s3), .long (Int64.ofInt 1)] (by decide) rfl (ml_c215 hn) (c_X12_joins l base D cA n hn σ s1 s2 s3 1 h_s1 h_s2 h_s3 ⟨by decide, by decide⟩ _ hw) cv_X12_223 ⟨rfl, rfl⟩ ⟨by decide, by decide⟩ rfl rfl hl (Nat.le_of_ble_eq_true rfl) ⟨Nat.zero_le _, Nat.zero_le _⟩ dX12_sign_70 (fun σ1 hw => ?_)
  exact ml_vret (pc := 73) X hw dX12_sign_73
set_option maxRecDepth 100000 in
set_option maxHeartbeats 4000000 in
theorem u_X12_sign_48 {p : Program} {e : Env} {s : State} {m : MethodId} {args : Array Value} {below : List Frame} {meth : Method} {c : Code} {base : Nat} {D : va_G} {cA : Nat → ClassId} {n : Nat} {l : Launch} {Q : ml_St → Prop} (X : ml_X p s m c meth args D cA cX12_sign 4 RX12 none) (hn : 256 ≤ n) (σ : ml_St) (x2 : Int) (x3 : Int) (s1 : Int) (s2 : Int) (h_x2 : ml_B x2) (h_x3 : I32 x3) (h_s1 : I32 s1) (h_s2 : I32 s2) (ls : Array Slot) (hl : lv_has ls 4 [(0, .ref (base + (215 : Int).toNat)), (2, .int (Int32.ofInt x2)), (3, .int (Int32.ofInt x3))]) (hw : f_X12_sign_u48 Q σ x2 x3 s1 s2) : ml_V p l e rm_X12_sign s m args below meth c (MQ below (ml_Qv base D cA n Q) args s 0 0 (ml_A base)) base D cA 0 0 n n σ (F0 m 48 ls [.int (Int32.ofInt s2), .int (Int32.ofInt s1), .ref (base + (215 : Int).toNat)]) := by
  unfold f_X12_sign_u48 at hw
  refine ml_iload_n (pc := 48) X hl 1 rfl rfl dX12_sign_48 ?_
  refine ml_if_eq (pc := 49) (tgt := 61) X h_x2.i dX12_sign_49 (by decide) (fun c1 => ?_) (fun c1 => ?_)
  · have hw := hw.1 c1
    refine ml_aload_n (pc := 61) X hl 0 rfl rfl dX12_sign_61 ?_
    refine gf_X12_13 (pc := 62) X (ml_c215 hn) dX12_sign_62 (fun r2 => ?_)
    have hw := hw r2
    refine ml_iload_n (pc := 65) X hl 2 rfl rfl dX12_sign_65 ?_
    obtain ⟨v3, hw⟩ := hw
    refine ml_iadd (pc := 66) X dX12_sign_66 ?_
    refine ml_iconst (pc := 67) X dX12_sign_67 ?_
    obtain ⟨v4, hw⟩ := hw
    refine ml_iadd (pc := 68) X dX12_sign_68 ?_
    exact u_X12_sign_69 X hn σ s1 s2 (((σ 215 2) + x3) + 1) h_s1 h_s2 v4 _ (lv_sub hl [] rfl) hw
  · have hw := hw.2 c1
    refine ml_aload_n (pc := 52) X hl 0 rfl rfl dX12_sign_52 ?_
    refine gf_X12_13 (pc := 53) X (ml_c215 hn) dX12_sign_53 (fun r5 => ?_)
    have hw := hw r5
    refine ml_iload_n (pc := 56) X hl 2 rfl rfl dX12_sign_56 ?_
    obtain ⟨v6, hw⟩ := hw
    refine ml_iadd (pc := 57) X dX12_sign_57 ?_
    refine ml_goto (pc := 58) (tgt := 69) X dX12_sign_58 (by decide) ?_
    exact u_X12_sign_69 X hn σ s1 s2 ((σ 215 2) + x3) h_s1 h_s2 v6 _ (lv_sub hl [] rfl) hw
set_option maxRecDepth 100000 in
set_option maxHeartbeats 4000000 in
theorem u_X12_sign_26 {p : Program} {e : Env} {s : State} {m : MethodId} {args : Array Value} {below : List Frame} {meth : Method} {c : Code} {base : Nat} {D : va_G} {cA : Nat → ClassId} {n : Nat} {l : Launch} {Q : ml_St → Prop} (X : ml_X p s m c meth args D cA cX12_sign 4 RX12 none) (hn : 256 ≤ n) (σ : ml_St) (x1 : Int) (x2 : Int) (x3 : Int) (s1 : Int) (s2 : Int) (s3 : Int) (h_x1 : I32 x1) (h_x2 : ml_B x2) (h_x3 : I32 x3) (h_s1 : I32 s1) (h_s2 : I32 s2) (h_s3 : I32 s3) (ls : Array Slot) (hl : lv_has ls 4 [(0, .ref (base + (215 : Int).toNat)), (1, .int (Int32.ofInt x1)), (2, .int (Int32.ofInt x2)), (3, .int (Int32.ofInt x3))]) (hw : f_X12_sign_u26 Q σ x1 x2 x3 s1 s2 s3) : ml_V p l e rm_X12_sign s m args below meth c (MQ below (ml_Qv base D cA n Q) args s 0 0 (ml_A base)) base D cA 0 0 n n σ (F0 m 26 ls [.int (Int32.ofInt s3), .int (Int32.ofInt s2), .int (Int32.ofInt s1), .ref (base + (215 : Int).toNat)]) := by
  unfold f_X12_sign_u26 at hw
  refine ml_lconst1 (pc := 26) X dX12_sign_26 ?_
  refine ml_callvV (pc := 27) (rest := []) X [.int (Int32.ofInt s1), .int (Int32.ofInt s2), .int (Int32.ofInt s3), .long (Int64.ofInt 1)] (by decide) rfl (ml_c215 hn) (c_X12_joins l base D cA n hn σ s1 s2 s3 1 h_s1 h_s2 h_s3 ⟨by decide, by decide⟩ _ hw) cv_X12_223 ⟨rfl, rfl⟩ ⟨by decide, by decide⟩ rfl rfl hl (Nat.le_of_ble_eq_true rfl) ⟨Nat.zero_le _, Nat.zero_le _⟩ dX12_sign_27 (fun σ1 hw => ?_)
  refine ml_aload_n (pc := 30) X hl 0 rfl rfl dX12_sign_30 ?_
  refine ml_iload_n (pc := 31) X hl 1 rfl rfl dX12_sign_31 ?_
  refine ml_iload_n (pc := 32) X hl 2 rfl rfl dX12_sign_32 ?_
  refine ml_if_eq (pc := 33) (tgt := 42) X h_x2.i dX12_sign_33 (by decide) (fun c2 => ?_) (fun c2 => ?_)
  · have hw := hw.1 c2
    refine ml_aload_n (pc := 42) X hl 0 rfl rfl dX12_sign_42 ?_
    refine gf_X12_13 (pc := 43) X (ml_c215 hn) dX12_sign_43 (fun r3 => ?_)
    have hw := hw r3
    refine ml_iload_n (pc := 46) X hl 3 rfl rfl dX12_sign_46 ?_
    obtain ⟨v4, hw⟩ := hw
    refine ml_iadd (pc := 47) X dX12_sign_47 ?_
    exact u_X12_sign_48 X hn σ1 x2 x3 x1 ((σ1 215 2) + x3) h_x2 h_x3 h_x1 v4 _ (lv_sub hl [0, 2, 3] rfl) hw
  · have hw := hw.2 c2
    refine ml_iload_n (pc := 36) X hl 3 rfl rfl dX12_sign_36 ?_
    refine ml_iconst (pc := 37) X dX12_sign_37 ?_
    obtain ⟨v5, hw⟩ := hw
    refine ml_iadd (pc := 38) X dX12_sign_38 ?_
    refine ml_goto (pc := 39) (tgt := 48) X dX12_sign_39 (by decide) ?_
    exact u_X12_sign_48 X hn σ1 x2 x3 x1 (x3 + 1) h_x2 h_x3 h_x1 v5 _ (lv_sub hl [0, 2, 3] rfl) hw
set_option maxRecDepth 100000 in
set_option maxHeartbeats 4000000 in
theorem u_X12_sign_0 {p : Program} {e : Env} {s : State} {m : MethodId} {args : Array Value} {below : List Frame} {meth : Method} {c : Code} {base : Nat} {D : va_G} {cA : Nat → ClassId} {n : Nat} {l : Launch} {Q : ml_St → Prop} (X : ml_X p s m c meth args D cA cX12_sign 4 RX12 none) (hn : 256 ≤ n) (σ : ml_St) (x1 : Int) (x2 : Int) (x3 : Int) (h_x1 : I32 x1) (h_x2 : ml_B x2) (h_x3 : I32 x3) (ls : Array Slot) (hl : lv_has ls 4 [(0, .ref (base + (215 : Int).toNat)), (1, .int (Int32.ofInt x1)), (2, .int (Int32.ofInt x2)), (3, .int (Int32.ofInt x3))]) (hw : f_X12_sign_u0 Q σ x1 x2 x3) : ml_V p l e rm_X12_sign s m args below meth c (MQ below (ml_Qv base D cA n Q) args s 0 0 (ml_A base)) base D cA 0 0 n n σ (F0 m 0 ls []) := by
  unfold f_X12_sign_u0 at hw
  refine ml_aload_n (pc := 0) X hl 0 rfl rfl dX12_sign_0 ?_
  refine ml_iload_n (pc := 1) X hl 1 rfl rfl dX12_sign_1 ?_
  refine ml_callvV (pc := 2) (rest := []) X [.int (Int32.ofInt x1)] (by decide) rfl (ml_c215 hn) (c_X12_straight l base D cA n hn σ x1 h_x1 _ hw) cv_X12_227 ⟨rfl, rfl⟩ ⟨by decide, by decide⟩ rfl rfl hl (Nat.le_of_ble_eq_true rfl) ⟨Nat.zero_le _, Nat.zero_le _⟩ dX12_sign_2 (fun σ1 hw => ?_)
  refine ml_aload_n (pc := 5) X hl 0 rfl rfl dX12_sign_5 ?_
  refine ml_iload_n (pc := 6) X hl 1 rfl rfl dX12_sign_6 ?_
  refine ml_iload_n (pc := 7) X hl 3 rfl rfl dX12_sign_7 ?_
  refine ml_iload_n (pc := 8) X hl 2 rfl rfl dX12_sign_8 ?_
  refine ml_if_eq (pc := 9) (tgt := 23) X h_x2.i dX12_sign_9 (by decide) (fun c2 => ?_) (fun c2 => ?_)
  · have hw := hw.1 c2
    refine ml_iload_n (pc := 23) X hl 3 rfl rfl dX12_sign_23 ?_
    refine ml_iconst (pc := 24) X dX12_sign_24 ?_
    obtain ⟨v3, hw⟩ := hw
    refine ml_iadd (pc := 25) X dX12_sign_25 ?_
    exact u_X12_sign_26 X hn σ1 x1 x2 x3 x1 x3 (x3 + 1) h_x1 h_x2 h_x3 h_x1 h_x3 v3 _ (lv_sub hl [0, 1, 2, 3] rfl) hw
  · have hw := hw.2 c2
    refine ml_aload_n (pc := 12) X hl 0 rfl rfl dX12_sign_12 ?_
    refine gf_X12_13 (pc := 13) X (ml_c215 hn) dX12_sign_13 (fun r4 => ?_)
    have hw := hw r4
    refine ml_iload_n (pc := 16) X hl 3 rfl rfl dX12_sign_16 ?_
    obtain ⟨v5, hw⟩ := hw
    refine ml_iadd (pc := 17) X dX12_sign_17 ?_
    refine ml_iconst (pc := 18) X dX12_sign_18 ?_
    obtain ⟨v6, hw⟩ := hw
    refine ml_iadd (pc := 19) X dX12_sign_19 ?_
    refine ml_goto (pc := 20) (tgt := 26) X dX12_sign_20 (by decide) ?_
    exact u_X12_sign_26 X hn σ1 x1 x2 x3 x1 x3 (((σ1 215 2) + x3) + 1) h_x1 h_x2 h_x3 h_x1 h_x3 v6 _ (lv_sub hl [0, 1, 2, 3] rfl) hw
set_option maxRecDepth 100000 in
theorem c_X12_sign (l : Launch) (base : Nat) (D : va_G) (cA : Nat → ClassId) (n : Nat) (hn : 256 ≤ n) (σ : ml_St) (x1 : Int) (x2 : Int) (x3 : Int) (h_x1 : I32 x1) (h_x2 : ml_B x2) (h_x3 : I32 x3) (Q : ml_St → Prop) (hw : f_X12_sign σ x1 x2 x3 Q) : Met l yX12_sign (Cond.code yX12_sign cX12_sign 4 none :: ml_T) rm_X12_sign (va_Pc [.ref (base + (215 : Int).toNat), .int (Int32.ofInt x1), .int (Int32.ofInt x2), .int (Int32.ofInt x3)] (ml_U base D cA n σ)) (ml_Qv base D cA n Q) 0 0 (ml_A base) := by
  refine Met.ofW (cc := cX12_sign) (maxL := 4) (ret := none) (by decide) rfl ?_
  intro p e s m args below meth c s₁ B hml hv
  obtain ⟨rfl, hP, hK, hok, hro⟩ := hv
  have X : ml_X p s m c meth _ D cA cX12_sign 4 RX12 none := ⟨B.exec, B.bytes, hml, findClass_of_methodNamed B.named, fun w hw => atoms_spec (ws := Cond.code yX12_sign cX12_sign 4 none :: ml_T) B.pre w (List.mem_cons_of_mem _ hw), hK, B.notSynchronized, B.returns⟩
  have hl := lv_entry [.ref (base + (215 : Int).toNat), .int (Int32.ofInt x1), .int (Int32.ofInt x2), .int (Int32.ofInt x3)] (n := 4) (Nat.le_of_ble_eq_true rfl)
  rw [lg_entry_eq]
  generalize (lg_sl [.ref (base + (215 : Int).toNat), .int (Int32.ofInt x1), .int (Int32.ofInt x2), .int (Int32.ofInt x3)] ++ List.replicate (4 - (lg_sl [.ref (base + (215 : Int).toNat), .int (Int32.ofInt x1), .int (Int32.ofInt x2), .int (Int32.ofInt x3)]).length) Slot.unset).toArray = ls at hl ⊢
  have hl : lv_has ls 4 [(0, .ref (base + (215 : Int).toNat)), (1, .int (Int32.ofInt x1)), (2, .int (Int32.ofInt x2)), (3, .int (Int32.ofInt x3))] := hl
  unfold f_X12_sign at hw
  exact u_X12_sign_0 X hn σ x1 x2 x3 h_x1 h_x2 h_x3 _ (lv_sub hl [0, 1, 2, 3] rfl) hw s.heap [] hP va_S.rf hok hro
theorem dX12_makes_0 : decode cX12_makes 0 = .ok (.iconst 0, 1) := by decide +kernel
theorem dX12_makes_1 : decode cX12_makes 1 = .ok (.istore_n 2, 1) := by decide +kernel
theorem dX12_makes_2 : decode cX12_makes 2 = .ok (.aload_n 0, 1) := by decide +kernel
theorem dX12_makes_3 : decode cX12_makes 3 = .ok (.iload_n 1, 1) := by decide +kernel
theorem dX12_makes_4 : decode cX12_makes 4 = .ok (.putfield 201, 3) := by decide +kernel
theorem dX12_makes_7 : decode cX12_makes 7 = .ok (.aload_n 0, 1) := by decide +kernel
theorem dX12_makes_8 : decode cX12_makes 8 = .ok (.iconst 0, 1) := by decide +kernel
theorem dX12_makes_9 : decode cX12_makes 9 = .ok (.putfield 198, 3) := by decide +kernel
theorem dX12_makes_12 : decode cX12_makes 12 = .ok (.aload_n 0, 1) := by decide +kernel
theorem dX12_makes_13 : decode cX12_makes 13 = .ok (.bipush 16, 2) := by decide +kernel
theorem dX12_makes_15 : decode cX12_makes 15 = .ok (.invokevirtual 227, 3) := by decide +kernel
theorem dX12_makes_18 : decode cX12_makes 18 = .ok (.aload_n 0, 1) := by decide +kernel
theorem dX12_makes_19 : decode cX12_makes 19 = .ok (.bipush 17, 2) := by decide +kernel
theorem dX12_makes_21 : decode cX12_makes 21 = .ok (.invokevirtual 227, 3) := by decide +kernel
theorem dX12_makes_24 : decode cX12_makes 24 = .ok (.aload_n 0, 1) := by decide +kernel
theorem dX12_makes_25 : decode cX12_makes 25 = .ok (.getfield 198, 3) := by decide +kernel
theorem dX12_makes_28 : decode cX12_makes 28 = .ok (.aload_n 0, 1) := by decide +kernel
theorem dX12_makes_29 : decode cX12_makes 29 = .ok (.getfield 24, 3) := by decide +kernel
theorem dX12_makes_32 : decode cX12_makes 32 = .ok (.iload_n 1, 1) := by decide +kernel
theorem dX12_makes_33 : decode cX12_makes 33 = .ok (.iaload, 1) := by decide +kernel
theorem dX12_makes_34 : decode cX12_makes 34 = .ok (.if_icmp .ge 190, 3) := by decide +kernel
theorem dX12_makes_37 : decode cX12_makes 37 = .ok (.aload_n 0, 1) := by decide +kernel
theorem dX12_makes_38 : decode cX12_makes 38 = .ok (.invokevirtual 204, 3) := by decide +kernel
theorem dX12_makes_41 : decode cX12_makes 41 = .ok (.istore_n 3, 1) := by decide +kernel
theorem dX12_makes_42 : decode cX12_makes 42 = .ok (.aload_n 0, 1) := by decide +kernel
theorem dX12_makes_43 : decode cX12_makes 43 = .ok (.dup, 1) := by decide +kernel
theorem dX12_makes_44 : decode cX12_makes 44 = .ok (.getfield 198, 3) := by decide +kernel
theorem dX12_makes_47 : decode cX12_makes 47 = .ok (.iconst 1, 1) := by decide +kernel
theorem dX12_makes_48 : decode cX12_makes 48 = .ok (.iadd, 1) := by decide +kernel
theorem dX12_makes_49 : decode cX12_makes 49 = .ok (.putfield 198, 3) := by decide +kernel
theorem dX12_makes_52 : decode cX12_makes 52 = .ok (.iload_n 3, 1) := by decide +kernel
theorem dX12_makes_53 : decode cX12_makes 53 = .ok (.bipush 42, 2) := by decide +kernel
theorem dX12_makes_55 : decode cX12_makes 55 = .ok (.if_icmp .ne 24, 3) := by decide +kernel
theorem dX12_makes_58 : decode cX12_makes 58 = .ok (.aload_n 0, 1) := by decide +kernel
theorem dX12_makes_59 : decode cX12_makes 59 = .ok (.invokevirtual 207, 3) := by decide +kernel
theorem dX12_makes_62 : decode cX12_makes 62 = .ok (.istore 4, 2) := by decide +kernel
theorem dX12_makes_64 : decode cX12_makes 64 = .ok (.aload_n 0, 1) := by decide +kernel
theorem dX12_makes_65 : decode cX12_makes 65 = .ok (.bipush 17, 2) := by decide +kernel
theorem dX12_makes_67 : decode cX12_makes 67 = .ok (.iconst 2, 1) := by decide +kernel
theorem dX12_makes_68 : decode cX12_makes 68 = .ok (.iload_n 2, 1) := by decide +kernel
theorem dX12_makes_69 : decode cX12_makes 69 = .ok (.imul, 1) := by decide +kernel
theorem dX12_makes_70 : decode cX12_makes 70 = .ok (.iadd, 1) := by decide +kernel
theorem dX12_makes_71 : decode cX12_makes 71 = .ok (.iload 4, 2) := by decide +kernel
theorem dX12_makes_73 : decode cX12_makes 73 = .ok (.invokevirtual 249, 3) := by decide +kernel
theorem dX12_makes_76 : decode cX12_makes 76 = .ok (.goto (-52), 3) := by decide +kernel
theorem dX12_makes_79 : decode cX12_makes 79 = .ok (.aload_n 0, 1) := by decide +kernel
theorem dX12_makes_80 : decode cX12_makes 80 = .ok (.iload_n 2, 1) := by decide +kernel
theorem dX12_makes_81 : decode cX12_makes 81 = .ok (.invokevirtual 252, 3) := by decide +kernel
theorem dX12_makes_84 : decode cX12_makes 84 = .ok (.iload_n 3, 1) := by decide +kernel
theorem dX12_makes_85 : decode cX12_makes 85 = .ok (.bipush 40, 2) := by decide +kernel
theorem dX12_makes_87 : decode cX12_makes 87 = .ok (.if_icmp .ne 39, 3) := by decide +kernel
theorem dX12_makes_90 : decode cX12_makes 90 = .ok (.aload_n 0, 1) := by decide +kernel
theorem dX12_makes_91 : decode cX12_makes 91 = .ok (.bipush 17, 2) := by decide +kernel
theorem dX12_makes_93 : decode cX12_makes 93 = .ok (.iconst 2, 1) := by decide +kernel
theorem dX12_makes_94 : decode cX12_makes 94 = .ok (.iload_n 2, 1) := by decide +kernel
theorem dX12_makes_95 : decode cX12_makes 95 = .ok (.imul, 1) := by decide +kernel
theorem dX12_makes_96 : decode cX12_makes 96 = .ok (.iadd, 1) := by decide +kernel
theorem dX12_makes_97 : decode cX12_makes 97 = .ok (.invokevirtual 227, 3) := by decide +kernel
theorem dX12_makes_100 : decode cX12_makes 100 = .ok (.iinc 2 1, 3) := by decide +kernel
theorem dX12_makes_103 : decode cX12_makes 103 = .ok (.aload_n 0, 1) := by decide +kernel
theorem dX12_makes_104 : decode cX12_makes 104 = .ok (.bipush 16, 2) := by decide +kernel
theorem dX12_makes_106 : decode cX12_makes 106 = .ok (.iconst 2, 1) := by decide +kernel
theorem dX12_makes_107 : decode cX12_makes 107 = .ok (.iload_n 2, 1) := by decide +kernel
theorem dX12_makes_108 : decode cX12_makes 108 = .ok (.imul, 1) := by decide +kernel
theorem dX12_makes_109 : decode cX12_makes 109 = .ok (.iadd, 1) := by decide +kernel
theorem dX12_makes_110 : decode cX12_makes 110 = .ok (.invokevirtual 227, 3) := by decide +kernel
theorem dX12_makes_113 : decode cX12_makes 113 = .ok (.aload_n 0, 1) := by decide +kernel
theorem dX12_makes_114 : decode cX12_makes 114 = .ok (.bipush 17, 2) := by decide +kernel
theorem dX12_makes_116 : decode cX12_makes 116 = .ok (.iconst 2, 1) := by decide +kernel
theorem dX12_makes_117 : decode cX12_makes 117 = .ok (.iload_n 2, 1) := by decide +kernel
theorem dX12_makes_118 : decode cX12_makes 118 = .ok (.imul, 1) := by decide +kernel
theorem dX12_makes_119 : decode cX12_makes 119 = .ok (.iadd, 1) := by decide +kernel
theorem dX12_makes_120 : decode cX12_makes 120 = .ok (.invokevirtual 227, 3) := by decide +kernel
theorem dX12_makes_123 : decode cX12_makes 123 = .ok (.goto 98, 3) := by decide +kernel
theorem dX12_makes_126 : decode cX12_makes 126 = .ok (.iload_n 3, 1) := by decide +kernel
theorem dX12_makes_127 : decode cX12_makes 127 = .ok (.bipush 41, 2) := by decide +kernel
theorem dX12_makes_129 : decode cX12_makes 129 = .ok (.if_icmp .ne 25, 3) := by decide +kernel
theorem dX12_makes_132 : decode cX12_makes 132 = .ok (.iinc 2 (-1), 3) := by decide +kernel
theorem dX12_makes_135 : decode cX12_makes 135 = .ok (.aload_n 0, 1) := by decide +kernel
theorem dX12_makes_136 : decode cX12_makes 136 = .ok (.bipush 18, 2) := by decide +kernel
theorem dX12_makes_138 : decode cX12_makes 138 = .ok (.iconst 2, 1) := by decide +kernel
theorem dX12_makes_139 : decode cX12_makes 139 = .ok (.iload_n 2, 1) := by decide +kernel
theorem dX12_makes_140 : decode cX12_makes 140 = .ok (.imul, 1) := by decide +kernel
theorem dX12_makes_141 : decode cX12_makes 141 = .ok (.iadd, 1) := by decide +kernel
theorem dX12_makes_142 : decode cX12_makes 142 = .ok (.bipush 17, 2) := by decide +kernel
theorem dX12_makes_144 : decode cX12_makes 144 = .ok (.iconst 2, 1) := by decide +kernel
theorem dX12_makes_145 : decode cX12_makes 145 = .ok (.iload_n 2, 1) := by decide +kernel
theorem dX12_makes_146 : decode cX12_makes 146 = .ok (.imul, 1) := by decide +kernel
theorem dX12_makes_147 : decode cX12_makes 147 = .ok (.iadd, 1) := by decide +kernel
theorem dX12_makes_148 : decode cX12_makes 148 = .ok (.invokevirtual 242, 3) := by decide +kernel
theorem dX12_makes_151 : decode cX12_makes 151 = .ok (.goto 70, 3) := by decide +kernel
theorem dX12_makes_154 : decode cX12_makes 154 = .ok (.iload_n 3, 1) := by decide +kernel
theorem dX12_makes_155 : decode cX12_makes 155 = .ok (.bipush 120, 2) := by decide +kernel
theorem dX12_makes_157 : decode cX12_makes 157 = .ok (.if_icmp .eq 9, 3) := by decide +kernel
theorem dX12_makes_160 : decode cX12_makes 160 = .ok (.iload_n 3, 1) := by decide +kernel
theorem dX12_makes_161 : decode cX12_makes 161 = .ok (.bipush 117, 2) := by decide +kernel
theorem dX12_makes_163 : decode cX12_makes 163 = .ok (.if_icmp .ne 44, 3) := by decide +kernel
theorem dX12_makes_166 : decode cX12_makes 166 = .ok (.aload_n 0, 1) := by decide +kernel
theorem dX12_makes_167 : decode cX12_makes 167 = .ok (.bipush 17, 2) := by decide +kernel
theorem dX12_makes_169 : decode cX12_makes 169 = .ok (.iconst 2, 1) := by decide +kernel
theorem dX12_makes_170 : decode cX12_makes 170 = .ok (.iload_n 2, 1) := by decide +kernel
theorem dX12_makes_171 : decode cX12_makes 171 = .ok (.imul, 1) := by decide +kernel
theorem dX12_makes_172 : decode cX12_makes 172 = .ok (.iadd, 1) := by decide +kernel
theorem dX12_makes_173 : decode cX12_makes 173 = .ok (.iload_n 3, 1) := by decide +kernel
theorem dX12_makes_174 : decode cX12_makes 174 = .ok (.bipush 120, 2) := by decide +kernel
theorem dX12_makes_176 : decode cX12_makes 176 = .ok (.if_icmp .ne 7, 3) := by decide +kernel
theorem dX12_makes_179 : decode cX12_makes 179 = .ok (.iconst 1, 1) := by decide +kernel
theorem dX12_makes_180 : decode cX12_makes 180 = .ok (.goto 4, 3) := by decide +kernel
theorem dX12_makes_183 : decode cX12_makes 183 = .ok (.iconst 0, 1) := by decide +kernel
theorem dX12_makes_184 : decode cX12_makes 184 = .ok (.aload_n 0, 1) := by decide +kernel
theorem dX12_makes_185 : decode cX12_makes 185 = .ok (.invokevirtual 204, 3) := by decide +kernel
theorem dX12_makes_188 : decode cX12_makes 188 = .ok (.bipush 48, 2) := by decide +kernel
theorem dX12_makes_190 : decode cX12_makes 190 = .ok (.isub, 1) := by decide +kernel
theorem dX12_makes_191 : decode cX12_makes 191 = .ok (.invokevirtual 255, 3) := by decide +kernel
theorem dX12_makes_194 : decode cX12_makes 194 = .ok (.aload_n 0, 1) := by decide +kernel
theorem dX12_makes_195 : decode cX12_makes 195 = .ok (.dup, 1) := by decide +kernel
theorem dX12_makes_196 : decode cX12_makes 196 = .ok (.getfield 198, 3) := by decide +kernel
theorem dX12_makes_199 : decode cX12_makes 199 = .ok (.iconst 1, 1) := by decide +kernel
theorem dX12_makes_200 : decode cX12_makes 200 = .ok (.iadd, 1) := by decide +kernel
theorem dX12_makes_201 : decode cX12_makes 201 = .ok (.putfield 198, 3) := by decide +kernel
theorem dX12_makes_204 : decode cX12_makes 204 = .ok (.goto 17, 3) := by decide +kernel
theorem dX12_makes_207 : decode cX12_makes 207 = .ok (.aload_n 0, 1) := by decide +kernel
theorem dX12_makes_208 : decode cX12_makes 208 = .ok (.iload_n 3, 1) := by decide +kernel
theorem dX12_makes_209 : decode cX12_makes 209 = .ok (.bipush 65, 2) := by decide +kernel
theorem dX12_makes_211 : decode cX12_makes 211 = .ok (.isub, 1) := by decide +kernel
theorem dX12_makes_212 : decode cX12_makes 212 = .ok (.bipush 17, 2) := by decide +kernel
theorem dX12_makes_214 : decode cX12_makes 214 = .ok (.iconst 2, 1) := by decide +kernel
theorem dX12_makes_215 : decode cX12_makes 215 = .ok (.iload_n 2, 1) := by decide +kernel
theorem dX12_makes_216 : decode cX12_makes 216 = .ok (.imul, 1) := by decide +kernel
theorem dX12_makes_217 : decode cX12_makes 217 = .ok (.iadd, 1) := by decide +kernel
theorem dX12_makes_218 : decode cX12_makes 218 = .ok (.invokevirtual 242, 3) := by decide +kernel
theorem dX12_makes_221 : decode cX12_makes 221 = .ok (.goto (-197), 3) := by decide +kernel
theorem dX12_makes_224 : decode cX12_makes 224 = .ok (.aload_n 0, 1) := by decide +kernel
theorem dX12_makes_225 : decode cX12_makes 225 = .ok (.iconst 0, 1) := by decide +kernel
theorem dX12_makes_226 : decode cX12_makes 226 = .ok (.invokevirtual 252, 3) := by decide +kernel
theorem dX12_makes_229 : decode cX12_makes 229 = .ok (.aload_n 0, 1) := by decide +kernel
theorem dX12_makes_230 : decode cX12_makes 230 = .ok (.bipush 16, 2) := by decide +kernel
theorem dX12_makes_232 : decode cX12_makes 232 = .ok (.iload_n 1, 1) := by decide +kernel
theorem dX12_makes_233 : decode cX12_makes 233 = .ok (.invokevirtual 242, 3) := by decide +kernel
theorem dX12_makes_236 : decode cX12_makes 236 = .ok (.return_, 1) := by decide +kernel
def f_X12_makes_u221 (Q : ml_St → Prop) (K24 : ml_St → Int → Int → Prop) (σ : ml_St) (x1 : Int) (x2 : Int) : Prop :=
K24 σ x1 x2
def f_X12_makes_u184 (Q : ml_St → Prop) (K24 : ml_St → Int → Int → Prop) (σ : ml_St) (x1 : Int) (x2 : Int) (s1 : Int) (s2 : Int) : Prop :=
f_X12_read σ (fun r1 σ1 => ∀ _ : I32 r1,
I32 (r1 - 48) ∧
f_X12_sign σ1 s1 s2 (r1 - 48) (fun σ3 =>
∀ _ : I32 (σ3 215 19),
I32 ((σ3 215 19) + 1) ∧
∀ σ6, σ6 = ml_up σ3 215 19 ((σ3 215 19) + 1) →
f_X12_makes_u221 Q K24 σ6 x1 x2))
def f_X12_makes_u166 (Q : ml_St → Prop) (K24 : ml_St → Int → Int → Prop) (σ : ml_St) (x1 : Int) (x2 : Int) (x3 : Int) : Prop :=
I32 (2 * x2) ∧
I32 (17 + (2 * x2)) ∧
(x3 ≠ 120 →
f_X12_makes_u184 Q K24 σ x1 x2 (17 + (2 * x2)) 0) ∧
(x3 = 120 →
f_X12_makes_u184 Q K24 σ x1 x2 (17 + (2 * x2)) 1)
def f_X12_makes_u24 (Q : ml_St → Prop) (K224 : ml_St → Int → Prop) : Nat → ml_St → Int → Int → Prop
| 0, _, _, _ => False
| N + 1, σ, x1, x2 =>
∀ _ : I32 (σ 215 19),
(0 : Int) ≤ x1 ∧ (x1 : Int) < 16 ∧
∀ _ : I32 (σ 219 x1),
((σ 219 x1) ≤ ((σ 215 19) : Int) →
K224 σ x1) ∧
(¬ ((σ 219 x1) ≤ ((σ 215 19) : Int)) →
f_X12_read σ (fun r4 σ4 => ∀ _ : I32 r4,
∀ _ : I32 (σ4 215 19),
I32 ((σ4 215 19) + 1) ∧
∀ σ7, σ7 = ml_up σ4 215 19 ((σ4 215 19) + 1) →
(r4 ≠ 42 →
f_X12_goesOn σ7 x2 (fun σ9 =>
(r4 ≠ 40 →
(r4 ≠ 41 →
(r4 = 120 →
f_X12_makes_u166 Q (f_X12_makes_u24 Q K224 N) σ9 x1 x2 r4) ∧
(r4 ≠ 120 →
(r4 ≠ 117 →
I32 (r4 - 65) ∧
I32 (2 * x2) ∧
I32 (17 + (2 * x2)) ∧
f_X12_copies σ9 (r4 - 65) (17 + (2 * x2)) (fun σ17 =>
f_X12_makes_u221 Q (f_X12_makes_u24 Q K224 N) σ17 x1 x2)) ∧
(r4 = 117 →
f_X12_makes_u166 Q (f_X12_makes_u24 Q K224 N) σ9 x1 x2 r4))) ∧
(r4 = 41 →
I32 (x2 + (-1)) ∧
∀ y18 : Int, y18 = x2 + (-1) →
I32 (2 * y18) ∧
I32 (18 + (2 * y18)) ∧
I32 (2 * y18) ∧
I32 (17 + (2 * y18)) ∧
f_X12_copies σ9 (18 + (2 * y18)) (17 + (2 * y18)) (fun σ23 =>
f_X12_makes_u221 Q (f_X12_makes_u24 Q K224 N) σ23 x1 y18))) ∧
(r4 = 40 →
I32 (2 * x2) ∧
I32 (17 + (2 * x2)) ∧
f_X12_straight σ9 (17 + (2 * x2)) (fun σ26 =>
I32 (x2 + 1) ∧
∀ y27 : Int, y27 = x2 + 1 →
I32 (2 * y27) ∧
I32 (16 + (2 * y27)) ∧
f_X12_straight σ26 (16 + (2 * y27)) (fun σ30 =>
I32 (2 * y27) ∧
I32 (17 + (2 * y27)) ∧
f_X12_straight σ30 (17 + (2 * y27)) (fun σ33 =>
f_X12_makes_u221 Q (f_X12_makes_u24 Q K224 N) σ33 x1 y27)))))) ∧
(r4 = 42 →
f_X12_readNumber σ7 (fun r34 σ34 => ∀ _ : I32 r34,
I32 (2 * x2) ∧
I32 (17 + (2 * x2)) ∧
f_X12_repeats σ34 (17 + (2 * x2)) r34 (fun σ37 =>
f_X12_makes_u24 Q K224 N σ37 x1 x2)))))
def f_X12_makes_u224 (Q : ml_St → Prop) (σ : ml_St) (x1 : Int) : Prop :=
f_X12_goesOn σ 0 (fun σ1 =>
f_X12_copies σ1 16 x1 (fun σ2 =>
Q σ2))
def f_X12_makes_u0 (Q : ml_St → Prop) (σ : ml_St) (x1 : Int) : Prop :=
∀ σ1, σ1 = ml_up σ 215 20 x1 →
∀ σ2, σ2 = ml_up σ1 215 19 0 →
f_X12_straight σ2 16 (fun σ3 =>
f_X12_straight σ3 17 (fun σ4 =>
∃ N1, f_X12_makes_u24 Q (f_X12_makes_u224 Q) N1 σ4 x1 0))
def f_X12_makes (σ : ml_St) (x1 : Int) (Q : ml_St → Prop) : Prop := f_X12_makes_u0 Q σ x1
def rm_X12_makes : Room := { frames := 3, cells := 0, slots := 0, locals := 76 }
set_option maxRecDepth 100000 in
set_option maxHeartbeats 4000000 in
theorem u_X12_makes_221 {p : Program} {e : Env} {s : State} {m : MethodId} {args : Array Value} {below : List Frame} {meth : Method} {c : Code} {base : Nat} {D : va_G} {cA : Nat → ClassId} {n : Nat} {l : Launch} {Q : ml_St → Prop} {K24 : ml_St → Int → Int → Prop} (X : ml_X p s m c meth args D cA cX12_makes 5 RX12 none) (hn : 256 ≤ n) (hK24 : ∀ (σ : ml_St) (x1 : Int) (x2 : Int) (h_x1 : I32 x1) (h_x2 : I32 x2) (ls : Array Slot), lv_has ls 5 [(0, .ref (base + (215 : Int).toNat)), (1, .int (Int32.ofInt x1)), (2, .int (Int32.ofInt x2))] → K24 σ x1 x2 → ml_V p l e rm_X12_makes s m args below meth c (MQ below (ml_Qv base D cA n Q) args s 0 0 (ml_A base)) base D cA 0 0 n n σ (F0 m 24 ls [])) (σ : ml_St) (x1 : Int) (x2 : Int) (h_x1 : I32 x1) (h_x2 : I32 x2) (ls : Array Slot) (hl : lv_has ls 5 [(0, .ref (base + (215 : Int).toNat)), (1, .int (Int32.ofInt x1)), (2, .int (Int32.ofInt x2))]) (hw : f_X12_makes_u221 Q K24 σ x1 x2) : ml_V p l e rm_X12_makes s m args below meth c (MQ below (ml_Qv base D cA n Q) args s 0 0 (ml_A base)) base D cA 0 0 n n σ (F0 m 221 ls []) := by
  unfold f_X12_makes_u221 at hw
  refine ml_goto (pc := 221) (tgt := 24) X dX12_makes_221 (by decide) ?_
  exact hK24 σ x1 x2 h_x1 h_x2 _ (lv_sub hl [0, 1, 2] rfl) hw
set_option maxRecDepth 100000 in
set_option maxHeartbeats 4000000 in
theorem u_X12_makes_184 {p : Program} {e : Env} {s : State} {m : MethodId} {args : Array Value} {below : List Frame} {meth : Method} {c : Code} {base : Nat} {D : va_G} {cA : Nat → ClassId} {n : Nat} {l : Launch} {Q : ml_St → Prop} {K24 : ml_St → Int → Int → Prop} (X : ml_X p s m c meth args D cA cX12_makes 5 RX12 none) (hn : 256 ≤ n) (hK24 : ∀ (σ : ml_St) (x1 : Int) (x2 : Int) (h_x1 : I32 x1) (h_x2 : I32 x2) (ls : Array Slot), lv_has ls 5 [(0, .ref (base + (215 : Int).toNat)), (1, .int (Int32.ofInt x1)), (2, .int (Int32.ofInt x2))] → K24 σ x1 x2 → ml_V p l e rm_X12_makes s m args below meth c (MQ below (ml_Qv base D cA n Q) args s 0 0 (ml_A base)) base D cA 0 0 n n σ (F0 m 24 ls [])) (σ : ml_St) (x1 : Int) (x2 : Int) (s1 : Int) (s2 : Int) (h_x1 : I32 x1) (h_x2 : I32 x2) (h_s1 : I32 s1) (h_s2 : ml_B s2) (ls : Array Slot) (hl : lv_has ls 5 [(0, .ref (base + (215 : Int).toNat)), (1, .int (Int32.ofInt x1)), (2, .int (Int32.ofInt x2))]) (hw : f_X12_makes_u184 Q K24 σ x1 x2 s1 s2) : ml_V p l e rm_X12_makes s m args below meth c (MQ below (ml_Qv base D cA n Q) args s 0 0 (ml_A base)) base D cA 0 0 n n σ (F0 m 184 ls [.int (Int32.ofInt s2), .int (Int32.ofInt s1), .ref (base + (215 : Int).toNat)]) := by
  unfold f_X12_makes_u184 at hw
  refine ml_aload_n (pc := 184) X hl 0 rfl rfl dX12_makes_184 ?_
  refine ml_calliV (pc := 185) (rest := [.int (Int32.ofInt s2), .int (Int32.ofInt s1), .ref (base + (215 : Int).toNat)]) X [] (by decide) rfl (ml_c215 hn) (c_X12_read l base D cA n hn σ _ hw) cv_X12_204 ⟨rfl, rfl⟩ ⟨by decide, by decide⟩ rfl rfl hl (Nat.le_of_ble_eq_true rfl) ⟨Nat.zero_le _, Nat.zero_le _⟩ dX12_makes_185 (fun r1 σ1 t1 hw => ?_)
  have hw := hw t1
  refine ml_bipush (pc := 188) X dX12_makes_188 (by decide) ?_
  obtain ⟨v2, hw⟩ := hw
  refine ml_isub (pc := 190) X dX12_makes_190 ?_
  refine ml_callvV (pc := 191) (rest := []) X [.int (Int32.ofInt s1), .int (Int32.ofInt s2), .int (Int32.ofInt (r1 - 48))] (by decide) rfl (ml_c215 hn) (c_X12_sign l base D cA n hn σ1 s1 s2 (r1 - 48) h_s1 h_s2 v2 _ hw) cv_X12_255 ⟨rfl, rfl⟩ ⟨by decide, by decide⟩ rfl rfl hl (Nat.le_of_ble_eq_true rfl) ⟨Nat.zero_le _, Nat.zero_le _⟩ dX12_makes_191 (fun σ3 hw => ?_)
  refine ml_aload_n (pc := 194) X hl 0 rfl rfl dX12_makes_194 ?_
  refine ml_dup (pc := 195) X dX12_makes_195 rfl ?_
  refine gf_X12_198 (pc := 196) X (ml_c215 hn) dX12_makes_196 (fun r4 => ?_)
  have hw := hw r4
  refine ml_iconst (pc := 199) X dX12_makes_199 ?_
  obtain ⟨v5, hw⟩ := hw
  refine ml_iadd (pc := 200) X dX12_makes_200 ?_
  refine pf_X12_198 (pc := 201) X (ml_c215 hn) v5 dX12_makes_201 (fun σ6 g6 => ?_)
  have hw := hw σ6 g6
  refine ml_goto (pc := 204) (tgt := 221) X dX12_makes_204 (by decide) ?_
  exact u_X12_makes_221 X hn hK24 σ6 x1 x2 h_x1 h_x2 _ (lv_sub hl [0, 1, 2] rfl) hw
set_option maxRecDepth 100000 in
set_option maxHeartbeats 4000000 in
theorem u_X12_makes_166 {p : Program} {e : Env} {s : State} {m : MethodId} {args : Array Value} {below : List Frame} {meth : Method} {c : Code} {base : Nat} {D : va_G} {cA : Nat → ClassId} {n : Nat} {l : Launch} {Q : ml_St → Prop} {K24 : ml_St → Int → Int → Prop} (X : ml_X p s m c meth args D cA cX12_makes 5 RX12 none) (hn : 256 ≤ n) (hK24 : ∀ (σ : ml_St) (x1 : Int) (x2 : Int) (h_x1 : I32 x1) (h_x2 : I32 x2) (ls : Array Slot), lv_has ls 5 [(0, .ref (base + (215 : Int).toNat)), (1, .int (Int32.ofInt x1)), (2, .int (Int32.ofInt x2))] → K24 σ x1 x2 → ml_V p l e rm_X12_makes s m args below meth c (MQ below (ml_Qv base D cA n Q) args s 0 0 (ml_A base)) base D cA 0 0 n n σ (F0 m 24 ls [])) (σ : ml_St) (x1 : Int) (x2 : Int) (x3 : Int) (h_x1 : I32 x1) (h_x2 : I32 x2) (h_x3 : I32 x3) (ls : Array Slot) (hl : lv_has ls 5 [(0, .ref (base + (215 : Int).toNat)), (1, .int (Int32.ofInt x1)), (2, .int (Int32.ofInt x2)), (3, .int (Int32.ofInt x3))]) (hw : f_X12_makes_u166 Q K24 σ x1 x2 x3) : ml_V p l e rm_X12_makes s m args below meth c (MQ below (ml_Qv base D cA n Q) args s 0 0 (ml_A base)) base D cA 0 0 n n σ (F0 m 166 ls []) := by
  unfold f_X12_makes_u166 at hw
  refine ml_aload_n (pc := 166) X hl 0 rfl rfl dX12_makes_166 ?_
  refine ml_bipush (pc := 167) X dX12_makes_167 (by decide) ?_
  refine ml_iconst (pc := 169) X dX12_makes_169 ?_
  refine ml_iload_n (pc := 170) X hl 2 rfl rfl dX12_makes_170 ?_
  obtain ⟨v1, hw⟩ := hw
  refine ml_imul (pc := 171) X dX12_makes_171 ?_
  obtain ⟨v2, hw⟩ := hw
  refine ml_iadd (pc := 172) X dX12_makes_172 ?_
  refine ml_iload_n (pc := 173) X hl 3 rfl rfl dX12_makes_173 ?_
  refine ml_bipush (pc := 174) X dX12_makes_174 (by decide) ?_
  refine ml_icmp_ne (pc := 176) (tgt := 183) X h_x3 ⟨by decide, by decide⟩ dX12_makes_176 (by decide) (fun c3 => ?_) (fun c3 => ?_)
  · have hw := hw.1 c3
    refine ml_iconst (pc := 183) X dX12_makes_183 ?_
    exact u_X12_makes_184 X hn hK24 σ x1 x2 (17 + (2 * x2)) 0 h_x1 h_x2 v2 ⟨by decide, by decide⟩ _ (lv_sub hl [0, 1, 2] rfl) hw
  · have hw := hw.2 c3
    refine ml_iconst (pc := 179) X dX12_makes_179 ?_
    refine ml_goto (pc := 180) (tgt := 184) X dX12_makes_180 (by decide) ?_
    exact u_X12_makes_184 X hn hK24 σ x1 x2 (17 + (2 * x2)) 1 h_x1 h_x2 v2 ⟨by decide, by decide⟩ _ (lv_sub hl [0, 1, 2] rfl) hw
set_option maxRecDepth 100000 in
set_option maxHeartbeats 4000000 in
theorem u_X12_makes_24 {p : Program} {e : Env} {s : State} {m : MethodId} {args : Array Value} {below : List Frame} {meth : Method} {c : Code} {base : Nat} {D : va_G} {cA : Nat → ClassId} {n : Nat} {l : Launch} {Q : ml_St → Prop} {K224 : ml_St → Int → Prop} (X : ml_X p s m c meth args D cA cX12_makes 5 RX12 none) (hn : 256 ≤ n) (hK224 : ∀ (σ : ml_St) (x1 : Int) (h_x1 : I32 x1) (ls : Array Slot), lv_has ls 5 [(0, .ref (base + (215 : Int).toNat)), (1, .int (Int32.ofInt x1))] → K224 σ x1 → ml_V p l e rm_X12_makes s m args below meth c (MQ below (ml_Qv base D cA n Q) args s 0 0 (ml_A base)) base D cA 0 0 n n σ (F0 m 224 ls [])) : ∀ (N : Nat) (σ : ml_St) (x1 : Int) (x2 : Int) (h_x1 : I32 x1) (h_x2 : I32 x2) (ls : Array Slot), lv_has ls 5 [(0, .ref (base + (215 : Int).toNat)), (1, .int (Int32.ofInt x1)), (2, .int (Int32.ofInt x2))] → f_X12_makes_u24 Q K224 N σ x1 x2 → ml_V p l e rm_X12_makes s m args below meth c (MQ below (ml_Qv base D cA n Q) args s 0 0 (ml_A base)) base D cA 0 0 n n σ (F0 m 24 ls []) := by
  intro N
  induction N with
  | zero => intro σ x1 x2 h_x1 h_x2 ls hl hw; exact False.elim hw
  | succ N ih =>
    intro σ x1 x2 h_x1 h_x2 ls hl hw
    unfold f_X12_makes_u24 at hw
    refine ml_aload_n (pc := 24) X hl 0 rfl rfl dX12_makes_24 ?_
    refine gf_X12_198 (pc := 25) X (ml_c215 hn) dX12_makes_25 (fun r1 => ?_)
    have hw := hw r1
    refine ml_aload_n (pc := 28) X hl 0 rfl rfl dX12_makes_28 ?_
    refine gf_X12_24 (pc := 29) X (ml_c215 hn) dX12_makes_29 ?_
    refine ml_iload_n (pc := 32) X hl 1 rfl rfl dX12_makes_32 ?_
    obtain ⟨a2, b2, hw⟩ := hw
    refine ml_iald (pc := 33) (N := 16) X (ml_c219 hn) a2 b2 dX12_makes_33 (fun r2 => ?_)
    have hw := hw r2
    refine ml_icmp_ge (pc := 34) (tgt := 224) X r1 r2 dX12_makes_34 (by decide) (fun c3 => ?_) (fun c3 => ?_)
    · have hw := hw.1 c3
      exact hK224 σ x1 h_x1 _ (lv_sub hl [0, 1] rfl) hw
    · have hw := hw.2 c3
      refine ml_aload_n (pc := 37) X hl 0 rfl rfl dX12_makes_37 ?_
      refine ml_calliV (pc := 38) (rest := []) X [] (by decide) rfl (ml_c215 hn) (c_X12_read l base D cA n hn σ _ hw) cv_X12_204 ⟨rfl, rfl⟩ ⟨by decide, by decide⟩ rfl rfl hl (Nat.le_of_ble_eq_true rfl) ⟨Nat.zero_le _, Nat.zero_le _⟩ dX12_makes_38 (fun r4 σ4 t4 hw => ?_)
      have hw := hw t4
      refine ml_istore_n (pc := 41) X rfl hl (by decide) (lst' := [(3, .int (Int32.ofInt r4)), (0, .ref (base + (215 : Int).toNat)), (1, .int (Int32.ofInt x1)), (2, .int (Int32.ofInt x2))]) rfl dX12_makes_41 (fun ls hl => ?_)
      refine ml_aload_n (pc := 42) X hl 1 rfl rfl dX12_makes_42 ?_
      refine ml_dup (pc := 43) X dX12_makes_43 rfl ?_
      refine gf_X12_198 (pc := 44) X (ml_c215 hn) dX12_makes_44 (fun r5 => ?_)
      have hw := hw r5
      refine ml_iconst (pc := 47) X dX12_makes_47 ?_
      obtain ⟨v6, hw⟩ := hw
      refine ml_iadd (pc := 48) X dX12_makes_48 ?_
      refine pf_X12_198 (pc := 49) X (ml_c215 hn) v6 dX12_makes_49 (fun σ7 g7 => ?_)
      have hw := hw σ7 g7
      refine ml_iload_n (pc := 52) X hl 0 rfl rfl dX12_makes_52 ?_
      refine ml_bipush (pc := 53) X dX12_makes_53 (by decide) ?_
      refine ml_icmp_ne (pc := 55) (tgt := 79) X t4 ⟨by decide, by decide⟩ dX12_makes_55 (by decide) (fun c8 => ?_) (fun c8 => ?_)
      · have hw := hw.1 c8
        refine ml_aload_n (pc := 79) X hl 1 rfl rfl dX12_makes_79 ?_
        refine ml_iload_n (pc := 80) X hl 3 rfl rfl dX12_makes_80 ?_
        refine ml_callvV (pc := 81) (rest := []) X [.int (Int32.ofInt x2)] (by decide) rfl (ml_c215 hn) (c_X12_goesOn l base D cA n hn σ7 x2 h_x2 _ hw) cv_X12_252 ⟨rfl, rfl⟩ ⟨by decide, by decide⟩ rfl rfl hl (Nat.le_of_ble_eq_true rfl) ⟨Nat.zero_le _, Nat.zero_le _⟩ dX12_makes_81 (fun σ9 hw => ?_)
        refine ml_iload_n (pc := 84) X hl 0 rfl rfl dX12_makes_84 ?_
        refine ml_bipush (pc := 85) X dX12_makes_85 (by decide) ?_
        refine ml_icmp_ne (pc := 87) (tgt := 126) X t4 ⟨by decide, by decide⟩ dX12_makes_87 (by decide) (fun c10 => ?_) (fun c10 => ?_)
        · have hw := hw.1 c10
          refine ml_iload_n (pc := 126) X hl 0 rfl rfl dX12_makes_126 ?_
          refine ml_bipush (pc := 127) X dX12_makes_127 (by decide) ?_
          refine ml_icmp_ne (pc := 129) (tgt := 154) X t4 ⟨by decide, by decide⟩ dX12_makes_129 (by decide) (fun c11 => ?_) (fun c11 => ?_)
          · have hw := hw.1 c11
            refine ml_iload_n (pc := 154) X hl 0 rfl rfl dX12_makes_154 ?_
            refine ml_bipush (pc := 155) X dX12_makes_155 (by decide) ?_
            refine ml_icmp_eq (pc := 157) (tgt := 166) X t4 ⟨by decide, by decide⟩ dX12_makes_157 (by decide) (fun c12 => ?_) (fun c12 => ?_)
            · have hw := hw.1 c12
              exact u_X12_makes_166 X hn ih σ9 x1 x2 r4 h_x1 h_x2 t4 _ (lv_sub hl [1, 2, 3, 0] rfl) hw
            · have hw := hw.2 c12
              refine ml_iload_n (pc := 160) X hl 0 rfl rfl dX12_makes_160 ?_
              refine ml_bipush (pc := 161) X dX12_makes_161 (by decide) ?_
              refine ml_icmp_ne (pc := 163) (tgt := 207) X t4 ⟨by decide, by decide⟩ dX12_makes_163 (by decide) (fun c13 => ?_) (fun c13 => ?_)
              · have hw := hw.1 c13
                refine ml_aload_n (pc := 207) X hl 1 rfl rfl dX12_makes_207 ?_
                refine ml_iload_n (pc := 208) X hl 0 rfl rfl dX12_makes_208 ?_
                refine ml_bipush (pc := 209) X dX12_makes_209 (by decide) ?_
                obtain ⟨v14, hw⟩ := hw
                refine ml_isub (pc := 211) X dX12_makes_211 ?_
                refine ml_bipush (pc := 212) X dX12_makes_212 (by decide) ?_
                refine ml_iconst (pc := 214) X dX12_makes_214 ?_
                refine ml_iload_n (pc := 215) X hl 3 rfl rfl dX12_makes_215 ?_
                obtain ⟨v15, hw⟩ := hw
                refine ml_imul (pc := 216) X dX12_makes_216 ?_
                obtain ⟨v16, hw⟩ := hw
                refine ml_iadd (pc := 217) X dX12_makes_217 ?_
                refine ml_callvV (pc := 218) (rest := []) X [.int (Int32.ofInt (r4 - 65)), .int (Int32.ofInt (17 + (2 * x2)))] (by decide) rfl (ml_c215 hn) (c_X12_copies l base D cA n hn σ9 (r4 - 65) (17 + (2 * x2)) v14 v16 _ hw) cv_X12_242 ⟨rfl, rfl⟩ ⟨by decide, by decide⟩ rfl rfl hl (Nat.le_of_ble_eq_true rfl) ⟨Nat.zero_le _, Nat.zero_le _⟩ dX12_makes_218 (fun σ17 hw => ?_)
                exact u_X12_makes_221 X hn ih σ17 x1 x2 h_x1 h_x2 _ (lv_sub hl [1, 2, 3] rfl) hw
              · have hw := hw.2 c13
                exact u_X12_makes_166 X hn ih σ9 x1 x2 r4 h_x1 h_x2 t4 _ (lv_sub hl [1, 2, 3, 0] rfl) hw
          · have hw := hw.2 c11
            obtain ⟨v18, hw⟩ := hw
            obtain ⟨y18, e18⟩ : ∃ y : Int, y = x2 + (-1) := ⟨_, rfl⟩
            have hw := hw y18 e18
            rw [← e18] at v18
            refine ml_iinc (pc := 132) X e18 hl 3 rfl (by decide) (lst' := [(2, .int (Int32.ofInt y18)), (3, .int (Int32.ofInt r4)), (0, .ref (base + (215 : Int).toNat)), (1, .int (Int32.ofInt x1))]) rfl dX12_makes_132 (fun ls hl => ?_)
            refine ml_aload_n (pc := 135) X hl 2 rfl rfl dX12_makes_135 ?_
            refine ml_bipush (pc := 136) X dX12_makes_136 (by decide) ?_
            refine ml_iconst (pc := 138) X dX12_makes_138 ?_
            refine ml_iload_n (pc := 139) X hl 0 rfl rfl dX12_makes_139 ?_
            obtain ⟨v19, hw⟩ := hw
            refine ml_imul (pc := 140) X dX12_makes_140 ?_
            obtain ⟨v20, hw⟩ := hw
            refine ml_iadd (pc := 141) X dX12_makes_141 ?_
            refine ml_bipush (pc := 142) X dX12_makes_142 (by decide) ?_
            refine ml_iconst (pc := 144) X dX12_makes_144 ?_
            refine ml_iload_n (pc := 145) X hl 0 rfl rfl dX12_makes_145 ?_
            obtain ⟨v21, hw⟩ := hw
            refine ml_imul (pc := 146) X dX12_makes_146 ?_
            obtain ⟨v22, hw⟩ := hw
            refine ml_iadd (pc := 147) X dX12_makes_147 ?_
            refine ml_callvV (pc := 148) (rest := []) X [.int (Int32.ofInt (18 + (2 * y18))), .int (Int32.ofInt (17 + (2 * y18)))] (by decide) rfl (ml_c215 hn) (c_X12_copies l base D cA n hn σ9 (18 + (2 * y18)) (17 + (2 * y18)) v20 v22 _ hw) cv_X12_242 ⟨rfl, rfl⟩ ⟨by decide, by decide⟩ rfl rfl hl (Nat.le_of_ble_eq_true rfl) ⟨Nat.zero_le _, Nat.zero_le _⟩ dX12_makes_148 (fun σ23 hw => ?_)
            refine ml_goto (pc := 151) (tgt := 221) X dX12_makes_151 (by decide) ?_
            exact u_X12_makes_221 X hn ih σ23 x1 y18 h_x1 v18 _ (lv_sub hl [2, 3, 0] rfl) hw
        · have hw := hw.2 c10
          refine ml_aload_n (pc := 90) X hl 1 rfl rfl dX12_makes_90 ?_
          refine ml_bipush (pc := 91) X dX12_makes_91 (by decide) ?_
          refine ml_iconst (pc := 93) X dX12_makes_93 ?_
          refine ml_iload_n (pc := 94) X hl 3 rfl rfl dX12_makes_94 ?_
          obtain ⟨v24, hw⟩ := hw
          refine ml_imul (pc := 95) X dX12_makes_95 ?_
          obtain ⟨v25, hw⟩ := hw
          refine ml_iadd (pc := 96) X dX12_makes_96 ?_
          refine ml_callvV (pc := 97) (rest := []) X [.int (Int32.ofInt (17 + (2 * x2)))] (by decide) rfl (ml_c215 hn) (c_X12_straight l base D cA n hn σ9 (17 + (2 * x2)) v25 _ hw) cv_X12_227 ⟨rfl, rfl⟩ ⟨by decide, by decide⟩ rfl rfl hl (Nat.le_of_ble_eq_true rfl) ⟨Nat.zero_le _, Nat.zero_le _⟩ dX12_makes_97 (fun σ26 hw => ?_)
          obtain ⟨v27, hw⟩ := hw
          obtain ⟨y27, e27⟩ : ∃ y : Int, y = x2 + 1 := ⟨_, rfl⟩
          have hw := hw y27 e27
          rw [← e27] at v27
          refine ml_iinc (pc := 100) X e27 hl 3 rfl (by decide) (lst' := [(2, .int (Int32.ofInt y27)), (3, .int (Int32.ofInt r4)), (0, .ref (base + (215 : Int).toNat)), (1, .int (Int32.ofInt x1))]) rfl dX12_makes_100 (fun ls hl => ?_)
          refine ml_aload_n (pc := 103) X hl 2 rfl rfl dX12_makes_103 ?_
          refine ml_bipush (pc := 104) X dX12_makes_104 (by decide) ?_
          refine ml_iconst (pc := 106) X dX12_makes_106 ?_
          refine ml_iload_n (pc := 107) X hl 0 rfl rfl dX12_makes_107 ?_
          obtain ⟨v28, hw⟩ := hw
          refine ml_imul (pc := 108) X dX12_makes_108 ?_
          obtain ⟨v29, hw⟩ := hw
          refine ml_iadd (pc := 109) X dX12_makes_109 ?_
          refine ml_callvV (pc := 110) (rest := []) X [.int (Int32.ofInt (16 + (2 * y27)))] (by decide) rfl (ml_c215 hn) (c_X12_straight l base D cA n hn σ26 (16 + (2 * y27)) v29 _ hw) cv_X12_227 ⟨rfl, rfl⟩ ⟨by decide, by decide⟩ rfl rfl hl (Nat.le_of_ble_eq_true rfl) ⟨Nat.zero_le _, Nat.zero_le _⟩ dX12_makes_110 (fun σ30 hw => ?_)
          refine ml_aload_n (pc := 113) X hl 2 rfl rfl dX12_makes_113 ?_
          refine ml_bipush (pc := 114) X dX12_makes_114 (by decide) ?_
          refine ml_iconst (pc := 116) X dX12_makes_116 ?_
          refine ml_iload_n (pc := 117) X hl 0 rfl rfl dX12_makes_117 ?_
          obtain ⟨v31, hw⟩ := hw
          refine ml_imul (pc := 118) X dX12_makes_118 ?_
          obtain ⟨v32, hw⟩ := hw
          refine ml_iadd (pc := 119) X dX12_makes_119 ?_
          refine ml_callvV (pc := 120) (rest := []) X [.int (Int32.ofInt (17 + (2 * y27)))] (by decide) rfl (ml_c215 hn) (c_X12_straight l base D cA n hn σ30 (17 + (2 * y27)) v32 _ hw) cv_X12_227 ⟨rfl, rfl⟩ ⟨by decide, by decide⟩ rfl rfl hl (Nat.le_of_ble_eq_true rfl) ⟨Nat.zero_le _, Nat.zero_le _⟩ dX12_makes_120 (fun σ33 hw => ?_)
          refine ml_goto (pc := 123) (tgt := 221) X dX12_makes_123 (by decide) ?_
          exact u_X12_makes_221 X hn ih σ33 x1 y27 h_x1 v27 _ (lv_sub hl [2, 3, 0] rfl) hw
      · have hw := hw.2 c8
        refine ml_aload_n (pc := 58) X hl 1 rfl rfl dX12_makes_58 ?_
        refine ml_calliV (pc := 59) (rest := []) X [] (by decide) rfl (ml_c215 hn) (c_X12_readNumber l base D cA n hn σ7 _ hw) cv_X12_207 ⟨rfl, rfl⟩ ⟨by decide, by decide⟩ rfl rfl hl (Nat.le_of_ble_eq_true rfl) ⟨Nat.zero_le _, Nat.zero_le _⟩ dX12_makes_59 (fun r34 σ34 t34 hw => ?_)
        have hw := hw t34
        refine ml_istore (pc := 62) X hl (by decide) (lst' := [(4, .int (Int32.ofInt r34)), (3, .int (Int32.ofInt r4)), (0, .ref (base + (215 : Int).toNat)), (1, .int (Int32.ofInt x1)), (2, .int (Int32.ofInt x2))]) rfl dX12_makes_62 (fun ls hl => ?_)
        refine ml_aload_n (pc := 64) X hl 2 rfl rfl dX12_makes_64 ?_
        refine ml_bipush (pc := 65) X dX12_makes_65 (by decide) ?_
        refine ml_iconst (pc := 67) X dX12_makes_67 ?_
        refine ml_iload_n (pc := 68) X hl 4 rfl rfl dX12_makes_68 ?_
        obtain ⟨v35, hw⟩ := hw
        refine ml_imul (pc := 69) X dX12_makes_69 ?_
        obtain ⟨v36, hw⟩ := hw
        refine ml_iadd (pc := 70) X dX12_makes_70 ?_
        refine ml_iload (pc := 71) X hl 0 rfl dX12_makes_71 ?_
        refine ml_callvV (pc := 73) (rest := []) X [.int (Int32.ofInt (17 + (2 * x2))), .int (Int32.ofInt r34)] (by decide) rfl (ml_c215 hn) (c_X12_repeats l base D cA n hn σ34 (17 + (2 * x2)) r34 v36 t34 _ hw) cv_X12_249 ⟨rfl, rfl⟩ ⟨by decide, by decide⟩ rfl rfl hl (Nat.le_of_ble_eq_true rfl) ⟨Nat.zero_le _, Nat.zero_le _⟩ dX12_makes_73 (fun σ37 hw => ?_)
        refine ml_goto (pc := 76) (tgt := 24) X dX12_makes_76 (by decide) ?_
        exact ih σ37 x1 x2 h_x1 h_x2 _ (lv_sub hl [2, 3, 4] rfl) hw
set_option maxRecDepth 100000 in
set_option maxHeartbeats 4000000 in
theorem u_X12_makes_224 {p : Program} {e : Env} {s : State} {m : MethodId} {args : Array Value} {below : List Frame} {meth : Method} {c : Code} {base : Nat} {D : va_G} {cA : Nat → ClassId} {n : Nat} {l : Launch} {Q : ml_St → Prop} (X : ml_X p s m c meth args D cA cX12_makes 5 RX12 none) (hn : 256 ≤ n) (σ : ml_St) (x1 : Int) (h_x1 : I32 x1) (ls : Array Slot) (hl : lv_has ls 5 [(0, .ref (base + (215 : Int).toNat)), (1, .int (Int32.ofInt x1))]) (hw : f_X12_makes_u224 Q σ x1) : ml_V p l e rm_X12_makes s m args below meth c (MQ below (ml_Qv base D cA n Q) args s 0 0 (ml_A base)) base D cA 0 0 n n σ (F0 m 224 ls []) := by
  unfold f_X12_makes_u224 at hw
  refine ml_aload_n (pc := 224) X hl 0 rfl rfl dX12_makes_224 ?_
  refine ml_iconst (pc := 225) X dX12_makes_225 ?_
  refine ml_callvV (pc := 226) (rest := []) X [.int (Int32.ofInt 0)] (by decide) rfl (ml_c215 hn) (c_X12_goesOn l base D cA n hn σ 0 ⟨by decide, by decide⟩ _ hw) cv_X12_252 ⟨rfl, rfl⟩ ⟨by decide, by decide⟩ rfl rfl hl (Nat.le_of_ble_eq_true rfl) ⟨Nat.zero_le _, Nat.zero_le _⟩ dX12_makes_226 (fun σ1 hw => ?_)
  refine ml_aload_n (pc := 229) X hl 0 rfl rfl dX12_makes_229 ?_
  refine ml_bipush (pc := 230) X dX12_makes_230 (by decide) ?_
  refine ml_iload_n (pc := 232) X hl 1 rfl rfl dX12_makes_232 ?_
  refine ml_callvV (pc := 233) (rest := []) X [.int (Int32.ofInt 16), .int (Int32.ofInt x1)] (by decide) rfl (ml_c215 hn) (c_X12_copies l base D cA n hn σ1 16 x1 ⟨by decide, by decide⟩ h_x1 _ hw) cv_X12_242 ⟨rfl, rfl⟩ ⟨by decide, by decide⟩ rfl rfl hl (Nat.le_of_ble_eq_true rfl) ⟨Nat.zero_le _, Nat.zero_le _⟩ dX12_makes_233 (fun σ2 hw => ?_)
  exact ml_vret (pc := 236) X hw dX12_makes_236
set_option maxRecDepth 100000 in
set_option maxHeartbeats 4000000 in
theorem u_X12_makes_0 {p : Program} {e : Env} {s : State} {m : MethodId} {args : Array Value} {below : List Frame} {meth : Method} {c : Code} {base : Nat} {D : va_G} {cA : Nat → ClassId} {n : Nat} {l : Launch} {Q : ml_St → Prop} (X : ml_X p s m c meth args D cA cX12_makes 5 RX12 none) (hn : 256 ≤ n) (σ : ml_St) (x1 : Int) (h_x1 : I32 x1) (ls : Array Slot) (hl : lv_has ls 5 [(0, .ref (base + (215 : Int).toNat)), (1, .int (Int32.ofInt x1))]) (hw : f_X12_makes_u0 Q σ x1) : ml_V p l e rm_X12_makes s m args below meth c (MQ below (ml_Qv base D cA n Q) args s 0 0 (ml_A base)) base D cA 0 0 n n σ (F0 m 0 ls []) := by
  unfold f_X12_makes_u0 at hw
  refine ml_iconst (pc := 0) X dX12_makes_0 ?_
  refine ml_istore_n (pc := 1) X rfl hl (by decide) (lst' := [(2, .int (Int32.ofInt 0)), (0, .ref (base + (215 : Int).toNat)), (1, .int (Int32.ofInt x1))]) rfl dX12_makes_1 (fun ls hl => ?_)
  refine ml_aload_n (pc := 2) X hl 1 rfl rfl dX12_makes_2 ?_
  refine ml_iload_n (pc := 3) X hl 2 rfl rfl dX12_makes_3 ?_
  refine pf_X12_201 (pc := 4) X (ml_c215 hn) h_x1 dX12_makes_4 (fun σ1 g1 => ?_)
  have hw := hw σ1 g1
  refine ml_aload_n (pc := 7) X hl 1 rfl rfl dX12_makes_7 ?_
  refine ml_iconst (pc := 8) X dX12_makes_8 ?_
  refine pf_X12_198 (pc := 9) X (ml_c215 hn) ⟨by decide, by decide⟩ dX12_makes_9 (fun σ2 g2 => ?_)
  have hw := hw σ2 g2
  refine ml_aload_n (pc := 12) X hl 1 rfl rfl dX12_makes_12 ?_
  refine ml_bipush (pc := 13) X dX12_makes_13 (by decide) ?_
  refine ml_callvV (pc := 15) (rest := []) X [.int (Int32.ofInt 16)] (by decide) rfl (ml_c215 hn) (c_X12_straight l base D cA n hn σ2 16 ⟨by decide, by decide⟩ _ hw) cv_X12_227 ⟨rfl, rfl⟩ ⟨by decide, by decide⟩ rfl rfl hl (Nat.le_of_ble_eq_true rfl) ⟨Nat.zero_le _, Nat.zero_le _⟩ dX12_makes_15 (fun σ3 hw => ?_)
  refine ml_aload_n (pc := 18) X hl 1 rfl rfl dX12_makes_18 ?_
  refine ml_bipush (pc := 19) X dX12_makes_19 (by decide) ?_
  refine ml_callvV (pc := 21) (rest := []) X [.int (Int32.ofInt 17)] (by decide) rfl (ml_c215 hn) (c_X12_straight l base D cA n hn σ3 17 ⟨by decide, by decide⟩ _ hw) cv_X12_227 ⟨rfl, rfl⟩ ⟨by decide, by decide⟩ rfl rfl hl (Nat.le_of_ble_eq_true rfl) ⟨Nat.zero_le _, Nat.zero_le _⟩ dX12_makes_21 (fun σ4 hw => ?_)
  obtain ⟨N0, hw⟩ := hw
  exact u_X12_makes_24 X hn (fun σ x1 h_x1 ls hl hw => u_X12_makes_224 X hn σ x1 h_x1 ls hl hw) N0 σ4 x1 0 h_x1 ⟨by decide, by decide⟩ _ (lv_sub hl [1, 2, 0] rfl) hw
set_option maxRecDepth 100000 in
theorem c_X12_makes (l : Launch) (base : Nat) (D : va_G) (cA : Nat → ClassId) (n : Nat) (hn : 256 ≤ n) (σ : ml_St) (x1 : Int) (h_x1 : I32 x1) (Q : ml_St → Prop) (hw : f_X12_makes σ x1 Q) : Met l yX12_makes (Cond.code yX12_makes cX12_makes 5 none :: ml_T) rm_X12_makes (va_Pc [.ref (base + (215 : Int).toNat), .int (Int32.ofInt x1)] (ml_U base D cA n σ)) (ml_Qv base D cA n Q) 0 0 (ml_A base) := by
  refine Met.ofW (cc := cX12_makes) (maxL := 5) (ret := none) (by decide) rfl ?_
  intro p e s m args below meth c s₁ B hml hv
  obtain ⟨rfl, hP, hK, hok, hro⟩ := hv
  have X : ml_X p s m c meth _ D cA cX12_makes 5 RX12 none := ⟨B.exec, B.bytes, hml, findClass_of_methodNamed B.named, fun w hw => atoms_spec (ws := Cond.code yX12_makes cX12_makes 5 none :: ml_T) B.pre w (List.mem_cons_of_mem _ hw), hK, B.notSynchronized, B.returns⟩
  have hl := lv_entry [.ref (base + (215 : Int).toNat), .int (Int32.ofInt x1)] (n := 5) (Nat.le_of_ble_eq_true rfl)
  rw [lg_entry_eq]
  generalize (lg_sl [.ref (base + (215 : Int).toNat), .int (Int32.ofInt x1)] ++ List.replicate (5 - (lg_sl [.ref (base + (215 : Int).toNat), .int (Int32.ofInt x1)]).length) Slot.unset).toArray = ls at hl ⊢
  have hl : lv_has ls 5 [(0, .ref (base + (215 : Int).toNat)), (1, .int (Int32.ofInt x1))] := hl
  unfold f_X12_makes at hw
  exact u_X12_makes_0 X hn σ x1 h_x1 _ (lv_sub hl [0, 1] rfl) hw s.heap [] hP va_S.rf hok hro
theorem dX12_all_0 : decode cX12_all 0 = .ok (.iconst 0, 1) := by decide +kernel
theorem dX12_all_1 : decode cX12_all 1 = .ok (.istore_n 1, 1) := by decide +kernel
theorem dX12_all_2 : decode cX12_all 2 = .ok (.iload_n 1, 1) := by decide +kernel
theorem dX12_all_3 : decode cX12_all 3 = .ok (.aload_n 0, 1) := by decide +kernel
theorem dX12_all_4 : decode cX12_all 4 = .ok (.getfield 140, 3) := by decide +kernel
theorem dX12_all_7 : decode cX12_all 7 = .ok (.if_icmp .ge 35, 3) := by decide +kernel
theorem dX12_all_10 : decode cX12_all 10 = .ok (.aload_n 0, 1) := by decide +kernel
theorem dX12_all_11 : decode cX12_all 11 = .ok (.iload_n 1, 1) := by decide +kernel
theorem dX12_all_12 : decode cX12_all 12 = .ok (.invokevirtual 259, 3) := by decide +kernel
theorem dX12_all_15 : decode cX12_all 15 = .ok (.aload_n 0, 1) := by decide +kernel
theorem dX12_all_16 : decode cX12_all 16 = .ok (.iload_n 1, 1) := by decide +kernel
theorem dX12_all_17 : decode cX12_all 17 = .ok (.invokevirtual 262, 3) := by decide +kernel
theorem dX12_all_20 : decode cX12_all 20 = .ok (.ifCond .eq 11, 3) := by decide +kernel
theorem dX12_all_23 : decode cX12_all 23 = .ok (.aload_n 0, 1) := by decide +kernel
theorem dX12_all_24 : decode cX12_all 24 = .ok (.iload_n 1, 1) := by decide +kernel
theorem dX12_all_25 : decode cX12_all 25 = .ok (.invokevirtual 227, 3) := by decide +kernel
theorem dX12_all_28 : decode cX12_all 28 = .ok (.goto 8, 3) := by decide +kernel
theorem dX12_all_31 : decode cX12_all 31 = .ok (.aload_n 0, 1) := by decide +kernel
theorem dX12_all_32 : decode cX12_all 32 = .ok (.iload_n 1, 1) := by decide +kernel
theorem dX12_all_33 : decode cX12_all 33 = .ok (.invokevirtual 265, 3) := by decide +kernel
theorem dX12_all_36 : decode cX12_all 36 = .ok (.iinc 1 1, 3) := by decide +kernel
theorem dX12_all_39 : decode cX12_all 39 = .ok (.goto (-37), 3) := by decide +kernel
theorem dX12_all_42 : decode cX12_all 42 = .ok (.return_, 1) := by decide +kernel
def f_X12_all_u36 (Q : ml_St → Prop) (K2 : ml_St → Int → Prop) (σ : ml_St) (x1 : Int) : Prop :=
I32 (x1 + 1) ∧
∀ y1 : Int, y1 = x1 + 1 →
K2 σ y1
def f_X12_all_u2 (Q : ml_St → Prop) (K42 : ml_St → Prop) : Nat → ml_St → Int → Prop
| 0, _, _ => False
| N + 1, σ, x1 =>
∀ _ : I32 (σ 215 3),
((σ 215 3) ≤ x1 →
K42 σ) ∧
(¬ ((σ 215 3) ≤ x1) →
f_X12_counts σ x1 (fun σ3 =>
f_X12_isTooLong σ3 x1 (fun r4 σ4 => ∀ _ : ml_B r4,
(r4 = 0 →
f_X12_makes σ4 x1 (fun σ6 =>
f_X12_all_u36 Q (f_X12_all_u2 Q K42 N) σ6 x1)) ∧
(r4 ≠ 0 →
f_X12_straight σ4 x1 (fun σ7 =>
f_X12_all_u36 Q (f_X12_all_u2 Q K42 N) σ7 x1)))))
def f_X12_all_u42 (Q : ml_St → Prop) (σ : ml_St) : Prop :=
Q σ
def f_X12_all_u0 (Q : ml_St → Prop) (σ : ml_St) : Prop :=
∃ N1, f_X12_all_u2 Q (f_X12_all_u42 Q) N1 σ 0
def f_X12_all (σ : ml_St) (Q : ml_St → Prop) : Prop := f_X12_all_u0 Q σ
def rm_X12_all : Room := { frames := 4, cells := 0, slots := 0, locals := 100 }
set_option maxRecDepth 100000 in
set_option maxHeartbeats 4000000 in
theorem u_X12_all_36 {p : Program} {e : Env} {s : State} {m : MethodId} {args : Array Value} {below : List Frame} {meth : Method} {c : Code} {base : Nat} {D : va_G} {cA : Nat → ClassId} {n : Nat} {l : Launch} {Q : ml_St → Prop} {K2 : ml_St → Int → Prop} (X : ml_X p s m c meth args D cA cX12_all 2 RX12 none) (hn : 256 ≤ n) (hK2 : ∀ (σ : ml_St) (x1 : Int) (h_x1 : I32 x1) (ls : Array Slot), lv_has ls 2 [(0, .ref (base + (215 : Int).toNat)), (1, .int (Int32.ofInt x1))] → K2 σ x1 → ml_V p l e rm_X12_all s m args below meth c (MQ below (ml_Qv base D cA n Q) args s 0 0 (ml_A base)) base D cA 0 0 n n σ (F0 m 2 ls [])) (σ : ml_St) (x1 : Int) (h_x1 : I32 x1) (ls : Array Slot) (hl : lv_has ls 2 [(0, .ref (base + (215 : Int).toNat)), (1, .int (Int32.ofInt x1))]) (hw : f_X12_all_u36 Q K2 σ x1) : ml_V p l e rm_X12_all s m args below meth c (MQ below (ml_Qv base D cA n Q) args s 0 0 (ml_A base)) base D cA 0 0 n n σ (F0 m 36 ls []) := by
  unfold f_X12_all_u36 at hw
  obtain ⟨v1, hw⟩ := hw
  obtain ⟨y1, e1⟩ : ∃ y : Int, y = x1 + 1 := ⟨_, rfl⟩
  have hw := hw y1 e1
  rw [← e1] at v1
  refine ml_iinc (pc := 36) X e1 hl 1 rfl (by decide) (lst' := [(1, .int (Int32.ofInt y1)), (0, .ref (base + (215 : Int).toNat))]) rfl dX12_all_36 (fun ls hl => ?_)
  refine ml_goto (pc := 39) (tgt := 2) X dX12_all_39 (by decide) ?_
  exact hK2 σ y1 v1 _ (lv_sub hl [1, 0] rfl) hw
set_option maxRecDepth 100000 in
set_option maxHeartbeats 4000000 in
theorem u_X12_all_2 {p : Program} {e : Env} {s : State} {m : MethodId} {args : Array Value} {below : List Frame} {meth : Method} {c : Code} {base : Nat} {D : va_G} {cA : Nat → ClassId} {n : Nat} {l : Launch} {Q : ml_St → Prop} {K42 : ml_St → Prop} (X : ml_X p s m c meth args D cA cX12_all 2 RX12 none) (hn : 256 ≤ n) (hK42 : ∀ (σ : ml_St) (ls : Array Slot), lv_has ls 2 [] → K42 σ → ml_V p l e rm_X12_all s m args below meth c (MQ below (ml_Qv base D cA n Q) args s 0 0 (ml_A base)) base D cA 0 0 n n σ (F0 m 42 ls [])) : ∀ (N : Nat) (σ : ml_St) (x1 : Int) (h_x1 : I32 x1) (ls : Array Slot), lv_has ls 2 [(0, .ref (base + (215 : Int).toNat)), (1, .int (Int32.ofInt x1))] → f_X12_all_u2 Q K42 N σ x1 → ml_V p l e rm_X12_all s m args below meth c (MQ below (ml_Qv base D cA n Q) args s 0 0 (ml_A base)) base D cA 0 0 n n σ (F0 m 2 ls []) := by
  intro N
  induction N with
  | zero => intro σ x1 h_x1 ls hl hw; exact False.elim hw
  | succ N ih =>
    intro σ x1 h_x1 ls hl hw
    unfold f_X12_all_u2 at hw
    refine ml_iload_n (pc := 2) X hl 1 rfl rfl dX12_all_2 ?_
    refine ml_aload_n (pc := 3) X hl 0 rfl rfl dX12_all_3 ?_
    refine gf_X12_140 (pc := 4) X (ml_c215 hn) dX12_all_4 (fun r1 => ?_)
    have hw := hw r1
    refine ml_icmp_ge (pc := 7) (tgt := 42) X h_x1 r1 dX12_all_7 (by decide) (fun c2 => ?_) (fun c2 => ?_)
    · have hw := hw.1 c2
      exact hK42 σ   _ (lv_sub hl [] rfl) hw
    · have hw := hw.2 c2
      refine ml_aload_n (pc := 10) X hl 0 rfl rfl dX12_all_10 ?_
      refine ml_iload_n (pc := 11) X hl 1 rfl rfl dX12_all_11 ?_
      refine ml_callvV (pc := 12) (rest := []) X [.int (Int32.ofInt x1)] (by decide) rfl (ml_c215 hn) (c_X12_counts l base D cA n hn σ x1 h_x1 _ hw) cv_X12_259 ⟨rfl, rfl⟩ ⟨by decide, by decide⟩ rfl rfl hl (Nat.le_of_ble_eq_true rfl) ⟨Nat.zero_le _, Nat.zero_le _⟩ dX12_all_12 (fun σ3 hw => ?_)
      refine ml_aload_n (pc := 15) X hl 0 rfl rfl dX12_all_15 ?_
      refine ml_iload_n (pc := 16) X hl 1 rfl rfl dX12_all_16 ?_
      refine ml_callzV (pc := 17) (rest := []) X [.int (Int32.ofInt x1)] (by decide) rfl (ml_c215 hn) (c_X12_isTooLong l base D cA n hn σ3 x1 h_x1 _ hw) cv_X12_262 ⟨rfl, rfl⟩ ⟨by decide, by decide⟩ rfl rfl hl (Nat.le_of_ble_eq_true rfl) ⟨Nat.zero_le _, Nat.zero_le _⟩ dX12_all_17 (fun r4 σ4 t4 hw => ?_)
      have hw := hw t4
      refine ml_if_eq (pc := 20) (tgt := 31) X t4.i dX12_all_20 (by decide) (fun c5 => ?_) (fun c5 => ?_)
      · have hw := hw.1 c5
        refine ml_aload_n (pc := 31) X hl 0 rfl rfl dX12_all_31 ?_
        refine ml_iload_n (pc := 32) X hl 1 rfl rfl dX12_all_32 ?_
        refine ml_callvV (pc := 33) (rest := []) X [.int (Int32.ofInt x1)] (by decide) rfl (ml_c215 hn) (c_X12_makes l base D cA n hn σ4 x1 h_x1 _ hw) cv_X12_265 ⟨rfl, rfl⟩ ⟨by decide, by decide⟩ rfl rfl hl (Nat.le_of_ble_eq_true rfl) ⟨Nat.zero_le _, Nat.zero_le _⟩ dX12_all_33 (fun σ6 hw => ?_)
        exact u_X12_all_36 X hn ih σ6 x1 h_x1 _ (lv_sub hl [0, 1] rfl) hw
      · have hw := hw.2 c5
        refine ml_aload_n (pc := 23) X hl 0 rfl rfl dX12_all_23 ?_
        refine ml_iload_n (pc := 24) X hl 1 rfl rfl dX12_all_24 ?_
        refine ml_callvV (pc := 25) (rest := []) X [.int (Int32.ofInt x1)] (by decide) rfl (ml_c215 hn) (c_X12_straight l base D cA n hn σ4 x1 h_x1 _ hw) cv_X12_227 ⟨rfl, rfl⟩ ⟨by decide, by decide⟩ rfl rfl hl (Nat.le_of_ble_eq_true rfl) ⟨Nat.zero_le _, Nat.zero_le _⟩ dX12_all_25 (fun σ7 hw => ?_)
        refine ml_goto (pc := 28) (tgt := 36) X dX12_all_28 (by decide) ?_
        exact u_X12_all_36 X hn ih σ7 x1 h_x1 _ (lv_sub hl [0, 1] rfl) hw
set_option maxRecDepth 100000 in
set_option maxHeartbeats 4000000 in
theorem u_X12_all_42 {p : Program} {e : Env} {s : State} {m : MethodId} {args : Array Value} {below : List Frame} {meth : Method} {c : Code} {base : Nat} {D : va_G} {cA : Nat → ClassId} {n : Nat} {l : Launch} {Q : ml_St → Prop} (X : ml_X p s m c meth args D cA cX12_all 2 RX12 none) (hn : 256 ≤ n) (σ : ml_St) (ls : Array Slot) (hl : lv_has ls 2 []) (hw : f_X12_all_u42 Q σ) : ml_V p l e rm_X12_all s m args below meth c (MQ below (ml_Qv base D cA n Q) args s 0 0 (ml_A base)) base D cA 0 0 n n σ (F0 m 42 ls []) := by
  unfold f_X12_all_u42 at hw
  exact ml_vret (pc := 42) X hw dX12_all_42
set_option maxRecDepth 100000 in
set_option maxHeartbeats 4000000 in
theorem u_X12_all_0 {p : Program} {e : Env} {s : State} {m : MethodId} {args : Array Value} {below : List Frame} {meth : Method} {c : Code} {base : Nat} {D : va_G} {cA : Nat → ClassId} {n : Nat} {l : Launch} {Q : ml_St → Prop} (X : ml_X p s m c meth args D cA cX12_all 2 RX12 none) (hn : 256 ≤ n) (σ : ml_St) (ls : Array Slot) (hl : lv_has ls 2 [(0, .ref (base + (215 : Int).toNat))]) (hw : f_X12_all_u0 Q σ) : ml_V p l e rm_X12_all s m args below meth c (MQ below (ml_Qv base D cA n Q) args s 0 0 (ml_A base)) base D cA 0 0 n n σ (F0 m 0 ls []) := by
  unfold f_X12_all_u0 at hw
  refine ml_iconst (pc := 0) X dX12_all_0 ?_
  refine ml_istore_n (pc := 1) X rfl hl (by decide) (lst' := [(1, .int (Int32.ofInt 0)), (0, .ref (base + (215 : Int).toNat))]) rfl dX12_all_1 (fun ls hl => ?_)
  obtain ⟨N0, hw⟩ := hw
  exact u_X12_all_2 X hn (fun σ   ls hl hw => u_X12_all_42 X hn σ   ls hl hw) N0 σ 0 ⟨by decide, by decide⟩ _ (lv_sub hl [1, 0] rfl) hw
set_option maxRecDepth 100000 in
theorem c_X12_all (l : Launch) (base : Nat) (D : va_G) (cA : Nat → ClassId) (n : Nat) (hn : 256 ≤ n) (σ : ml_St) (Q : ml_St → Prop) (hw : f_X12_all σ Q) : Met l yX12_all (Cond.code yX12_all cX12_all 2 none :: ml_T) rm_X12_all (va_Pc [.ref (base + (215 : Int).toNat)] (ml_U base D cA n σ)) (ml_Qv base D cA n Q) 0 0 (ml_A base) := by
  refine Met.ofW (cc := cX12_all) (maxL := 2) (ret := none) (by decide) rfl ?_
  intro p e s m args below meth c s₁ B hml hv
  obtain ⟨rfl, hP, hK, hok, hro⟩ := hv
  have X : ml_X p s m c meth _ D cA cX12_all 2 RX12 none := ⟨B.exec, B.bytes, hml, findClass_of_methodNamed B.named, fun w hw => atoms_spec (ws := Cond.code yX12_all cX12_all 2 none :: ml_T) B.pre w (List.mem_cons_of_mem _ hw), hK, B.notSynchronized, B.returns⟩
  have hl := lv_entry [.ref (base + (215 : Int).toNat)] (n := 2) (Nat.le_of_ble_eq_true rfl)
  rw [lg_entry_eq]
  generalize (lg_sl [.ref (base + (215 : Int).toNat)] ++ List.replicate (2 - (lg_sl [.ref (base + (215 : Int).toNat)]).length) Slot.unset).toArray = ls at hl ⊢
  have hl : lv_has ls 2 [(0, .ref (base + (215 : Int).toNat))] := hl
  unfold f_X12_all at hw
  exact u_X12_all_0 X hn σ  _ (lv_sub hl [0] rfl) hw s.heap [] hP va_S.rf hok hro
theorem dX12_isLength_0 : decode cX12_isLength 0 = .ok (.iload_n 1, 1) := by decide +kernel
theorem dX12_isLength_1 : decode cX12_isLength 1 = .ok (.i2l, 1) := by decide +kernel
theorem dX12_isLength_2 : decode cX12_isLength 2 = .ok (.lconst 1, 1) := by decide +kernel
theorem dX12_isLength_3 : decode cX12_isLength 3 = .ok (.ldc2_w 268, 3) := by decide +kernel
theorem dX12_isLength_6 : decode cX12_isLength 6 = .ok (.invokestatic 143, 3) := by decide +kernel
theorem dX12_isLength_9 : decode cX12_isLength 9 = .ok (.ifCond .eq 15, 3) := by decide +kernel
theorem dX12_isLength_12 : decode cX12_isLength 12 = .ok (.iload_n 1, 1) := by decide +kernel
theorem dX12_isLength_13 : decode cX12_isLength 13 = .ok (.aload_n 0, 1) := by decide +kernel
theorem dX12_isLength_14 : decode cX12_isLength 14 = .ok (.getfield 155, 3) := by decide +kernel
theorem dX12_isLength_17 : decode cX12_isLength 17 = .ok (.if_icmp .gt 7, 3) := by decide +kernel
theorem dX12_isLength_20 : decode cX12_isLength 20 = .ok (.iconst 1, 1) := by decide +kernel
theorem dX12_isLength_21 : decode cX12_isLength 21 = .ok (.goto 4, 3) := by decide +kernel
theorem dX12_isLength_24 : decode cX12_isLength 24 = .ok (.iconst 0, 1) := by decide +kernel
theorem dX12_isLength_25 : decode cX12_isLength 25 = .ok (.ireturn, 1) := by decide +kernel
def f_X12_isLength_u25 (Q : Int → ml_St → Prop) (σ : ml_St) (s0 : Int) : Prop :=
Q s0 σ
def f_X12_isLength_u24 (Q : Int → ml_St → Prop) (σ : ml_St) : Prop :=
f_X12_isLength_u25 Q σ 0
def f_X12_isLength_u0 (Q : Int → ml_St → Prop) (σ : ml_St) (x1 : Int) : Prop :=
f_X12_lies σ x1 1 100 (fun r1 σ1 => ∀ _ : ml_B r1,
(r1 = 0 →
f_X12_isLength_u24 Q σ1) ∧
(r1 ≠ 0 →
∀ _ : I32 (σ1 215 1),
((σ1 215 1) < x1 →
f_X12_isLength_u24 Q σ1) ∧
(¬ ((σ1 215 1) < x1) →
f_X12_isLength_u25 Q σ1 1)))
def f_X12_isLength (σ : ml_St) (x1 : Int) (Q : Int → ml_St → Prop) : Prop := f_X12_isLength_u0 Q σ x1
def rm_X12_isLength : Room := { frames := 1, cells := 0, slots := 0, locals := 25 }
set_option maxRecDepth 100000 in
set_option maxHeartbeats 4000000 in
theorem u_X12_isLength_25 {p : Program} {e : Env} {s : State} {m : MethodId} {args : Array Value} {below : List Frame} {meth : Method} {c : Code} {base : Nat} {D : va_G} {cA : Nat → ClassId} {n : Nat} {l : Launch} {Q : Int → ml_St → Prop} (X : ml_X p s m c meth args D cA cX12_isLength 2 RX12 (some .boolean)) (hn : 256 ≤ n) (σ : ml_St) (s0 : Int) (h_s0 : ml_B s0) (ls : Array Slot) (hl : lv_has ls 2 []) (hw : f_X12_isLength_u25 Q σ s0) : ml_V p l e rm_X12_isLength s m args below meth c (MQ below (ml_Qi ml_B base D cA n Q) args s 0 0 (ml_A base)) base D cA 0 0 n n σ (F0 m 25 ls [.int (Int32.ofInt s0)]) := by
  unfold f_X12_isLength_u25 at hw
  exact ml_zret (pc := 25) X h_s0 hw dX12_isLength_25
set_option maxRecDepth 100000 in
set_option maxHeartbeats 4000000 in
theorem u_X12_isLength_24 {p : Program} {e : Env} {s : State} {m : MethodId} {args : Array Value} {below : List Frame} {meth : Method} {c : Code} {base : Nat} {D : va_G} {cA : Nat → ClassId} {n : Nat} {l : Launch} {Q : Int → ml_St → Prop} (X : ml_X p s m c meth args D cA cX12_isLength 2 RX12 (some .boolean)) (hn : 256 ≤ n) (σ : ml_St) (ls : Array Slot) (hl : lv_has ls 2 []) (hw : f_X12_isLength_u24 Q σ) : ml_V p l e rm_X12_isLength s m args below meth c (MQ below (ml_Qi ml_B base D cA n Q) args s 0 0 (ml_A base)) base D cA 0 0 n n σ (F0 m 24 ls []) := by
  unfold f_X12_isLength_u24 at hw
  refine ml_iconst (pc := 24) X dX12_isLength_24 ?_
  exact u_X12_isLength_25 X hn σ 0 ⟨by decide, by decide⟩ _ (lv_sub hl [] rfl) hw
set_option maxRecDepth 100000 in
set_option maxHeartbeats 4000000 in
theorem u_X12_isLength_0 {p : Program} {e : Env} {s : State} {m : MethodId} {args : Array Value} {below : List Frame} {meth : Method} {c : Code} {base : Nat} {D : va_G} {cA : Nat → ClassId} {n : Nat} {l : Launch} {Q : Int → ml_St → Prop} (X : ml_X p s m c meth args D cA cX12_isLength 2 RX12 (some .boolean)) (hn : 256 ≤ n) (σ : ml_St) (x1 : Int) (h_x1 : I32 x1) (ls : Array Slot) (hl : lv_has ls 2 [(0, .ref (base + (215 : Int).toNat)), (1, .int (Int32.ofInt x1))]) (hw : f_X12_isLength_u0 Q σ x1) : ml_V p l e rm_X12_isLength s m args below meth c (MQ below (ml_Qi ml_B base D cA n Q) args s 0 0 (ml_A base)) base D cA 0 0 n n σ (F0 m 0 ls []) := by
  unfold f_X12_isLength_u0 at hw
  refine ml_iload_n (pc := 0) X hl 1 rfl rfl dX12_isLength_0 ?_
  refine ml_i2l (pc := 1) X h_x1 dX12_isLength_1 ?_
  refine ml_lconst1 (pc := 2) X dX12_isLength_2 ?_
  refine ml_ldc2 (pc := 3) (v := 100) X dX12_isLength_3 tc_5_164 ?_
  refine ml_callzS (pc := 6) (rest := []) X [.long (Int64.ofInt x1), .long (Int64.ofInt 1), .long (Int64.ofInt 100)] (c_X12_lies l base D cA n hn σ x1 1 100 (h_x1).l ⟨by decide, by decide⟩ ⟨by decide, by decide⟩ _ hw) cv_X12_143 ⟨rfl, rfl⟩ ⟨by decide, by decide⟩ rfl rfl hl (Nat.le_of_ble_eq_true rfl) ⟨Nat.zero_le _, Nat.zero_le _⟩ dX12_isLength_6 (fun r1 σ1 t1 hw => ?_)
  have hw := hw t1
  refine ml_if_eq (pc := 9) (tgt := 24) X t1.i dX12_isLength_9 (by decide) (fun c2 => ?_) (fun c2 => ?_)
  · have hw := hw.1 c2
    exact u_X12_isLength_24 X hn σ1   _ (lv_sub hl [] rfl) hw
  · have hw := hw.2 c2
    refine ml_iload_n (pc := 12) X hl 1 rfl rfl dX12_isLength_12 ?_
    refine ml_aload_n (pc := 13) X hl 0 rfl rfl dX12_isLength_13 ?_
    refine gf_X12_155 (pc := 14) X (ml_c215 hn) dX12_isLength_14 (fun r3 => ?_)
    have hw := hw r3
    refine ml_icmp_gt (pc := 17) (tgt := 24) X h_x1 r3 dX12_isLength_17 (by decide) (fun c4 => ?_) (fun c4 => ?_)
    · have hw := hw.1 c4
      exact u_X12_isLength_24 X hn σ1   _ (lv_sub hl [] rfl) hw
    · have hw := hw.2 c4
      refine ml_iconst (pc := 20) X dX12_isLength_20 ?_
      refine ml_goto (pc := 21) (tgt := 25) X dX12_isLength_21 (by decide) ?_
      exact u_X12_isLength_25 X hn σ1 1 ⟨by decide, by decide⟩ _ (lv_sub hl [] rfl) hw
set_option maxRecDepth 100000 in
theorem c_X12_isLength (l : Launch) (base : Nat) (D : va_G) (cA : Nat → ClassId) (n : Nat) (hn : 256 ≤ n) (σ : ml_St) (x1 : Int) (h_x1 : I32 x1) (Q : Int → ml_St → Prop) (hw : f_X12_isLength σ x1 Q) : Met l yX12_isLength (Cond.code yX12_isLength cX12_isLength 2 (some .boolean) :: ml_T) rm_X12_isLength (va_Pc [.ref (base + (215 : Int).toNat), .int (Int32.ofInt x1)] (ml_U base D cA n σ)) (ml_Qi ml_B base D cA n Q) 0 0 (ml_A base) := by
  refine Met.ofW (cc := cX12_isLength) (maxL := 2) (ret := (some .boolean)) (by decide) rfl ?_
  intro p e s m args below meth c s₁ B hml hv
  obtain ⟨rfl, hP, hK, hok, hro⟩ := hv
  have X : ml_X p s m c meth _ D cA cX12_isLength 2 RX12 (some .boolean) := ⟨B.exec, B.bytes, hml, findClass_of_methodNamed B.named, fun w hw => atoms_spec (ws := Cond.code yX12_isLength cX12_isLength 2 (some .boolean) :: ml_T) B.pre w (List.mem_cons_of_mem _ hw), hK, B.notSynchronized, B.returns⟩
  have hl := lv_entry [.ref (base + (215 : Int).toNat), .int (Int32.ofInt x1)] (n := 2) (Nat.le_of_ble_eq_true rfl)
  rw [lg_entry_eq]
  generalize (lg_sl [.ref (base + (215 : Int).toNat), .int (Int32.ofInt x1)] ++ List.replicate (2 - (lg_sl [.ref (base + (215 : Int).toNat), .int (Int32.ofInt x1)]).length) Slot.unset).toArray = ls at hl ⊢
  have hl : lv_has ls 2 [(0, .ref (base + (215 : Int).toNat)), (1, .int (Int32.ofInt x1))] := hl
  unfold f_X12_isLength at hw
  exact u_X12_isLength_0 X hn σ x1 h_x1 _ (lv_sub hl [0, 1] rfl) hw s.heap [] hP va_S.rf hok hro
theorem dX12_here_0 : decode cX12_here 0 = .ok (.aload_n 0, 1) := by decide +kernel
theorem dX12_here_1 : decode cX12_here 1 = .ok (.getfield 162, 3) := by decide +kernel
theorem dX12_here_4 : decode cX12_here 4 = .ok (.aload_n 0, 1) := by decide +kernel
theorem dX12_here_5 : decode cX12_here 5 = .ok (.getfield 165, 3) := by decide +kernel
theorem dX12_here_8 : decode cX12_here 8 = .ok (.if_icmp .ge 19, 3) := by decide +kernel
theorem dX12_here_11 : decode cX12_here 11 = .ok (.aload_n 0, 1) := by decide +kernel
theorem dX12_here_12 : decode cX12_here 12 = .ok (.getfield 7, 3) := by decide +kernel
theorem dX12_here_15 : decode cX12_here 15 = .ok (.aload_n 0, 1) := by decide +kernel
theorem dX12_here_16 : decode cX12_here 16 = .ok (.getfield 162, 3) := by decide +kernel
theorem dX12_here_19 : decode cX12_here 19 = .ok (.baload, 1) := by decide +kernel
theorem dX12_here_20 : decode cX12_here 20 = .ok (.sipush 255, 3) := by decide +kernel
theorem dX12_here_23 : decode cX12_here 23 = .ok (.iand, 1) := by decide +kernel
theorem dX12_here_24 : decode cX12_here 24 = .ok (.goto 4, 3) := by decide +kernel
theorem dX12_here_27 : decode cX12_here 27 = .ok (.iconst 0, 1) := by decide +kernel
theorem dX12_here_28 : decode cX12_here 28 = .ok (.ireturn, 1) := by decide +kernel
def f_X12_here_u28 (Q : Int → ml_St → Prop) (σ : ml_St) (s0 : Int) : Prop :=
Q s0 σ
def f_X12_here_u0 (Q : Int → ml_St → Prop) (σ : ml_St) : Prop :=
∀ _ : I32 (σ 215 9),
∀ _ : I32 (σ 215 10),
((σ 215 10) ≤ ((σ 215 9) : Int) →
f_X12_here_u28 Q σ 0) ∧
(¬ ((σ 215 10) ≤ ((σ 215 9) : Int)) →
∀ _ : I32 (σ 215 9),
(0 : Int) ≤ (σ 215 9) ∧ ((σ 215 9) : Int) < 200 ∧
∀ _ : ml_I8 (σ 216 (σ 215 9)),
f_X12_here_u28 Q σ (b_and (σ 216 (σ 215 9)) 255))
def f_X12_here (σ : ml_St) (Q : Int → ml_St → Prop) : Prop := f_X12_here_u0 Q σ
def rm_X12_here : Room := { frames := 0, cells := 0, slots := 0, locals := 0 }
set_option maxRecDepth 100000 in
set_option maxHeartbeats 4000000 in
theorem u_X12_here_28 {p : Program} {e : Env} {s : State} {m : MethodId} {args : Array Value} {below : List Frame} {meth : Method} {c : Code} {base : Nat} {D : va_G} {cA : Nat → ClassId} {n : Nat} {l : Launch} {Q : Int → ml_St → Prop} (X : ml_X p s m c meth args D cA cX12_here 1 RX12 (some .int)) (hn : 256 ≤ n) (σ : ml_St) (s0 : Int) (h_s0 : I32 s0) (ls : Array Slot) (hl : lv_has ls 1 []) (hw : f_X12_here_u28 Q σ s0) : ml_V p l e rm_X12_here s m args below meth c (MQ below (ml_Qi I32 base D cA n Q) args s 0 0 (ml_A base)) base D cA 0 0 n n σ (F0 m 28 ls [.int (Int32.ofInt s0)]) := by
  unfold f_X12_here_u28 at hw
  exact ml_iret (pc := 28) X h_s0 hw dX12_here_28
set_option maxRecDepth 100000 in
set_option maxHeartbeats 4000000 in
theorem u_X12_here_0 {p : Program} {e : Env} {s : State} {m : MethodId} {args : Array Value} {below : List Frame} {meth : Method} {c : Code} {base : Nat} {D : va_G} {cA : Nat → ClassId} {n : Nat} {l : Launch} {Q : Int → ml_St → Prop} (X : ml_X p s m c meth args D cA cX12_here 1 RX12 (some .int)) (hn : 256 ≤ n) (σ : ml_St) (ls : Array Slot) (hl : lv_has ls 1 [(0, .ref (base + (215 : Int).toNat))]) (hw : f_X12_here_u0 Q σ) : ml_V p l e rm_X12_here s m args below meth c (MQ below (ml_Qi I32 base D cA n Q) args s 0 0 (ml_A base)) base D cA 0 0 n n σ (F0 m 0 ls []) := by
  unfold f_X12_here_u0 at hw
  refine ml_aload_n (pc := 0) X hl 0 rfl rfl dX12_here_0 ?_
  refine gf_X12_162 (pc := 1) X (ml_c215 hn) dX12_here_1 (fun r1 => ?_)
  have hw := hw r1
  refine ml_aload_n (pc := 4) X hl 0 rfl rfl dX12_here_4 ?_
  refine gf_X12_165 (pc := 5) X (ml_c215 hn) dX12_here_5 (fun r2 => ?_)
  have hw := hw r2
  refine ml_icmp_ge (pc := 8) (tgt := 27) X r1 r2 dX12_here_8 (by decide) (fun c3 => ?_) (fun c3 => ?_)
  · have hw := hw.1 c3
    refine ml_iconst (pc := 27) X dX12_here_27 ?_
    exact u_X12_here_28 X hn σ 0 ⟨by decide, by decide⟩ _ (lv_sub hl [] rfl) hw
  · have hw := hw.2 c3
    refine ml_aload_n (pc := 11) X hl 0 rfl rfl dX12_here_11 ?_
    refine gf_X12_7 (pc := 12) X (ml_c215 hn) dX12_here_12 ?_
    refine ml_aload_n (pc := 15) X hl 0 rfl rfl dX12_here_15 ?_
    refine gf_X12_162 (pc := 16) X (ml_c215 hn) dX12_here_16 (fun r4 => ?_)
    have hw := hw r4
    obtain ⟨a5, b5, hw⟩ := hw
    refine ml_bald (pc := 19) (N := 200) X (ml_c216 hn) a5 b5 dX12_here_19 (fun r5 => ?_)
    have hw := hw r5
    refine ml_sipush (pc := 20) X dX12_here_20 (by decide) ?_
    refine ml_iand (pc := 23) X dX12_here_23 ?_
    refine ml_goto (pc := 24) (tgt := 28) X dX12_here_24 (by decide) ?_
    exact u_X12_here_28 X hn σ (b_and (σ 216 (σ 215 9)) 255) (b_and_r _ _) _ (lv_sub hl [] rfl) hw
set_option maxRecDepth 100000 in
theorem c_X12_here (l : Launch) (base : Nat) (D : va_G) (cA : Nat → ClassId) (n : Nat) (hn : 256 ≤ n) (σ : ml_St) (Q : Int → ml_St → Prop) (hw : f_X12_here σ Q) : Met l yX12_here (Cond.code yX12_here cX12_here 1 (some .int) :: ml_T) rm_X12_here (va_Pc [.ref (base + (215 : Int).toNat)] (ml_U base D cA n σ)) (ml_Qi I32 base D cA n Q) 0 0 (ml_A base) := by
  refine Met.ofW (cc := cX12_here) (maxL := 1) (ret := (some .int)) (by decide) rfl ?_
  intro p e s m args below meth c s₁ B hml hv
  obtain ⟨rfl, hP, hK, hok, hro⟩ := hv
  have X : ml_X p s m c meth _ D cA cX12_here 1 RX12 (some .int) := ⟨B.exec, B.bytes, hml, findClass_of_methodNamed B.named, fun w hw => atoms_spec (ws := Cond.code yX12_here cX12_here 1 (some .int) :: ml_T) B.pre w (List.mem_cons_of_mem _ hw), hK, B.notSynchronized, B.returns⟩
  have hl := lv_entry [.ref (base + (215 : Int).toNat)] (n := 1) (Nat.le_of_ble_eq_true rfl)
  rw [lg_entry_eq]
  generalize (lg_sl [.ref (base + (215 : Int).toNat)] ++ List.replicate (1 - (lg_sl [.ref (base + (215 : Int).toNat)]).length) Slot.unset).toArray = ls at hl ⊢
  have hl : lv_has ls 1 [(0, .ref (base + (215 : Int).toNat))] := hl
  unfold f_X12_here at hw
  exact u_X12_here_0 X hn σ  _ (lv_sub hl [0] rfl) hw s.heap [] hP va_S.rf hok hro
theorem dX12_isGood_0 : decode cX12_isGood 0 = .ok (.aload_n 0, 1) := by decide +kernel
theorem dX12_isGood_1 : decode cX12_isGood 1 = .ok (.getfield 168, 3) := by decide +kernel
theorem dX12_isGood_4 : decode cX12_isGood 4 = .ok (.ifCond .ne 7, 3) := by decide +kernel
theorem dX12_isGood_7 : decode cX12_isGood 7 = .ok (.iconst 1, 1) := by decide +kernel
theorem dX12_isGood_8 : decode cX12_isGood 8 = .ok (.goto 4, 3) := by decide +kernel
theorem dX12_isGood_11 : decode cX12_isGood 11 = .ok (.iconst 0, 1) := by decide +kernel
theorem dX12_isGood_12 : decode cX12_isGood 12 = .ok (.ireturn, 1) := by decide +kernel
def f_X12_isGood_u12 (Q : Int → ml_St → Prop) (σ : ml_St) (s0 : Int) : Prop :=
Q s0 σ
def f_X12_isGood_u0 (Q : Int → ml_St → Prop) (σ : ml_St) : Prop :=
∀ _ : I32 (σ 215 11),
(((σ 215 11) : Int) ≠ 0 →
f_X12_isGood_u12 Q σ 0) ∧
((σ 215 11) = 0 →
f_X12_isGood_u12 Q σ 1)
def f_X12_isGood (σ : ml_St) (Q : Int → ml_St → Prop) : Prop := f_X12_isGood_u0 Q σ
def rm_X12_isGood : Room := { frames := 0, cells := 0, slots := 0, locals := 0 }
set_option maxRecDepth 100000 in
set_option maxHeartbeats 4000000 in
theorem u_X12_isGood_12 {p : Program} {e : Env} {s : State} {m : MethodId} {args : Array Value} {below : List Frame} {meth : Method} {c : Code} {base : Nat} {D : va_G} {cA : Nat → ClassId} {n : Nat} {l : Launch} {Q : Int → ml_St → Prop} (X : ml_X p s m c meth args D cA cX12_isGood 1 RX12 (some .boolean)) (hn : 256 ≤ n) (σ : ml_St) (s0 : Int) (h_s0 : ml_B s0) (ls : Array Slot) (hl : lv_has ls 1 []) (hw : f_X12_isGood_u12 Q σ s0) : ml_V p l e rm_X12_isGood s m args below meth c (MQ below (ml_Qi ml_B base D cA n Q) args s 0 0 (ml_A base)) base D cA 0 0 n n σ (F0 m 12 ls [.int (Int32.ofInt s0)]) := by
  unfold f_X12_isGood_u12 at hw
  exact ml_zret (pc := 12) X h_s0 hw dX12_isGood_12
set_option maxRecDepth 100000 in
set_option maxHeartbeats 4000000 in
theorem u_X12_isGood_0 {p : Program} {e : Env} {s : State} {m : MethodId} {args : Array Value} {below : List Frame} {meth : Method} {c : Code} {base : Nat} {D : va_G} {cA : Nat → ClassId} {n : Nat} {l : Launch} {Q : Int → ml_St → Prop} (X : ml_X p s m c meth args D cA cX12_isGood 1 RX12 (some .boolean)) (hn : 256 ≤ n) (σ : ml_St) (ls : Array Slot) (hl : lv_has ls 1 [(0, .ref (base + (215 : Int).toNat))]) (hw : f_X12_isGood_u0 Q σ) : ml_V p l e rm_X12_isGood s m args below meth c (MQ below (ml_Qi ml_B base D cA n Q) args s 0 0 (ml_A base)) base D cA 0 0 n n σ (F0 m 0 ls []) := by
  unfold f_X12_isGood_u0 at hw
  refine ml_aload_n (pc := 0) X hl 0 rfl rfl dX12_isGood_0 ?_
  refine gf_X12_168 (pc := 1) X (ml_c215 hn) dX12_isGood_1 (fun r1 => ?_)
  have hw := hw r1
  refine ml_if_ne (pc := 4) (tgt := 11) X r1 dX12_isGood_4 (by decide) (fun c2 => ?_) (fun c2 => ?_)
  · have hw := hw.1 c2
    refine ml_iconst (pc := 11) X dX12_isGood_11 ?_
    exact u_X12_isGood_12 X hn σ 0 ⟨by decide, by decide⟩ _ (lv_sub hl [] rfl) hw
  · have hw := hw.2 c2
    refine ml_iconst (pc := 7) X dX12_isGood_7 ?_
    refine ml_goto (pc := 8) (tgt := 12) X dX12_isGood_8 (by decide) ?_
    exact u_X12_isGood_12 X hn σ 1 ⟨by decide, by decide⟩ _ (lv_sub hl [] rfl) hw
set_option maxRecDepth 100000 in
theorem c_X12_isGood (l : Launch) (base : Nat) (D : va_G) (cA : Nat → ClassId) (n : Nat) (hn : 256 ≤ n) (σ : ml_St) (Q : Int → ml_St → Prop) (hw : f_X12_isGood σ Q) : Met l yX12_isGood (Cond.code yX12_isGood cX12_isGood 1 (some .boolean) :: ml_T) rm_X12_isGood (va_Pc [.ref (base + (215 : Int).toNat)] (ml_U base D cA n σ)) (ml_Qi ml_B base D cA n Q) 0 0 (ml_A base) := by
  refine Met.ofW (cc := cX12_isGood) (maxL := 1) (ret := (some .boolean)) (by decide) rfl ?_
  intro p e s m args below meth c s₁ B hml hv
  obtain ⟨rfl, hP, hK, hok, hro⟩ := hv
  have X : ml_X p s m c meth _ D cA cX12_isGood 1 RX12 (some .boolean) := ⟨B.exec, B.bytes, hml, findClass_of_methodNamed B.named, fun w hw => atoms_spec (ws := Cond.code yX12_isGood cX12_isGood 1 (some .boolean) :: ml_T) B.pre w (List.mem_cons_of_mem _ hw), hK, B.notSynchronized, B.returns⟩
  have hl := lv_entry [.ref (base + (215 : Int).toNat)] (n := 1) (Nat.le_of_ble_eq_true rfl)
  rw [lg_entry_eq]
  generalize (lg_sl [.ref (base + (215 : Int).toNat)] ++ List.replicate (1 - (lg_sl [.ref (base + (215 : Int).toNat)]).length) Slot.unset).toArray = ls at hl ⊢
  have hl : lv_has ls 1 [(0, .ref (base + (215 : Int).toNat))] := hl
  unfold f_X12_isGood at hw
  exact u_X12_isGood_0 X hn σ  _ (lv_sub hl [0] rfl) hw s.heap [] hP va_S.rf hok hro
theorem dX12_wrongs_0 : decode cX12_wrongs 0 = .ok (.aload_n 0, 1) := by decide +kernel
theorem dX12_wrongs_1 : decode cX12_wrongs 1 = .ok (.aload_n 0, 1) := by decide +kernel
theorem dX12_wrongs_2 : decode cX12_wrongs 2 = .ok (.getfield 168, 3) := by decide +kernel
theorem dX12_wrongs_5 : decode cX12_wrongs 5 = .ok (.ifCond .ge 10, 3) := by decide +kernel
theorem dX12_wrongs_8 : decode cX12_wrongs 8 = .ok (.aload_n 0, 1) := by decide +kernel
theorem dX12_wrongs_9 : decode cX12_wrongs 9 = .ok (.getfield 168, 3) := by decide +kernel
theorem dX12_wrongs_12 : decode cX12_wrongs 12 = .ok (.goto 10, 3) := by decide +kernel
theorem dX12_wrongs_15 : decode cX12_wrongs 15 = .ok (.sipush (-1000), 3) := by decide +kernel
theorem dX12_wrongs_18 : decode cX12_wrongs 18 = .ok (.iload_n 1, 1) := by decide +kernel
theorem dX12_wrongs_19 : decode cX12_wrongs 19 = .ok (.imul, 1) := by decide +kernel
theorem dX12_wrongs_20 : decode cX12_wrongs 20 = .ok (.iload_n 2, 1) := by decide +kernel
theorem dX12_wrongs_21 : decode cX12_wrongs 21 = .ok (.isub, 1) := by decide +kernel
theorem dX12_wrongs_22 : decode cX12_wrongs 22 = .ok (.putfield 168, 3) := by decide +kernel
theorem dX12_wrongs_25 : decode cX12_wrongs 25 = .ok (.return_, 1) := by decide +kernel
def f_X12_wrongs_u22 (Q : ml_St → Prop) (σ : ml_St) (s1 : Int) : Prop :=
∀ σ1, σ1 = ml_up σ 215 11 s1 →
Q σ1
def f_X12_wrongs_u0 (Q : ml_St → Prop) (σ : ml_St) (x1 : Int) (x2 : Int) : Prop :=
∀ _ : I32 (σ 215 11),
(0 ≤ ((σ 215 11) : Int) →
I32 ((-1000) * x1) ∧
I32 (((-1000) * x1) - x2) ∧
f_X12_wrongs_u22 Q σ (((-1000) * x1) - x2)) ∧
(¬ (0 ≤ ((σ 215 11) : Int)) →
∀ _ : I32 (σ 215 11),
f_X12_wrongs_u22 Q σ (σ 215 11))
def f_X12_wrongs (σ : ml_St) (x1 : Int) (x2 : Int) (Q : ml_St → Prop) : Prop := f_X12_wrongs_u0 Q σ x1 x2
def rm_X12_wrongs : Room := { frames := 0, cells := 0, slots := 0, locals := 0 }
set_option maxRecDepth 100000 in
set_option maxHeartbeats 4000000 in
theorem u_X12_wrongs_22 {p : Program} {e : Env} {s : State} {m : MethodId} {args : Array Value} {below : List Frame} {meth : Method} {c : Code} {base : Nat} {D : va_G} {cA : Nat → ClassId} {n : Nat} {l : Launch} {Q : ml_St → Prop} (X : ml_X p s m c meth args D cA cX12_wrongs 3 RX12 none) (hn : 256 ≤ n) (σ : ml_St) (s1 : Int) (h_s1 : I32 s1) (ls : Array Slot) (hl : lv_has ls 3 []) (hw : f_X12_wrongs_u22 Q σ s1) : ml_V p l e rm_X12_wrongs s m args below meth c (MQ below (ml_Qv base D cA n Q) args s 0 0 (ml_A base)) base D cA 0 0 n n σ (F0 m 22 ls [.int (Int32.ofInt s1), .ref (base + (215 : Int).toNat)]) := by
  unfold f_X12_wrongs_u22 at hw
  refine pf_X12_168 (pc := 22) X (ml_c215 hn) h_s1 dX12_wrongs_22 (fun σ1 g1 => ?_)
  have hw := hw σ1 g1
  exact ml_vret (pc := 25) X hw dX12_wrongs_25
set_option maxRecDepth 100000 in
set_option maxHeartbeats 4000000 in
theorem u_X12_wrongs_0 {p : Program} {e : Env} {s : State} {m : MethodId} {args : Array Value} {below : List Frame} {meth : Method} {c : Code} {base : Nat} {D : va_G} {cA : Nat → ClassId} {n : Nat} {l : Launch} {Q : ml_St → Prop} (X : ml_X p s m c meth args D cA cX12_wrongs 3 RX12 none) (hn : 256 ≤ n) (σ : ml_St) (x1 : Int) (x2 : Int) (h_x1 : I32 x1) (h_x2 : I32 x2) (ls : Array Slot) (hl : lv_has ls 3 [(0, .ref (base + (215 : Int).toNat)), (1, .int (Int32.ofInt x1)), (2, .int (Int32.ofInt x2))]) (hw : f_X12_wrongs_u0 Q σ x1 x2) : ml_V p l e rm_X12_wrongs s m args below meth c (MQ below (ml_Qv base D cA n Q) args s 0 0 (ml_A base)) base D cA 0 0 n n σ (F0 m 0 ls []) := by
  unfold f_X12_wrongs_u0 at hw
  refine ml_aload_n (pc := 0) X hl 0 rfl rfl dX12_wrongs_0 ?_
  refine ml_aload_n (pc := 1) X hl 0 rfl rfl dX12_wrongs_1 ?_
  refine gf_X12_168 (pc := 2) X (ml_c215 hn) dX12_wrongs_2 (fun r1 => ?_)
  have hw := hw r1
  refine ml_if_ge (pc := 5) (tgt := 15) X r1 dX12_wrongs_5 (by decide) (fun c2 => ?_) (fun c2 => ?_)
  · have hw := hw.1 c2
    refine ml_sipush (pc := 15) X dX12_wrongs_15 (by decide) ?_
    refine ml_iload_n (pc := 18) X hl 1 rfl rfl dX12_wrongs_18 ?_
    obtain ⟨v3, hw⟩ := hw
    refine ml_imul (pc := 19) X dX12_wrongs_19 ?_
    refine ml_iload_n (pc := 20) X hl 2 rfl rfl dX12_wrongs_20 ?_
    obtain ⟨v4, hw⟩ := hw
    refine ml_isub (pc := 21) X dX12_wrongs_21 ?_
    exact u_X12_wrongs_22 X hn σ (((-1000) * x1) - x2) v4 _ (lv_sub hl [] rfl) hw
  · have hw := hw.2 c2
    refine ml_aload_n (pc := 8) X hl 0 rfl rfl dX12_wrongs_8 ?_
    refine gf_X12_168 (pc := 9) X (ml_c215 hn) dX12_wrongs_9 (fun r5 => ?_)
    have hw := hw r5
    refine ml_goto (pc := 12) (tgt := 22) X dX12_wrongs_12 (by decide) ?_
    exact u_X12_wrongs_22 X hn σ (σ 215 11) r5 _ (lv_sub hl [] rfl) hw
set_option maxRecDepth 100000 in
theorem c_X12_wrongs (l : Launch) (base : Nat) (D : va_G) (cA : Nat → ClassId) (n : Nat) (hn : 256 ≤ n) (σ : ml_St) (x1 : Int) (x2 : Int) (h_x1 : I32 x1) (h_x2 : I32 x2) (Q : ml_St → Prop) (hw : f_X12_wrongs σ x1 x2 Q) : Met l yX12_wrongs (Cond.code yX12_wrongs cX12_wrongs 3 none :: ml_T) rm_X12_wrongs (va_Pc [.ref (base + (215 : Int).toNat), .int (Int32.ofInt x1), .int (Int32.ofInt x2)] (ml_U base D cA n σ)) (ml_Qv base D cA n Q) 0 0 (ml_A base) := by
  refine Met.ofW (cc := cX12_wrongs) (maxL := 3) (ret := none) (by decide) rfl ?_
  intro p e s m args below meth c s₁ B hml hv
  obtain ⟨rfl, hP, hK, hok, hro⟩ := hv
  have X : ml_X p s m c meth _ D cA cX12_wrongs 3 RX12 none := ⟨B.exec, B.bytes, hml, findClass_of_methodNamed B.named, fun w hw => atoms_spec (ws := Cond.code yX12_wrongs cX12_wrongs 3 none :: ml_T) B.pre w (List.mem_cons_of_mem _ hw), hK, B.notSynchronized, B.returns⟩
  have hl := lv_entry [.ref (base + (215 : Int).toNat), .int (Int32.ofInt x1), .int (Int32.ofInt x2)] (n := 3) (Nat.le_of_ble_eq_true rfl)
  rw [lg_entry_eq]
  generalize (lg_sl [.ref (base + (215 : Int).toNat), .int (Int32.ofInt x1), .int (Int32.ofInt x2)] ++ List.replicate (3 - (lg_sl [.ref (base + (215 : Int).toNat), .int (Int32.ofInt x1), .int (Int32.ofInt x2)]).length) Slot.unset).toArray = ls at hl ⊢
  have hl : lv_has ls 3 [(0, .ref (base + (215 : Int).toNat)), (1, .int (Int32.ofInt x1)), (2, .int (Int32.ofInt x2))] := hl
  unfold f_X12_wrongs at hw
  exact u_X12_wrongs_0 X hn σ x1 x2 h_x1 h_x2 _ (lv_sub hl [0, 1, 2] rfl) hw s.heap [] hP va_S.rf hok hro
theorem dX12_item_0 : decode cX12_item 0 = .ok (.aload_n 0, 1) := by decide +kernel
theorem dX12_item_1 : decode cX12_item 1 = .ok (.invokevirtual 171, 3) := by decide +kernel
theorem dX12_item_4 : decode cX12_item 4 = .ok (.istore_n 2, 1) := by decide +kernel
theorem dX12_item_5 : decode cX12_item 5 = .ok (.iload_n 2, 1) := by decide +kernel
theorem dX12_item_6 : decode cX12_item 6 = .ok (.bipush 40, 2) := by decide +kernel
theorem dX12_item_8 : decode cX12_item 8 = .ok (.if_icmp .ne 34, 3) := by decide +kernel
theorem dX12_item_11 : decode cX12_item 11 = .ok (.aload_n 0, 1) := by decide +kernel
theorem dX12_item_12 : decode cX12_item 12 = .ok (.getfield 175, 3) := by decide +kernel
theorem dX12_item_15 : decode cX12_item 15 = .ok (.bipush 6, 2) := by decide +kernel
theorem dX12_item_17 : decode cX12_item 17 = .ok (.if_icmp .ne 12, 3) := by decide +kernel
theorem dX12_item_20 : decode cX12_item 20 = .ok (.aload_n 0, 1) := by decide +kernel
theorem dX12_item_21 : decode cX12_item 21 = .ok (.iconst 4, 1) := by decide +kernel
theorem dX12_item_22 : decode cX12_item 22 = .ok (.aload_n 0, 1) := by decide +kernel
theorem dX12_item_23 : decode cX12_item 23 = .ok (.getfield 162, 3) := by decide +kernel
theorem dX12_item_26 : decode cX12_item 26 = .ok (.invokevirtual 178, 3) := by decide +kernel
theorem dX12_item_29 : decode cX12_item 29 = .ok (.aload_n 0, 1) := by decide +kernel
theorem dX12_item_30 : decode cX12_item 30 = .ok (.dup, 1) := by decide +kernel
theorem dX12_item_31 : decode cX12_item 31 = .ok (.getfield 175, 3) := by decide +kernel
theorem dX12_item_34 : decode cX12_item 34 = .ok (.iconst 1, 1) := by decide +kernel
theorem dX12_item_35 : decode cX12_item 35 = .ok (.iadd, 1) := by decide +kernel
theorem dX12_item_36 : decode cX12_item 36 = .ok (.putfield 175, 3) := by decide +kernel
theorem dX12_item_39 : decode cX12_item 39 = .ok (.goto 116, 3) := by decide +kernel
theorem dX12_item_42 : decode cX12_item 42 = .ok (.iload_n 2, 1) := by decide +kernel
theorem dX12_item_43 : decode cX12_item 43 = .ok (.bipush 120, 2) := by decide +kernel
theorem dX12_item_45 : decode cX12_item 45 = .ok (.if_icmp .eq 9, 3) := by decide +kernel
theorem dX12_item_48 : decode cX12_item 48 = .ok (.iload_n 2, 1) := by decide +kernel
theorem dX12_item_49 : decode cX12_item 49 = .ok (.bipush 117, 2) := by decide +kernel
theorem dX12_item_51 : decode cX12_item 51 = .ok (.if_icmp .ne 63, 3) := by decide +kernel
theorem dX12_item_54 : decode cX12_item 54 = .ok (.aload_n 0, 1) := by decide +kernel
theorem dX12_item_55 : decode cX12_item 55 = .ok (.dup, 1) := by decide +kernel
theorem dX12_item_56 : decode cX12_item 56 = .ok (.getfield 162, 3) := by decide +kernel
theorem dX12_item_59 : decode cX12_item 59 = .ok (.iconst 1, 1) := by decide +kernel
theorem dX12_item_60 : decode cX12_item 60 = .ok (.iadd, 1) := by decide +kernel
theorem dX12_item_61 : decode cX12_item 61 = .ok (.putfield 162, 3) := by decide +kernel
theorem dX12_item_64 : decode cX12_item 64 = .ok (.aload_n 0, 1) := by decide +kernel
theorem dX12_item_65 : decode cX12_item 65 = .ok (.invokevirtual 171, 3) := by decide +kernel
theorem dX12_item_68 : decode cX12_item 68 = .ok (.invokestatic 182, 3) := by decide +kernel
theorem dX12_item_71 : decode cX12_item 71 = .ok (.ifCond .ne 15, 3) := by decide +kernel
theorem dX12_item_74 : decode cX12_item 74 = .ok (.aload_n 0, 1) := by decide +kernel
theorem dX12_item_75 : decode cX12_item 75 = .ok (.iconst 1, 1) := by decide +kernel
theorem dX12_item_76 : decode cX12_item 76 = .ok (.aload_n 0, 1) := by decide +kernel
theorem dX12_item_77 : decode cX12_item 77 = .ok (.getfield 162, 3) := by decide +kernel
theorem dX12_item_80 : decode cX12_item 80 = .ok (.invokevirtual 178, 3) := by decide +kernel
theorem dX12_item_83 : decode cX12_item 83 = .ok (.goto 72, 3) := by decide +kernel
theorem dX12_item_86 : decode cX12_item 86 = .ok (.aload_n 0, 1) := by decide +kernel
theorem dX12_item_87 : decode cX12_item 87 = .ok (.invokevirtual 171, 3) := by decide +kernel
theorem dX12_item_90 : decode cX12_item 90 = .ok (.bipush 48, 2) := by decide +kernel
theorem dX12_item_92 : decode cX12_item 92 = .ok (.isub, 1) := by decide +kernel
theorem dX12_item_93 : decode cX12_item 93 = .ok (.aload_n 0, 1) := by decide +kernel
theorem dX12_item_94 : decode cX12_item 94 = .ok (.getfield 13, 3) := by decide +kernel
theorem dX12_item_97 : decode cX12_item 97 = .ok (.iconst 2, 1) := by decide +kernel
theorem dX12_item_98 : decode cX12_item 98 = .ok (.isub, 1) := by decide +kernel
theorem dX12_item_99 : decode cX12_item 99 = .ok (.if_icmp .le 56, 3) := by decide +kernel
theorem dX12_item_102 : decode cX12_item 102 = .ok (.aload_n 0, 1) := by decide +kernel
theorem dX12_item_103 : decode cX12_item 103 = .ok (.iconst 3, 1) := by decide +kernel
theorem dX12_item_104 : decode cX12_item 104 = .ok (.aload_n 0, 1) := by decide +kernel
theorem dX12_item_105 : decode cX12_item 105 = .ok (.getfield 162, 3) := by decide +kernel
theorem dX12_item_108 : decode cX12_item 108 = .ok (.invokevirtual 178, 3) := by decide +kernel
theorem dX12_item_111 : decode cX12_item 111 = .ok (.goto 44, 3) := by decide +kernel
theorem dX12_item_114 : decode cX12_item 114 = .ok (.iload_n 2, 1) := by decide +kernel
theorem dX12_item_115 : decode cX12_item 115 = .ok (.bipush 65, 2) := by decide +kernel
theorem dX12_item_117 : decode cX12_item 117 = .ok (.if_icmp .lt 29, 3) := by decide +kernel
theorem dX12_item_120 : decode cX12_item 120 = .ok (.iload_n 2, 1) := by decide +kernel
theorem dX12_item_121 : decode cX12_item 121 = .ok (.bipush 81, 2) := by decide +kernel
theorem dX12_item_123 : decode cX12_item 123 = .ok (.if_icmp .ge 23, 3) := by decide +kernel
theorem dX12_item_126 : decode cX12_item 126 = .ok (.iload_n 2, 1) := by decide +kernel
theorem dX12_item_127 : decode cX12_item 127 = .ok (.bipush 65, 2) := by decide +kernel
theorem dX12_item_129 : decode cX12_item 129 = .ok (.isub, 1) := by decide +kernel
theorem dX12_item_130 : decode cX12_item 130 = .ok (.iload_n 1, 1) := by decide +kernel
theorem dX12_item_131 : decode cX12_item 131 = .ok (.if_icmp .lt 24, 3) := by decide +kernel
theorem dX12_item_134 : decode cX12_item 134 = .ok (.aload_n 0, 1) := by decide +kernel
theorem dX12_item_135 : decode cX12_item 135 = .ok (.iconst 3, 1) := by decide +kernel
theorem dX12_item_136 : decode cX12_item 136 = .ok (.aload_n 0, 1) := by decide +kernel
theorem dX12_item_137 : decode cX12_item 137 = .ok (.getfield 162, 3) := by decide +kernel
theorem dX12_item_140 : decode cX12_item 140 = .ok (.invokevirtual 178, 3) := by decide +kernel
theorem dX12_item_143 : decode cX12_item 143 = .ok (.goto 12, 3) := by decide +kernel
theorem dX12_item_146 : decode cX12_item 146 = .ok (.aload_n 0, 1) := by decide +kernel
theorem dX12_item_147 : decode cX12_item 147 = .ok (.iconst 1, 1) := by decide +kernel
theorem dX12_item_148 : decode cX12_item 148 = .ok (.aload_n 0, 1) := by decide +kernel
theorem dX12_item_149 : decode cX12_item 149 = .ok (.getfield 162, 3) := by decide +kernel
theorem dX12_item_152 : decode cX12_item 152 = .ok (.invokevirtual 178, 3) := by decide +kernel
theorem dX12_item_155 : decode cX12_item 155 = .ok (.aload_n 0, 1) := by decide +kernel
theorem dX12_item_156 : decode cX12_item 156 = .ok (.dup, 1) := by decide +kernel
theorem dX12_item_157 : decode cX12_item 157 = .ok (.getfield 162, 3) := by decide +kernel
theorem dX12_item_160 : decode cX12_item 160 = .ok (.iconst 1, 1) := by decide +kernel
theorem dX12_item_161 : decode cX12_item 161 = .ok (.iadd, 1) := by decide +kernel
theorem dX12_item_162 : decode cX12_item 162 = .ok (.putfield 162, 3) := by decide +kernel
theorem dX12_item_165 : decode cX12_item 165 = .ok (.return_, 1) := by decide +kernel
def f_X12_item_u155 (Q : ml_St → Prop) (σ : ml_St) : Prop :=
∀ _ : I32 (σ 215 9),
I32 ((σ 215 9) + 1) ∧
∀ σ3, σ3 = ml_up σ 215 9 ((σ 215 9) + 1) →
Q σ3
def f_X12_item_u29 (Q : ml_St → Prop) (σ : ml_St) : Prop :=
∀ _ : I32 (σ 215 12),
I32 ((σ 215 12) + 1) ∧
∀ σ3, σ3 = ml_up σ 215 12 ((σ 215 12) + 1) →
f_X12_item_u155 Q σ3
def f_X12_item_u54 (Q : ml_St → Prop) (σ : ml_St) : Prop :=
∀ _ : I32 (σ 215 9),
I32 ((σ 215 9) + 1) ∧
∀ σ3, σ3 = ml_up σ 215 9 ((σ 215 9) + 1) →
f_X12_here σ3 (fun r4 σ4 => ∀ _ : I32 r4,
f_X12_isDigit σ4 r4 (fun r5 σ5 => ∀ _ : ml_B r5,
(r5 ≠ 0 →
f_X12_here σ5 (fun r7 σ7 => ∀ _ : I32 r7,
I32 (r7 - 48) ∧
∀ _ : I32 (σ7 215 2),
I32 ((σ7 215 2) - 2) ∧
(((r7 - 48) : Int) ≤ ((σ7 215 2) - 2) →
f_X12_item_u155 Q σ7) ∧
(¬ (((r7 - 48) : Int) ≤ ((σ7 215 2) - 2)) →
∀ _ : I32 (σ7 215 9),
f_X12_wrongs σ7 3 (σ7 215 9) (fun σ13 =>
f_X12_item_u155 Q σ13)))) ∧
(r5 = 0 →
∀ _ : I32 (σ5 215 9),
f_X12_wrongs σ5 1 (σ5 215 9) (fun σ15 =>
f_X12_item_u155 Q σ15))))
def f_X12_item_u146 (Q : ml_St → Prop) (σ : ml_St) : Prop :=
∀ _ : I32 (σ 215 9),
f_X12_wrongs σ 1 (σ 215 9) (fun σ2 =>
f_X12_item_u155 Q σ2)
def f_X12_item_u0 (Q : ml_St → Prop) (σ : ml_St) (x1 : Int) : Prop :=
f_X12_here σ (fun r1 σ1 => ∀ _ : I32 r1,
(r1 ≠ 40 →
(r1 = 120 →
f_X12_item_u54 Q σ1) ∧
(r1 ≠ 120 →
(r1 ≠ 117 →
(r1 < 65 →
f_X12_item_u146 Q σ1) ∧
(¬ (r1 < 65) →
(81 ≤ r1 →
f_X12_item_u146 Q σ1) ∧
(¬ (81 ≤ r1) →
I32 (r1 - 65) ∧
((r1 - 65) < x1 →
f_X12_item_u155 Q σ1) ∧
(¬ ((r1 - 65) < x1) →
∀ _ : I32 (σ1 215 9),
f_X12_wrongs σ1 3 (σ1 215 9) (fun σ10 =>
f_X12_item_u155 Q σ10))))) ∧
(r1 = 117 →
f_X12_item_u54 Q σ1))) ∧
(r1 = 40 →
∀ _ : I32 (σ1 215 12),
(((σ1 215 12) : Int) ≠ 6 →
f_X12_item_u29 Q σ1) ∧
((σ1 215 12) = 6 →
∀ _ : I32 (σ1 215 9),
f_X12_wrongs σ1 4 (σ1 215 9) (fun σ14 =>
f_X12_item_u29 Q σ14))))
def f_X12_item (σ : ml_St) (x1 : Int) (Q : ml_St → Prop) : Prop := f_X12_item_u0 Q σ x1
def rm_X12_item : Room := { frames := 1, cells := 0, slots := 0, locals := 22 }
set_option maxRecDepth 100000 in
set_option maxHeartbeats 4000000 in
theorem u_X12_item_155 {p : Program} {e : Env} {s : State} {m : MethodId} {args : Array Value} {below : List Frame} {meth : Method} {c : Code} {base : Nat} {D : va_G} {cA : Nat → ClassId} {n : Nat} {l : Launch} {Q : ml_St → Prop} (X : ml_X p s m c meth args D cA cX12_item 3 RX12 none) (hn : 256 ≤ n) (σ : ml_St) (ls : Array Slot) (hl : lv_has ls 3 [(0, .ref (base + (215 : Int).toNat))]) (hw : f_X12_item_u155 Q σ) : ml_V p l e rm_X12_item s m args below meth c (MQ below (ml_Qv base D cA n Q) args s 0 0 (ml_A base)) base D cA 0 0 n n σ (F0 m 155 ls []) := by
  unfold f_X12_item_u155 at hw
  refine ml_aload_n (pc := 155) X hl 0 rfl rfl dX12_item_155 ?_
  refine ml_dup (pc := 156) X dX12_item_156 rfl ?_
  refine gf_X12_162 (pc := 157) X (ml_c215 hn) dX12_item_157 (fun r1 => ?_)
  have hw := hw r1
  refine ml_iconst (pc := 160) X dX12_item_160 ?_
  obtain ⟨v2, hw⟩ := hw
  refine ml_iadd (pc := 161) X dX12_item_161 ?_
  refine pf_X12_162 (pc := 162) X (ml_c215 hn) v2 dX12_item_162 (fun σ3 g3 => ?_)
  have hw := hw σ3 g3
  exact ml_vret (pc := 165) X hw dX12_item_165
set_option maxRecDepth 100000 in
set_option maxHeartbeats 4000000 in
theorem u_X12_item_29 {p : Program} {e : Env} {s : State} {m : MethodId} {args : Array Value} {below : List Frame} {meth : Method} {c : Code} {base : Nat} {D : va_G} {cA : Nat → ClassId} {n : Nat} {l : Launch} {Q : ml_St → Prop} (X : ml_X p s m c meth args D cA cX12_item 3 RX12 none) (hn : 256 ≤ n) (σ : ml_St) (ls : Array Slot) (hl : lv_has ls 3 [(0, .ref (base + (215 : Int).toNat))]) (hw : f_X12_item_u29 Q σ) : ml_V p l e rm_X12_item s m args below meth c (MQ below (ml_Qv base D cA n Q) args s 0 0 (ml_A base)) base D cA 0 0 n n σ (F0 m 29 ls []) := by
  unfold f_X12_item_u29 at hw
  refine ml_aload_n (pc := 29) X hl 0 rfl rfl dX12_item_29 ?_
  refine ml_dup (pc := 30) X dX12_item_30 rfl ?_
  refine gf_X12_175 (pc := 31) X (ml_c215 hn) dX12_item_31 (fun r1 => ?_)
  have hw := hw r1
  refine ml_iconst (pc := 34) X dX12_item_34 ?_
  obtain ⟨v2, hw⟩ := hw
  refine ml_iadd (pc := 35) X dX12_item_35 ?_
  refine pf_X12_175 (pc := 36) X (ml_c215 hn) v2 dX12_item_36 (fun σ3 g3 => ?_)
  have hw := hw σ3 g3
  refine ml_goto (pc := 39) (tgt := 155) X dX12_item_39 (by decide) ?_
  exact u_X12_item_155 X hn σ3   _ (lv_sub hl [0] rfl) hw
set_option maxRecDepth 100000 in
set_option maxHeartbeats 4000000 in
theorem u_X12_item_54 {p : Program} {e : Env} {s : State} {m : MethodId} {args : Array Value} {below : List Frame} {meth : Method} {c : Code} {base : Nat} {D : va_G} {cA : Nat → ClassId} {n : Nat} {l : Launch} {Q : ml_St → Prop} (X : ml_X p s m c meth args D cA cX12_item 3 RX12 none) (hn : 256 ≤ n) (σ : ml_St) (ls : Array Slot) (hl : lv_has ls 3 [(0, .ref (base + (215 : Int).toNat))]) (hw : f_X12_item_u54 Q σ) : ml_V p l e rm_X12_item s m args below meth c (MQ below (ml_Qv base D cA n Q) args s 0 0 (ml_A base)) base D cA 0 0 n n σ (F0 m 54 ls []) := by
  unfold f_X12_item_u54 at hw
  refine ml_aload_n (pc := 54) X hl 0 rfl rfl dX12_item_54 ?_
  refine ml_dup (pc := 55) X dX12_item_55 rfl ?_
  refine gf_X12_162 (pc := 56) X (ml_c215 hn) dX12_item_56 (fun r1 => ?_)
  have hw := hw r1
  refine ml_iconst (pc := 59) X dX12_item_59 ?_
  obtain ⟨v2, hw⟩ := hw
  refine ml_iadd (pc := 60) X dX12_item_60 ?_
  refine pf_X12_162 (pc := 61) X (ml_c215 hn) v2 dX12_item_61 (fun σ3 g3 => ?_)
  have hw := hw σ3 g3
  refine ml_aload_n (pc := 64) X hl 0 rfl rfl dX12_item_64 ?_
  refine ml_calliV (pc := 65) (rest := []) X [] (by decide) rfl (ml_c215 hn) (c_X12_here l base D cA n hn σ3 _ hw) cv_X12_171 ⟨rfl, rfl⟩ ⟨by decide, by decide⟩ rfl rfl hl (Nat.le_of_ble_eq_true rfl) ⟨Nat.zero_le _, Nat.zero_le _⟩ dX12_item_65 (fun r4 σ4 t4 hw => ?_)
  have hw := hw t4
  refine ml_callzS (pc := 68) (rest := []) X [.int (Int32.ofInt r4)] (c_X12_isDigit l base D cA n hn σ4 r4 t4 _ hw) cv_X12_182 ⟨rfl, rfl⟩ ⟨by decide, by decide⟩ rfl rfl hl (Nat.le_of_ble_eq_true rfl) ⟨Nat.zero_le _, Nat.zero_le _⟩ dX12_item_68 (fun r5 σ5 t5 hw => ?_)
  have hw := hw t5
  refine ml_if_ne (pc := 71) (tgt := 86) X t5.i dX12_item_71 (by decide) (fun c6 => ?_) (fun c6 => ?_)
  · have hw := hw.1 c6
    refine ml_aload_n (pc := 86) X hl 0 rfl rfl dX12_item_86 ?_
    refine ml_calliV (pc := 87) (rest := []) X [] (by decide) rfl (ml_c215 hn) (c_X12_here l base D cA n hn σ5 _ hw) cv_X12_171 ⟨rfl, rfl⟩ ⟨by decide, by decide⟩ rfl rfl hl (Nat.le_of_ble_eq_true rfl) ⟨Nat.zero_le _, Nat.zero_le _⟩ dX12_item_87 (fun r7 σ7 t7 hw => ?_)
    have hw := hw t7
    refine ml_bipush (pc := 90) X dX12_item_90 (by decide) ?_
    obtain ⟨v8, hw⟩ := hw
    refine ml_isub (pc := 92) X dX12_item_92 ?_
    refine ml_aload_n (pc := 93) X hl 0 rfl rfl dX12_item_93 ?_
    refine gf_X12_13 (pc := 94) X (ml_c215 hn) dX12_item_94 (fun r9 => ?_)
    have hw := hw r9
    refine ml_iconst (pc := 97) X dX12_item_97 ?_
    obtain ⟨v10, hw⟩ := hw
    refine ml_isub (pc := 98) X dX12_item_98 ?_
    refine ml_icmp_le (pc := 99) (tgt := 155) X v8 v10 dX12_item_99 (by decide) (fun c11 => ?_) (fun c11 => ?_)
    · have hw := hw.1 c11
      exact u_X12_item_155 X hn σ7   _ (lv_sub hl [0] rfl) hw
    · have hw := hw.2 c11
      refine ml_aload_n (pc := 102) X hl 0 rfl rfl dX12_item_102 ?_
      refine ml_iconst (pc := 103) X dX12_item_103 ?_
      refine ml_aload_n (pc := 104) X hl 0 rfl rfl dX12_item_104 ?_
      refine gf_X12_162 (pc := 105) X (ml_c215 hn) dX12_item_105 (fun r12 => ?_)
      have hw := hw r12
      refine ml_callvV (pc := 108) (rest := []) X [.int (Int32.ofInt 3), .int (Int32.ofInt (σ7 215 9))] (by decide) rfl (ml_c215 hn) (c_X12_wrongs l base D cA n hn σ7 3 (σ7 215 9) ⟨by decide, by decide⟩ r12 _ hw) cv_X12_178 ⟨rfl, rfl⟩ ⟨by decide, by decide⟩ rfl rfl hl (Nat.le_of_ble_eq_true rfl) ⟨Nat.zero_le _, Nat.zero_le _⟩ dX12_item_108 (fun σ13 hw => ?_)
      refine ml_goto (pc := 111) (tgt := 155) X dX12_item_111 (by decide) ?_
      exact u_X12_item_155 X hn σ13   _ (lv_sub hl [0] rfl) hw
  · have hw := hw.2 c6
    refine ml_aload_n (pc := 74) X hl 0 rfl rfl dX12_item_74 ?_
    refine ml_iconst (pc := 75) X dX12_item_75 ?_
    refine ml_aload_n (pc := 76) X hl 0 rfl rfl dX12_item_76 ?_
    refine gf_X12_162 (pc := 77) X (ml_c215 hn) dX12_item_77 (fun r14 => ?_)
    have hw := hw r14
    refine ml_callvV (pc := 80) (rest := []) X [.int (Int32.ofInt 1), .int (Int32.ofInt (σ5 215 9))] (by decide) rfl (ml_c215 hn) (c_X12_wrongs l base D cA n hn σ5 1 (σ5 215 9) ⟨by decide, by decide⟩ r14 _ hw) cv_X12_178 ⟨rfl, rfl⟩ ⟨by decide, by decide⟩ rfl rfl hl (Nat.le_of_ble_eq_true rfl) ⟨Nat.zero_le _, Nat.zero_le _⟩ dX12_item_80 (fun σ15 hw => ?_)
    refine ml_goto (pc := 83) (tgt := 155) X dX12_item_83 (by decide) ?_
    exact u_X12_item_155 X hn σ15   _ (lv_sub hl [0] rfl) hw
set_option maxRecDepth 100000 in
set_option maxHeartbeats 4000000 in
theorem u_X12_item_146 {p : Program} {e : Env} {s : State} {m : MethodId} {args : Array Value} {below : List Frame} {meth : Method} {c : Code} {base : Nat} {D : va_G} {cA : Nat → ClassId} {n : Nat} {l : Launch} {Q : ml_St → Prop} (X : ml_X p s m c meth args D cA cX12_item 3 RX12 none) (hn : 256 ≤ n) (σ : ml_St) (ls : Array Slot) (hl : lv_has ls 3 [(0, .ref (base + (215 : Int).toNat))]) (hw : f_X12_item_u146 Q σ) : ml_V p l e rm_X12_item s m args below meth c (MQ below (ml_Qv base D cA n Q) args s 0 0 (ml_A base)) base D cA 0 0 n n σ (F0 m 146 ls []) := by
  unfold f_X12_item_u146 at hw
  refine ml_aload_n (pc := 146) X hl 0 rfl rfl dX12_item_146 ?_
  refine ml_iconst (pc := 147) X dX12_item_147 ?_
  refine ml_aload_n (pc := 148) X hl 0 rfl rfl dX12_item_148 ?_
  refine gf_X12_162 (pc := 149) X (ml_c215 hn) dX12_item_149 (fun r1 => ?_)
  have hw := hw r1
  refine ml_callvV (pc := 152) (rest := []) X [.int (Int32.ofInt 1), .int (Int32.ofInt (σ 215 9))] (by decide) rfl (ml_c215 hn) (c_X12_wrongs l base D cA n hn σ 1 (σ 215 9) ⟨by decide, by decide⟩ r1 _ hw) cv_X12_178 ⟨rfl, rfl⟩ ⟨by decide, by decide⟩ rfl rfl hl (Nat.le_of_ble_eq_true rfl) ⟨Nat.zero_le _, Nat.zero_le _⟩ dX12_item_152 (fun σ2 hw => ?_)
  exact u_X12_item_155 X hn σ2   _ (lv_sub hl [0] rfl) hw
set_option maxRecDepth 100000 in
set_option maxHeartbeats 4000000 in
theorem u_X12_item_0 {p : Program} {e : Env} {s : State} {m : MethodId} {args : Array Value} {below : List Frame} {meth : Method} {c : Code} {base : Nat} {D : va_G} {cA : Nat → ClassId} {n : Nat} {l : Launch} {Q : ml_St → Prop} (X : ml_X p s m c meth args D cA cX12_item 3 RX12 none) (hn : 256 ≤ n) (σ : ml_St) (x1 : Int) (h_x1 : I32 x1) (ls : Array Slot) (hl : lv_has ls 3 [(0, .ref (base + (215 : Int).toNat)), (1, .int (Int32.ofInt x1))]) (hw : f_X12_item_u0 Q σ x1) : ml_V p l e rm_X12_item s m args below meth c (MQ below (ml_Qv base D cA n Q) args s 0 0 (ml_A base)) base D cA 0 0 n n σ (F0 m 0 ls []) := by
  unfold f_X12_item_u0 at hw
  refine ml_aload_n (pc := 0) X hl 0 rfl rfl dX12_item_0 ?_
  refine ml_calliV (pc := 1) (rest := []) X [] (by decide) rfl (ml_c215 hn) (c_X12_here l base D cA n hn σ _ hw) cv_X12_171 ⟨rfl, rfl⟩ ⟨by decide, by decide⟩ rfl rfl hl (Nat.le_of_ble_eq_true rfl) ⟨Nat.zero_le _, Nat.zero_le _⟩ dX12_item_1 (fun r1 σ1 t1 hw => ?_)
  have hw := hw t1
  refine ml_istore_n (pc := 4) X rfl hl (by decide) (lst' := [(2, .int (Int32.ofInt r1)), (0, .ref (base + (215 : Int).toNat)), (1, .int (Int32.ofInt x1))]) rfl dX12_item_4 (fun ls hl => ?_)
  refine ml_iload_n (pc := 5) X hl 0 rfl rfl dX12_item_5 ?_
  refine ml_bipush (pc := 6) X dX12_item_6 (by decide) ?_
  refine ml_icmp_ne (pc := 8) (tgt := 42) X t1 ⟨by decide, by decide⟩ dX12_item_8 (by decide) (fun c2 => ?_) (fun c2 => ?_)
  · have hw := hw.1 c2
    refine ml_iload_n (pc := 42) X hl 0 rfl rfl dX12_item_42 ?_
    refine ml_bipush (pc := 43) X dX12_item_43 (by decide) ?_
    refine ml_icmp_eq (pc := 45) (tgt := 54) X t1 ⟨by decide, by decide⟩ dX12_item_45 (by decide) (fun c3 => ?_) (fun c3 => ?_)
    · have hw := hw.1 c3
      exact u_X12_item_54 X hn σ1   _ (lv_sub hl [1] rfl) hw
    · have hw := hw.2 c3
      refine ml_iload_n (pc := 48) X hl 0 rfl rfl dX12_item_48 ?_
      refine ml_bipush (pc := 49) X dX12_item_49 (by decide) ?_
      refine ml_icmp_ne (pc := 51) (tgt := 114) X t1 ⟨by decide, by decide⟩ dX12_item_51 (by decide) (fun c4 => ?_) (fun c4 => ?_)
      · have hw := hw.1 c4
        refine ml_iload_n (pc := 114) X hl 0 rfl rfl dX12_item_114 ?_
        refine ml_bipush (pc := 115) X dX12_item_115 (by decide) ?_
        refine ml_icmp_lt (pc := 117) (tgt := 146) X t1 ⟨by decide, by decide⟩ dX12_item_117 (by decide) (fun c5 => ?_) (fun c5 => ?_)
        · have hw := hw.1 c5
          exact u_X12_item_146 X hn σ1   _ (lv_sub hl [1] rfl) hw
        · have hw := hw.2 c5
          refine ml_iload_n (pc := 120) X hl 0 rfl rfl dX12_item_120 ?_
          refine ml_bipush (pc := 121) X dX12_item_121 (by decide) ?_
          refine ml_icmp_ge (pc := 123) (tgt := 146) X t1 ⟨by decide, by decide⟩ dX12_item_123 (by decide) (fun c6 => ?_) (fun c6 => ?_)
          · have hw := hw.1 c6
            exact u_X12_item_146 X hn σ1   _ (lv_sub hl [1] rfl) hw
          · have hw := hw.2 c6
            refine ml_iload_n (pc := 126) X hl 0 rfl rfl dX12_item_126 ?_
            refine ml_bipush (pc := 127) X dX12_item_127 (by decide) ?_
            obtain ⟨v7, hw⟩ := hw
            refine ml_isub (pc := 129) X dX12_item_129 ?_
            refine ml_iload_n (pc := 130) X hl 2 rfl rfl dX12_item_130 ?_
            refine ml_icmp_lt (pc := 131) (tgt := 155) X v7 h_x1 dX12_item_131 (by decide) (fun c8 => ?_) (fun c8 => ?_)
            · have hw := hw.1 c8
              exact u_X12_item_155 X hn σ1   _ (lv_sub hl [1] rfl) hw
            · have hw := hw.2 c8
              refine ml_aload_n (pc := 134) X hl 1 rfl rfl dX12_item_134 ?_
              refine ml_iconst (pc := 135) X dX12_item_135 ?_
              refine ml_aload_n (pc := 136) X hl 1 rfl rfl dX12_item_136 ?_
              refine gf_X12_162 (pc := 137) X (ml_c215 hn) dX12_item_137 (fun r9 => ?_)
              have hw := hw r9
              refine ml_callvV (pc := 140) (rest := []) X [.int (Int32.ofInt 3), .int (Int32.ofInt (σ1 215 9))] (by decide) rfl (ml_c215 hn) (c_X12_wrongs l base D cA n hn σ1 3 (σ1 215 9) ⟨by decide, by decide⟩ r9 _ hw) cv_X12_178 ⟨rfl, rfl⟩ ⟨by decide, by decide⟩ rfl rfl hl (Nat.le_of_ble_eq_true rfl) ⟨Nat.zero_le _, Nat.zero_le _⟩ dX12_item_140 (fun σ10 hw => ?_)
              refine ml_goto (pc := 143) (tgt := 155) X dX12_item_143 (by decide) ?_
              exact u_X12_item_155 X hn σ10   _ (lv_sub hl [1] rfl) hw
      · have hw := hw.2 c4
        exact u_X12_item_54 X hn σ1   _ (lv_sub hl [1] rfl) hw
  · have hw := hw.2 c2
    refine ml_aload_n (pc := 11) X hl 1 rfl rfl dX12_item_11 ?_
    refine gf_X12_175 (pc := 12) X (ml_c215 hn) dX12_item_12 (fun r11 => ?_)
    have hw := hw r11
    refine ml_bipush (pc := 15) X dX12_item_15 (by decide) ?_
    refine ml_icmp_ne (pc := 17) (tgt := 29) X r11 ⟨by decide, by decide⟩ dX12_item_17 (by decide) (fun c12 => ?_) (fun c12 => ?_)
    · have hw := hw.1 c12
      exact u_X12_item_29 X hn σ1   _ (lv_sub hl [1] rfl) hw
    · have hw := hw.2 c12
      refine ml_aload_n (pc := 20) X hl 1 rfl rfl dX12_item_20 ?_
      refine ml_iconst (pc := 21) X dX12_item_21 ?_
      refine ml_aload_n (pc := 22) X hl 1 rfl rfl dX12_item_22 ?_
      refine gf_X12_162 (pc := 23) X (ml_c215 hn) dX12_item_23 (fun r13 => ?_)
      have hw := hw r13
      refine ml_callvV (pc := 26) (rest := []) X [.int (Int32.ofInt 4), .int (Int32.ofInt (σ1 215 9))] (by decide) rfl (ml_c215 hn) (c_X12_wrongs l base D cA n hn σ1 4 (σ1 215 9) ⟨by decide, by decide⟩ r13 _ hw) cv_X12_178 ⟨rfl, rfl⟩ ⟨by decide, by decide⟩ rfl rfl hl (Nat.le_of_ble_eq_true rfl) ⟨Nat.zero_le _, Nat.zero_le _⟩ dX12_item_26 (fun σ14 hw => ?_)
      exact u_X12_item_29 X hn σ14   _ (lv_sub hl [1] rfl) hw
set_option maxRecDepth 100000 in
theorem c_X12_item (l : Launch) (base : Nat) (D : va_G) (cA : Nat → ClassId) (n : Nat) (hn : 256 ≤ n) (σ : ml_St) (x1 : Int) (h_x1 : I32 x1) (Q : ml_St → Prop) (hw : f_X12_item σ x1 Q) : Met l yX12_item (Cond.code yX12_item cX12_item 3 none :: ml_T) rm_X12_item (va_Pc [.ref (base + (215 : Int).toNat), .int (Int32.ofInt x1)] (ml_U base D cA n σ)) (ml_Qv base D cA n Q) 0 0 (ml_A base) := by
  refine Met.ofW (cc := cX12_item) (maxL := 3) (ret := none) (by decide) rfl ?_
  intro p e s m args below meth c s₁ B hml hv
  obtain ⟨rfl, hP, hK, hok, hro⟩ := hv
  have X : ml_X p s m c meth _ D cA cX12_item 3 RX12 none := ⟨B.exec, B.bytes, hml, findClass_of_methodNamed B.named, fun w hw => atoms_spec (ws := Cond.code yX12_item cX12_item 3 none :: ml_T) B.pre w (List.mem_cons_of_mem _ hw), hK, B.notSynchronized, B.returns⟩
  have hl := lv_entry [.ref (base + (215 : Int).toNat), .int (Int32.ofInt x1)] (n := 3) (Nat.le_of_ble_eq_true rfl)
  rw [lg_entry_eq]
  generalize (lg_sl [.ref (base + (215 : Int).toNat), .int (Int32.ofInt x1)] ++ List.replicate (3 - (lg_sl [.ref (base + (215 : Int).toNat), .int (Int32.ofInt x1)]).length) Slot.unset).toArray = ls at hl ⊢
  have hl : lv_has ls 3 [(0, .ref (base + (215 : Int).toNat)), (1, .int (Int32.ofInt x1))] := hl
  unfold f_X12_item at hw
  exact u_X12_item_0 X hn σ x1 h_x1 _ (lv_sub hl [0, 1] rfl) hw s.heap [] hP va_S.rf hok hro
theorem dX12_repeatsTold_0 : decode cX12_repeatsTold 0 = .ok (.aload_n 0, 1) := by decide +kernel
theorem dX12_repeatsTold_1 : decode cX12_repeatsTold 1 = .ok (.invokevirtual 171, 3) := by decide +kernel
theorem dX12_repeatsTold_4 : decode cX12_repeatsTold 4 = .ok (.bipush 42, 2) := by decide +kernel
theorem dX12_repeatsTold_6 : decode cX12_repeatsTold 6 = .ok (.if_icmp .eq 4, 3) := by decide +kernel
theorem dX12_repeatsTold_9 : decode cX12_repeatsTold 9 = .ok (.return_, 1) := by decide +kernel
theorem dX12_repeatsTold_10 : decode cX12_repeatsTold 10 = .ok (.aload_n 0, 1) := by decide +kernel
theorem dX12_repeatsTold_11 : decode cX12_repeatsTold 11 = .ok (.dup, 1) := by decide +kernel
theorem dX12_repeatsTold_12 : decode cX12_repeatsTold 12 = .ok (.getfield 162, 3) := by decide +kernel
theorem dX12_repeatsTold_15 : decode cX12_repeatsTold 15 = .ok (.iconst 1, 1) := by decide +kernel
theorem dX12_repeatsTold_16 : decode cX12_repeatsTold 16 = .ok (.iadd, 1) := by decide +kernel
theorem dX12_repeatsTold_17 : decode cX12_repeatsTold 17 = .ok (.putfield 162, 3) := by decide +kernel
theorem dX12_repeatsTold_20 : decode cX12_repeatsTold 20 = .ok (.aload_n 0, 1) := by decide +kernel
theorem dX12_repeatsTold_21 : decode cX12_repeatsTold 21 = .ok (.getfield 162, 3) := by decide +kernel
theorem dX12_repeatsTold_24 : decode cX12_repeatsTold 24 = .ok (.istore_n 1, 1) := by decide +kernel
theorem dX12_repeatsTold_25 : decode cX12_repeatsTold 25 = .ok (.aload_n 0, 1) := by decide +kernel
theorem dX12_repeatsTold_26 : decode cX12_repeatsTold 26 = .ok (.invokevirtual 171, 3) := by decide +kernel
theorem dX12_repeatsTold_29 : decode cX12_repeatsTold 29 = .ok (.invokestatic 182, 3) := by decide +kernel
theorem dX12_repeatsTold_32 : decode cX12_repeatsTold 32 = .ok (.ifCond .ne 12, 3) := by decide +kernel
theorem dX12_repeatsTold_35 : decode cX12_repeatsTold 35 = .ok (.aload_n 0, 1) := by decide +kernel
theorem dX12_repeatsTold_36 : decode cX12_repeatsTold 36 = .ok (.iconst 1, 1) := by decide +kernel
theorem dX12_repeatsTold_37 : decode cX12_repeatsTold 37 = .ok (.aload_n 0, 1) := by decide +kernel
theorem dX12_repeatsTold_38 : decode cX12_repeatsTold 38 = .ok (.getfield 162, 3) := by decide +kernel
theorem dX12_repeatsTold_41 : decode cX12_repeatsTold 41 = .ok (.invokevirtual 178, 3) := by decide +kernel
theorem dX12_repeatsTold_44 : decode cX12_repeatsTold 44 = .ok (.aload_n 0, 1) := by decide +kernel
theorem dX12_repeatsTold_45 : decode cX12_repeatsTold 45 = .ok (.invokevirtual 186, 3) := by decide +kernel
theorem dX12_repeatsTold_48 : decode cX12_repeatsTold 48 = .ok (.ifCond .eq 46, 3) := by decide +kernel
theorem dX12_repeatsTold_51 : decode cX12_repeatsTold 51 = .ok (.aload_n 0, 1) := by decide +kernel
theorem dX12_repeatsTold_52 : decode cX12_repeatsTold 52 = .ok (.invokevirtual 171, 3) := by decide +kernel
theorem dX12_repeatsTold_55 : decode cX12_repeatsTold 55 = .ok (.invokestatic 182, 3) := by decide +kernel
theorem dX12_repeatsTold_58 : decode cX12_repeatsTold 58 = .ok (.ifCond .eq 36, 3) := by decide +kernel
theorem dX12_repeatsTold_61 : decode cX12_repeatsTold 61 = .ok (.aload_n 0, 1) := by decide +kernel
theorem dX12_repeatsTold_62 : decode cX12_repeatsTold 62 = .ok (.getfield 162, 3) := by decide +kernel
theorem dX12_repeatsTold_65 : decode cX12_repeatsTold 65 = .ok (.iload_n 1, 1) := by decide +kernel
theorem dX12_repeatsTold_66 : decode cX12_repeatsTold 66 = .ok (.bipush 9, 2) := by decide +kernel
theorem dX12_repeatsTold_68 : decode cX12_repeatsTold 68 = .ok (.iadd, 1) := by decide +kernel
theorem dX12_repeatsTold_69 : decode cX12_repeatsTold 69 = .ok (.if_icmp .ne 12, 3) := by decide +kernel
theorem dX12_repeatsTold_72 : decode cX12_repeatsTold 72 = .ok (.aload_n 0, 1) := by decide +kernel
theorem dX12_repeatsTold_73 : decode cX12_repeatsTold 73 = .ok (.iconst 2, 1) := by decide +kernel
theorem dX12_repeatsTold_74 : decode cX12_repeatsTold 74 = .ok (.aload_n 0, 1) := by decide +kernel
theorem dX12_repeatsTold_75 : decode cX12_repeatsTold 75 = .ok (.getfield 162, 3) := by decide +kernel
theorem dX12_repeatsTold_78 : decode cX12_repeatsTold 78 = .ok (.invokevirtual 178, 3) := by decide +kernel
theorem dX12_repeatsTold_81 : decode cX12_repeatsTold 81 = .ok (.aload_n 0, 1) := by decide +kernel
theorem dX12_repeatsTold_82 : decode cX12_repeatsTold 82 = .ok (.dup, 1) := by decide +kernel
theorem dX12_repeatsTold_83 : decode cX12_repeatsTold 83 = .ok (.getfield 162, 3) := by decide +kernel
theorem dX12_repeatsTold_86 : decode cX12_repeatsTold 86 = .ok (.iconst 1, 1) := by decide +kernel
theorem dX12_repeatsTold_87 : decode cX12_repeatsTold 87 = .ok (.iadd, 1) := by decide +kernel
theorem dX12_repeatsTold_88 : decode cX12_repeatsTold 88 = .ok (.putfield 162, 3) := by decide +kernel
theorem dX12_repeatsTold_91 : decode cX12_repeatsTold 91 = .ok (.goto (-47), 3) := by decide +kernel
theorem dX12_repeatsTold_94 : decode cX12_repeatsTold 94 = .ok (.return_, 1) := by decide +kernel
def f_X12_repeatsTold_u81 (Q : ml_St → Prop) (K44 : ml_St → Int → Prop) (σ : ml_St) (x1 : Int) : Prop :=
∀ _ : I32 (σ 215 9),
I32 ((σ 215 9) + 1) ∧
∀ σ3, σ3 = ml_up σ 215 9 ((σ 215 9) + 1) →
K44 σ3 x1
def f_X12_repeatsTold_u44 (Q : ml_St → Prop) (K94 : ml_St → Prop) : Nat → ml_St → Int → Prop
| 0, _, _ => False
| N + 1, σ, x1 =>
f_X12_isGood σ (fun r1 σ1 => ∀ _ : ml_B r1,
(r1 = 0 →
K94 σ1) ∧
(r1 ≠ 0 →
f_X12_here σ1 (fun r3 σ3 => ∀ _ : I32 r3,
f_X12_isDigit σ3 r3 (fun r4 σ4 => ∀ _ : ml_B r4,
(r4 = 0 →
K94 σ4) ∧
(r4 ≠ 0 →
∀ _ : I32 (σ4 215 9),
I32 (x1 + 9) ∧
(((σ4 215 9) : Int) ≠ (x1 + 9) →
f_X12_repeatsTold_u81 Q (f_X12_repeatsTold_u44 Q K94 N) σ4 x1) ∧
((σ4 215 9) = (x1 + 9) →
∀ _ : I32 (σ4 215 9),
f_X12_wrongs σ4 2 (σ4 215 9) (fun σ10 =>
f_X12_repeatsTold_u81 Q (f_X12_repeatsTold_u44 Q K94 N) σ10 x1)))))))
def f_X12_repeatsTold_u94 (Q : ml_St → Prop) (σ : ml_St) : Prop :=
Q σ
def f_X12_repeatsTold_u0 (Q : ml_St → Prop) (σ : ml_St) : Prop :=
f_X12_here σ (fun r1 σ1 => ∀ _ : I32 r1,
(r1 = 42 →
∀ _ : I32 (σ1 215 9),
I32 ((σ1 215 9) + 1) ∧
∀ σ5, σ5 = ml_up σ1 215 9 ((σ1 215 9) + 1) →
∀ _ : I32 (σ5 215 9),
∀ y7 : Int, y7 = σ5 215 9 →
f_X12_here σ5 (fun r8 σ8 => ∀ _ : I32 r8,
f_X12_isDigit σ8 r8 (fun r9 σ9 => ∀ _ : ml_B r9,
(r9 ≠ 0 →
∃ N1, f_X12_repeatsTold_u44 Q (f_X12_repeatsTold_u94 Q) N1 σ9 y7) ∧
(r9 = 0 →
∀ _ : I32 (σ9 215 9),
f_X12_wrongs σ9 1 (σ9 215 9) (fun σ12 =>
∃ N1, f_X12_repeatsTold_u44 Q (f_X12_repeatsTold_u94 Q) N1 σ12 y7))))) ∧
(r1 ≠ 42 →
Q σ1))
def f_X12_repeatsTold (σ : ml_St) (Q : ml_St → Prop) : Prop := f_X12_repeatsTold_u0 Q σ
def rm_X12_repeatsTold : Room := { frames := 1, cells := 0, slots := 0, locals := 22 }
set_option maxRecDepth 100000 in
set_option maxHeartbeats 4000000 in
theorem u_X12_repeatsTold_81 {p : Program} {e : Env} {s : State} {m : MethodId} {args : Array Value} {below : List Frame} {meth : Method} {c : Code} {base : Nat} {D : va_G} {cA : Nat → ClassId} {n : Nat} {l : Launch} {Q : ml_St → Prop} {K44 : ml_St → Int → Prop} (X : ml_X p s m c meth args D cA cX12_repeatsTold 2 RX12 none) (hn : 256 ≤ n) (hK44 : ∀ (σ : ml_St) (x1 : Int) (h_x1 : I32 x1) (ls : Array Slot), lv_has ls 2 [(0, .ref (base + (215 : Int).toNat)), (1, .int (Int32.ofInt x1))] → K44 σ x1 → ml_V p l e rm_X12_repeatsTold s m args below meth c (MQ below (ml_Qv base D cA n Q) args s 0 0 (ml_A base)) base D cA 0 0 n n σ (F0 m 44 ls [])) (σ : ml_St) (x1 : Int) (h_x1 : I32 x1) (ls : Array Slot) (hl : lv_has ls 2 [(0, .ref (base + (215 : Int).toNat)), (1, .int (Int32.ofInt x1))]) (hw : f_X12_repeatsTold_u81 Q K44 σ x1) : ml_V p l e rm_X12_repeatsTold s m args below meth c (MQ below (ml_Qv base D cA n Q) args s 0 0 (ml_A base)) base D cA 0 0 n n σ (F0 m 81 ls []) := by
  unfold f_X12_repeatsTold_u81 at hw
  refine ml_aload_n (pc := 81) X hl 0 rfl rfl dX12_repeatsTold_81 ?_
  refine ml_dup (pc := 82) X dX12_repeatsTold_82 rfl ?_
  refine gf_X12_162 (pc := 83) X (ml_c215 hn) dX12_repeatsTold_83 (fun r1 => ?_)
  have hw := hw r1
  refine ml_iconst (pc := 86) X dX12_repeatsTold_86 ?_
  obtain ⟨v2, hw⟩ := hw
  refine ml_iadd (pc := 87) X dX12_repeatsTold_87 ?_
  refine pf_X12_162 (pc := 88) X (ml_c215 hn) v2 dX12_repeatsTold_88 (fun σ3 g3 => ?_)
  have hw := hw σ3 g3
  refine ml_goto (pc := 91) (tgt := 44) X dX12_repeatsTold_91 (by decide) ?_
  exact hK44 σ3 x1 h_x1 _ (lv_sub hl [0, 1] rfl) hw
set_option maxRecDepth 100000 in
set_option maxHeartbeats 4000000 in
theorem u_X12_repeatsTold_44 {p : Program} {e : Env} {s : State} {m : MethodId} {args : Array Value} {below : List Frame} {meth : Method} {c : Code} {base : Nat} {D : va_G} {cA : Nat → ClassId} {n : Nat} {l : Launch} {Q : ml_St → Prop} {K94 : ml_St → Prop} (X : ml_X p s m c meth args D cA cX12_repeatsTold 2 RX12 none) (hn : 256 ≤ n) (hK94 : ∀ (σ : ml_St) (ls : Array Slot), lv_has ls 2 [] → K94 σ → ml_V p l e rm_X12_repeatsTold s m args below meth c (MQ below (ml_Qv base D cA n Q) args s 0 0 (ml_A base)) base D cA 0 0 n n σ (F0 m 94 ls [])) : ∀ (N : Nat) (σ : ml_St) (x1 : Int) (h_x1 : I32 x1) (ls : Array Slot), lv_has ls 2 [(0, .ref (base + (215 : Int).toNat)), (1, .int (Int32.ofInt x1))] → f_X12_repeatsTold_u44 Q K94 N σ x1 → ml_V p l e rm_X12_repeatsTold s m args below meth c (MQ below (ml_Qv base D cA n Q) args s 0 0 (ml_A base)) base D cA 0 0 n n σ (F0 m 44 ls []) := by
  intro N
  induction N with
  | zero => intro σ x1 h_x1 ls hl hw; exact False.elim hw
  | succ N ih =>
    intro σ x1 h_x1 ls hl hw
    unfold f_X12_repeatsTold_u44 at hw
    refine ml_aload_n (pc := 44) X hl 0 rfl rfl dX12_repeatsTold_44 ?_
    refine ml_callzV (pc := 45) (rest := []) X [] (by decide) rfl (ml_c215 hn) (c_X12_isGood l base D cA n hn σ _ hw) cv_X12_186 ⟨rfl, rfl⟩ ⟨by decide, by decide⟩ rfl rfl hl (Nat.le_of_ble_eq_true rfl) ⟨Nat.zero_le _, Nat.zero_le _⟩ dX12_repeatsTold_45 (fun r1 σ1 t1 hw => ?_)
    have hw := hw t1
    refine ml_if_eq (pc := 48) (tgt := 94) X t1.i dX12_repeatsTold_48 (by decide) (fun c2 => ?_) (fun c2 => ?_)
    · have hw := hw.1 c2
      exact hK94 σ1   _ (lv_sub hl [] rfl) hw
    · have hw := hw.2 c2
      refine ml_aload_n (pc := 51) X hl 0 rfl rfl dX12_repeatsTold_51 ?_
      refine ml_calliV (pc := 52) (rest := []) X [] (by decide) rfl (ml_c215 hn) (c_X12_here l base D cA n hn σ1 _ hw) cv_X12_171 ⟨rfl, rfl⟩ ⟨by decide, by decide⟩ rfl rfl hl (Nat.le_of_ble_eq_true rfl) ⟨Nat.zero_le _, Nat.zero_le _⟩ dX12_repeatsTold_52 (fun r3 σ3 t3 hw => ?_)
      have hw := hw t3
      refine ml_callzS (pc := 55) (rest := []) X [.int (Int32.ofInt r3)] (c_X12_isDigit l base D cA n hn σ3 r3 t3 _ hw) cv_X12_182 ⟨rfl, rfl⟩ ⟨by decide, by decide⟩ rfl rfl hl (Nat.le_of_ble_eq_true rfl) ⟨Nat.zero_le _, Nat.zero_le _⟩ dX12_repeatsTold_55 (fun r4 σ4 t4 hw => ?_)
      have hw := hw t4
      refine ml_if_eq (pc := 58) (tgt := 94) X t4.i dX12_repeatsTold_58 (by decide) (fun c5 => ?_) (fun c5 => ?_)
      · have hw := hw.1 c5
        exact hK94 σ4   _ (lv_sub hl [] rfl) hw
      · have hw := hw.2 c5
        refine ml_aload_n (pc := 61) X hl 0 rfl rfl dX12_repeatsTold_61 ?_
        refine gf_X12_162 (pc := 62) X (ml_c215 hn) dX12_repeatsTold_62 (fun r6 => ?_)
        have hw := hw r6
        refine ml_iload_n (pc := 65) X hl 1 rfl rfl dX12_repeatsTold_65 ?_
        refine ml_bipush (pc := 66) X dX12_repeatsTold_66 (by decide) ?_
        obtain ⟨v7, hw⟩ := hw
        refine ml_iadd (pc := 68) X dX12_repeatsTold_68 ?_
        refine ml_icmp_ne (pc := 69) (tgt := 81) X r6 v7 dX12_repeatsTold_69 (by decide) (fun c8 => ?_) (fun c8 => ?_)
        · have hw := hw.1 c8
          exact u_X12_repeatsTold_81 X hn ih σ4 x1 h_x1 _ (lv_sub hl [0, 1] rfl) hw
        · have hw := hw.2 c8
          refine ml_aload_n (pc := 72) X hl 0 rfl rfl dX12_repeatsTold_72 ?_
          refine ml_iconst (pc := 73) X dX12_repeatsTold_73 ?_
          refine ml_aload_n (pc := 74) X hl 0 rfl rfl dX12_repeatsTold_74 ?_
          refine gf_X12_162 (pc := 75) X (ml_c215 hn) dX12_repeatsTold_75 (fun r9 => ?_)
          have hw := hw r9
          refine ml_callvV (pc := 78) (rest := []) X [.int (Int32.ofInt 2), .int (Int32.ofInt (σ4 215 9))] (by decide) rfl (ml_c215 hn) (c_X12_wrongs l base D cA n hn σ4 2 (σ4 215 9) ⟨by decide, by decide⟩ r9 _ hw) cv_X12_178 ⟨rfl, rfl⟩ ⟨by decide, by decide⟩ rfl rfl hl (Nat.le_of_ble_eq_true rfl) ⟨Nat.zero_le _, Nat.zero_le _⟩ dX12_repeatsTold_78 (fun σ10 hw => ?_)
          exact u_X12_repeatsTold_81 X hn ih σ10 x1 h_x1 _ (lv_sub hl [0, 1] rfl) hw
set_option maxRecDepth 100000 in
set_option maxHeartbeats 4000000 in
theorem u_X12_repeatsTold_94 {p : Program} {e : Env} {s : State} {m : MethodId} {args : Array Value} {below : List Frame} {meth : Method} {c : Code} {base : Nat} {D : va_G} {cA : Nat → ClassId} {n : Nat} {l : Launch} {Q : ml_St → Prop} (X : ml_X p s m c meth args D cA cX12_repeatsTold 2 RX12 none) (hn : 256 ≤ n) (σ : ml_St) (ls : Array Slot) (hl : lv_has ls 2 []) (hw : f_X12_repeatsTold_u94 Q σ) : ml_V p l e rm_X12_repeatsTold s m args below meth c (MQ below (ml_Qv base D cA n Q) args s 0 0 (ml_A base)) base D cA 0 0 n n σ (F0 m 94 ls []) := by
  unfold f_X12_repeatsTold_u94 at hw
  exact ml_vret (pc := 94) X hw dX12_repeatsTold_94
set_option maxRecDepth 100000 in
set_option maxHeartbeats 4000000 in
theorem u_X12_repeatsTold_0 {p : Program} {e : Env} {s : State} {m : MethodId} {args : Array Value} {below : List Frame} {meth : Method} {c : Code} {base : Nat} {D : va_G} {cA : Nat → ClassId} {n : Nat} {l : Launch} {Q : ml_St → Prop} (X : ml_X p s m c meth args D cA cX12_repeatsTold 2 RX12 none) (hn : 256 ≤ n) (σ : ml_St) (ls : Array Slot) (hl : lv_has ls 2 [(0, .ref (base + (215 : Int).toNat))]) (hw : f_X12_repeatsTold_u0 Q σ) : ml_V p l e rm_X12_repeatsTold s m args below meth c (MQ below (ml_Qv base D cA n Q) args s 0 0 (ml_A base)) base D cA 0 0 n n σ (F0 m 0 ls []) := by
  unfold f_X12_repeatsTold_u0 at hw
  refine ml_aload_n (pc := 0) X hl 0 rfl rfl dX12_repeatsTold_0 ?_
  refine ml_calliV (pc := 1) (rest := []) X [] (by decide) rfl (ml_c215 hn) (c_X12_here l base D cA n hn σ _ hw) cv_X12_171 ⟨rfl, rfl⟩ ⟨by decide, by decide⟩ rfl rfl hl (Nat.le_of_ble_eq_true rfl) ⟨Nat.zero_le _, Nat.zero_le _⟩ dX12_repeatsTold_1 (fun r1 σ1 t1 hw => ?_)
  have hw := hw t1
  refine ml_bipush (pc := 4) X dX12_repeatsTold_4 (by decide) ?_
  refine ml_icmp_eq (pc := 6) (tgt := 10) X t1 ⟨by decide, by decide⟩ dX12_repeatsTold_6 (by decide) (fun c2 => ?_) (fun c2 => ?_)
  · have hw := hw.1 c2
    refine ml_aload_n (pc := 10) X hl 0 rfl rfl dX12_repeatsTold_10 ?_
    refine ml_dup (pc := 11) X dX12_repeatsTold_11 rfl ?_
    refine gf_X12_162 (pc := 12) X (ml_c215 hn) dX12_repeatsTold_12 (fun r3 => ?_)
    have hw := hw r3
    refine ml_iconst (pc := 15) X dX12_repeatsTold_15 ?_
    obtain ⟨v4, hw⟩ := hw
    refine ml_iadd (pc := 16) X dX12_repeatsTold_16 ?_
    refine pf_X12_162 (pc := 17) X (ml_c215 hn) v4 dX12_repeatsTold_17 (fun σ5 g5 => ?_)
    have hw := hw σ5 g5
    refine ml_aload_n (pc := 20) X hl 0 rfl rfl dX12_repeatsTold_20 ?_
    refine gf_X12_162 (pc := 21) X (ml_c215 hn) dX12_repeatsTold_21 (fun r6 => ?_)
    have hw := hw r6
    refine ml_topI (pc := 24) (fun y7 e7 => ?_)
    have hw := hw y7 e7
    have q7 : I32 y7 := by rw [e7]; exact r6
    refine ml_istore_n (pc := 24) X rfl hl (by decide) (lst' := [(1, .int (Int32.ofInt y7)), (0, .ref (base + (215 : Int).toNat))]) rfl dX12_repeatsTold_24 (fun ls hl => ?_)
    refine ml_aload_n (pc := 25) X hl 1 rfl rfl dX12_repeatsTold_25 ?_
    refine ml_calliV (pc := 26) (rest := []) X [] (by decide) rfl (ml_c215 hn) (c_X12_here l base D cA n hn σ5 _ hw) cv_X12_171 ⟨rfl, rfl⟩ ⟨by decide, by decide⟩ rfl rfl hl (Nat.le_of_ble_eq_true rfl) ⟨Nat.zero_le _, Nat.zero_le _⟩ dX12_repeatsTold_26 (fun r8 σ8 t8 hw => ?_)
    have hw := hw t8
    refine ml_callzS (pc := 29) (rest := []) X [.int (Int32.ofInt r8)] (c_X12_isDigit l base D cA n hn σ8 r8 t8 _ hw) cv_X12_182 ⟨rfl, rfl⟩ ⟨by decide, by decide⟩ rfl rfl hl (Nat.le_of_ble_eq_true rfl) ⟨Nat.zero_le _, Nat.zero_le _⟩ dX12_repeatsTold_29 (fun r9 σ9 t9 hw => ?_)
    have hw := hw t9
    refine ml_if_ne (pc := 32) (tgt := 44) X t9.i dX12_repeatsTold_32 (by decide) (fun c10 => ?_) (fun c10 => ?_)
    · have hw := hw.1 c10
      obtain ⟨N0, hw⟩ := hw
      exact u_X12_repeatsTold_44 X hn (fun σ   ls hl hw => u_X12_repeatsTold_94 X hn σ   ls hl hw) N0 σ9 y7 q7 _ (lv_sub hl [1, 0] rfl) hw
    · have hw := hw.2 c10
      refine ml_aload_n (pc := 35) X hl 1 rfl rfl dX12_repeatsTold_35 ?_
      refine ml_iconst (pc := 36) X dX12_repeatsTold_36 ?_
      refine ml_aload_n (pc := 37) X hl 1 rfl rfl dX12_repeatsTold_37 ?_
      refine gf_X12_162 (pc := 38) X (ml_c215 hn) dX12_repeatsTold_38 (fun r11 => ?_)
      have hw := hw r11
      refine ml_callvV (pc := 41) (rest := []) X [.int (Int32.ofInt 1), .int (Int32.ofInt (σ9 215 9))] (by decide) rfl (ml_c215 hn) (c_X12_wrongs l base D cA n hn σ9 1 (σ9 215 9) ⟨by decide, by decide⟩ r11 _ hw) cv_X12_178 ⟨rfl, rfl⟩ ⟨by decide, by decide⟩ rfl rfl hl (Nat.le_of_ble_eq_true rfl) ⟨Nat.zero_le _, Nat.zero_le _⟩ dX12_repeatsTold_41 (fun σ12 hw => ?_)
      obtain ⟨N0, hw⟩ := hw
      exact u_X12_repeatsTold_44 X hn (fun σ   ls hl hw => u_X12_repeatsTold_94 X hn σ   ls hl hw) N0 σ12 y7 q7 _ (lv_sub hl [1, 0] rfl) hw
  · have hw := hw.2 c2
    exact ml_vret (pc := 9) X hw dX12_repeatsTold_9
set_option maxRecDepth 100000 in
theorem c_X12_repeatsTold (l : Launch) (base : Nat) (D : va_G) (cA : Nat → ClassId) (n : Nat) (hn : 256 ≤ n) (σ : ml_St) (Q : ml_St → Prop) (hw : f_X12_repeatsTold σ Q) : Met l yX12_repeatsTold (Cond.code yX12_repeatsTold cX12_repeatsTold 2 none :: ml_T) rm_X12_repeatsTold (va_Pc [.ref (base + (215 : Int).toNat)] (ml_U base D cA n σ)) (ml_Qv base D cA n Q) 0 0 (ml_A base) := by
  refine Met.ofW (cc := cX12_repeatsTold) (maxL := 2) (ret := none) (by decide) rfl ?_
  intro p e s m args below meth c s₁ B hml hv
  obtain ⟨rfl, hP, hK, hok, hro⟩ := hv
  have X : ml_X p s m c meth _ D cA cX12_repeatsTold 2 RX12 none := ⟨B.exec, B.bytes, hml, findClass_of_methodNamed B.named, fun w hw => atoms_spec (ws := Cond.code yX12_repeatsTold cX12_repeatsTold 2 none :: ml_T) B.pre w (List.mem_cons_of_mem _ hw), hK, B.notSynchronized, B.returns⟩
  have hl := lv_entry [.ref (base + (215 : Int).toNat)] (n := 2) (Nat.le_of_ble_eq_true rfl)
  rw [lg_entry_eq]
  generalize (lg_sl [.ref (base + (215 : Int).toNat)] ++ List.replicate (2 - (lg_sl [.ref (base + (215 : Int).toNat)]).length) Slot.unset).toArray = ls at hl ⊢
  have hl : lv_has ls 2 [(0, .ref (base + (215 : Int).toNat))] := hl
  unfold f_X12_repeatsTold at hw
  exact u_X12_repeatsTold_0 X hn σ  _ (lv_sub hl [0] rfl) hw s.heap [] hP va_S.rf hok hro
theorem dX12_isText_0 : decode cX12_isText 0 = .ok (.aload_n 0, 1) := by decide +kernel
theorem dX12_isText_1 : decode cX12_isText 1 = .ok (.iconst 0, 1) := by decide +kernel
theorem dX12_isText_2 : decode cX12_isText 2 = .ok (.putfield 162, 3) := by decide +kernel
theorem dX12_isText_5 : decode cX12_isText 5 = .ok (.aload_n 0, 1) := by decide +kernel
theorem dX12_isText_6 : decode cX12_isText 6 = .ok (.iload_n 2, 1) := by decide +kernel
theorem dX12_isText_7 : decode cX12_isText 7 = .ok (.putfield 165, 3) := by decide +kernel
theorem dX12_isText_10 : decode cX12_isText 10 = .ok (.aload_n 0, 1) := by decide +kernel
theorem dX12_isText_11 : decode cX12_isText 11 = .ok (.iconst 0, 1) := by decide +kernel
theorem dX12_isText_12 : decode cX12_isText 12 = .ok (.putfield 168, 3) := by decide +kernel
theorem dX12_isText_15 : decode cX12_isText 15 = .ok (.aload_n 0, 1) := by decide +kernel
theorem dX12_isText_16 : decode cX12_isText 16 = .ok (.iconst 0, 1) := by decide +kernel
theorem dX12_isText_17 : decode cX12_isText 17 = .ok (.putfield 175, 3) := by decide +kernel
theorem dX12_isText_20 : decode cX12_isText 20 = .ok (.iconst 1, 1) := by decide +kernel
theorem dX12_isText_21 : decode cX12_isText 21 = .ok (.istore_n 3, 1) := by decide +kernel
theorem dX12_isText_22 : decode cX12_isText 22 = .ok (.aload_n 0, 1) := by decide +kernel
theorem dX12_isText_23 : decode cX12_isText 23 = .ok (.invokevirtual 186, 3) := by decide +kernel
theorem dX12_isText_26 : decode cX12_isText 26 = .ok (.ifCond .eq 142, 3) := by decide +kernel
theorem dX12_isText_29 : decode cX12_isText 29 = .ok (.aload_n 0, 1) := by decide +kernel
theorem dX12_isText_30 : decode cX12_isText 30 = .ok (.getfield 162, 3) := by decide +kernel
theorem dX12_isText_33 : decode cX12_isText 33 = .ok (.aload_n 0, 1) := by decide +kernel
theorem dX12_isText_34 : decode cX12_isText 34 = .ok (.getfield 165, 3) := by decide +kernel
theorem dX12_isText_37 : decode cX12_isText 37 = .ok (.if_icmp .lt 14, 3) := by decide +kernel
theorem dX12_isText_40 : decode cX12_isText 40 = .ok (.iload_n 3, 1) := by decide +kernel
theorem dX12_isText_41 : decode cX12_isText 41 = .ok (.ifCond .ne 10, 3) := by decide +kernel
theorem dX12_isText_44 : decode cX12_isText 44 = .ok (.aload_n 0, 1) := by decide +kernel
theorem dX12_isText_45 : decode cX12_isText 45 = .ok (.getfield 175, 3) := by decide +kernel
theorem dX12_isText_48 : decode cX12_isText 48 = .ok (.ifCond .le 120, 3) := by decide +kernel
theorem dX12_isText_51 : decode cX12_isText 51 = .ok (.iload_n 3, 1) := by decide +kernel
theorem dX12_isText_52 : decode cX12_isText 52 = .ok (.ifCond .ne 46, 3) := by decide +kernel
theorem dX12_isText_55 : decode cX12_isText 55 = .ok (.aload_n 0, 1) := by decide +kernel
theorem dX12_isText_56 : decode cX12_isText 56 = .ok (.invokevirtual 171, 3) := by decide +kernel
theorem dX12_isText_59 : decode cX12_isText 59 = .ok (.bipush 41, 2) := by decide +kernel
theorem dX12_isText_61 : decode cX12_isText 61 = .ok (.if_icmp .ne 37, 3) := by decide +kernel
theorem dX12_isText_64 : decode cX12_isText 64 = .ok (.aload_n 0, 1) := by decide +kernel
theorem dX12_isText_65 : decode cX12_isText 65 = .ok (.getfield 175, 3) := by decide +kernel
theorem dX12_isText_68 : decode cX12_isText 68 = .ok (.ifCond .le 30, 3) := by decide +kernel
theorem dX12_isText_71 : decode cX12_isText 71 = .ok (.aload_n 0, 1) := by decide +kernel
theorem dX12_isText_72 : decode cX12_isText 72 = .ok (.dup, 1) := by decide +kernel
theorem dX12_isText_73 : decode cX12_isText 73 = .ok (.getfield 175, 3) := by decide +kernel
theorem dX12_isText_76 : decode cX12_isText 76 = .ok (.iconst 1, 1) := by decide +kernel
theorem dX12_isText_77 : decode cX12_isText 77 = .ok (.isub, 1) := by decide +kernel
theorem dX12_isText_78 : decode cX12_isText 78 = .ok (.putfield 175, 3) := by decide +kernel
theorem dX12_isText_81 : decode cX12_isText 81 = .ok (.aload_n 0, 1) := by decide +kernel
theorem dX12_isText_82 : decode cX12_isText 82 = .ok (.dup, 1) := by decide +kernel
theorem dX12_isText_83 : decode cX12_isText 83 = .ok (.getfield 162, 3) := by decide +kernel
theorem dX12_isText_86 : decode cX12_isText 86 = .ok (.iconst 1, 1) := by decide +kernel
theorem dX12_isText_87 : decode cX12_isText 87 = .ok (.iadd, 1) := by decide +kernel
theorem dX12_isText_88 : decode cX12_isText 88 = .ok (.putfield 162, 3) := by decide +kernel
theorem dX12_isText_91 : decode cX12_isText 91 = .ok (.aload_n 0, 1) := by decide +kernel
theorem dX12_isText_92 : decode cX12_isText 92 = .ok (.invokevirtual 190, 3) := by decide +kernel
theorem dX12_isText_95 : decode cX12_isText 95 = .ok (.goto (-73), 3) := by decide +kernel
theorem dX12_isText_98 : decode cX12_isText 98 = .ok (.iload_n 3, 1) := by decide +kernel
theorem dX12_isText_99 : decode cX12_isText 99 = .ok (.ifCond .ne 26, 3) := by decide +kernel
theorem dX12_isText_102 : decode cX12_isText 102 = .ok (.aload_n 0, 1) := by decide +kernel
theorem dX12_isText_103 : decode cX12_isText 103 = .ok (.getfield 162, 3) := by decide +kernel
theorem dX12_isText_106 : decode cX12_isText 106 = .ok (.aload_n 0, 1) := by decide +kernel
theorem dX12_isText_107 : decode cX12_isText 107 = .ok (.getfield 165, 3) := by decide +kernel
theorem dX12_isText_110 : decode cX12_isText 110 = .ok (.if_icmp .lt 15, 3) := by decide +kernel
theorem dX12_isText_113 : decode cX12_isText 113 = .ok (.aload_n 0, 1) := by decide +kernel
theorem dX12_isText_114 : decode cX12_isText 114 = .ok (.iconst 1, 1) := by decide +kernel
theorem dX12_isText_115 : decode cX12_isText 115 = .ok (.aload_n 0, 1) := by decide +kernel
theorem dX12_isText_116 : decode cX12_isText 116 = .ok (.getfield 162, 3) := by decide +kernel
theorem dX12_isText_119 : decode cX12_isText 119 = .ok (.invokevirtual 178, 3) := by decide +kernel
theorem dX12_isText_122 : decode cX12_isText 122 = .ok (.goto (-100), 3) := by decide +kernel
theorem dX12_isText_125 : decode cX12_isText 125 = .ok (.aload_n 0, 1) := by decide +kernel
theorem dX12_isText_126 : decode cX12_isText 126 = .ok (.invokevirtual 171, 3) := by decide +kernel
theorem dX12_isText_129 : decode cX12_isText 129 = .ok (.bipush 40, 2) := by decide +kernel
theorem dX12_isText_131 : decode cX12_isText 131 = .ok (.if_icmp .ne 7, 3) := by decide +kernel
theorem dX12_isText_134 : decode cX12_isText 134 = .ok (.iconst 1, 1) := by decide +kernel
theorem dX12_isText_135 : decode cX12_isText 135 = .ok (.goto 4, 3) := by decide +kernel
theorem dX12_isText_138 : decode cX12_isText 138 = .ok (.iconst 0, 1) := by decide +kernel
theorem dX12_isText_139 : decode cX12_isText 139 = .ok (.istore 4, 2) := by decide +kernel
theorem dX12_isText_141 : decode cX12_isText 141 = .ok (.aload_n 0, 1) := by decide +kernel
theorem dX12_isText_142 : decode cX12_isText 142 = .ok (.iload_n 1, 1) := by decide +kernel
theorem dX12_isText_143 : decode cX12_isText 143 = .ok (.invokevirtual 193, 3) := by decide +kernel
theorem dX12_isText_146 : decode cX12_isText 146 = .ok (.aload_n 0, 1) := by decide +kernel
theorem dX12_isText_147 : decode cX12_isText 147 = .ok (.invokevirtual 186, 3) := by decide +kernel
theorem dX12_isText_150 : decode cX12_isText 150 = .ok (.ifCond .eq 12, 3) := by decide +kernel
theorem dX12_isText_153 : decode cX12_isText 153 = .ok (.iload 4, 2) := by decide +kernel
theorem dX12_isText_155 : decode cX12_isText 155 = .ok (.ifCond .ne 7, 3) := by decide +kernel
theorem dX12_isText_158 : decode cX12_isText 158 = .ok (.aload_n 0, 1) := by decide +kernel
theorem dX12_isText_159 : decode cX12_isText 159 = .ok (.invokevirtual 190, 3) := by decide +kernel
theorem dX12_isText_162 : decode cX12_isText 162 = .ok (.iload 4, 2) := by decide +kernel
theorem dX12_isText_164 : decode cX12_isText 164 = .ok (.istore_n 3, 1) := by decide +kernel
theorem dX12_isText_165 : decode cX12_isText 165 = .ok (.goto (-143), 3) := by decide +kernel
theorem dX12_isText_168 : decode cX12_isText 168 = .ok (.aload_n 0, 1) := by decide +kernel
theorem dX12_isText_169 : decode cX12_isText 169 = .ok (.invokevirtual 186, 3) := by decide +kernel
theorem dX12_isText_172 : decode cX12_isText 172 = .ok (.ireturn, 1) := by decide +kernel
def f_X12_isText_u162 (Q : Int → ml_St → Prop) (K22 : ml_St → Int → Int → Prop) (σ : ml_St) (x1 : Int) (x4 : Int) : Prop :=
K22 σ x1 x4
def f_X12_isText_u139 (Q : Int → ml_St → Prop) (K22 : ml_St → Int → Int → Prop) (σ : ml_St) (x1 : Int) (s0 : Int) : Prop :=
f_X12_item σ x1 (fun σ1 =>
f_X12_isGood σ1 (fun r2 σ2 => ∀ _ : ml_B r2,
(r2 = 0 →
f_X12_isText_u162 Q K22 σ2 x1 s0) ∧
(r2 ≠ 0 →
(s0 ≠ 0 →
f_X12_isText_u162 Q K22 σ2 x1 s0) ∧
(s0 = 0 →
f_X12_repeatsTold σ2 (fun σ5 =>
f_X12_isText_u162 Q K22 σ5 x1 s0)))))
def f_X12_isText_u125 (Q : Int → ml_St → Prop) (K22 : ml_St → Int → Int → Prop) (σ : ml_St) (x1 : Int) : Prop :=
f_X12_here σ (fun r1 σ1 => ∀ _ : I32 r1,
(r1 ≠ 40 →
f_X12_isText_u139 Q K22 σ1 x1 0) ∧
(r1 = 40 →
f_X12_isText_u139 Q K22 σ1 x1 1))
def f_X12_isText_u98 (Q : Int → ml_St → Prop) (K22 : ml_St → Int → Int → Prop) (σ : ml_St) (x1 : Int) (x3 : Int) : Prop :=
(x3 ≠ 0 →
f_X12_isText_u125 Q K22 σ x1) ∧
(x3 = 0 →
∀ _ : I32 (σ 215 9),
∀ _ : I32 (σ 215 10),
(((σ 215 9) : Int) < (σ 215 10) →
f_X12_isText_u125 Q K22 σ x1) ∧
(¬ (((σ 215 9) : Int) < (σ 215 10)) →
∀ _ : I32 (σ 215 9),
f_X12_wrongs σ 1 (σ 215 9) (fun σ6 =>
K22 σ6 x1 x3)))
def f_X12_isText_u51 (Q : Int → ml_St → Prop) (K22 : ml_St → Int → Int → Prop) (σ : ml_St) (x1 : Int) (x3 : Int) : Prop :=
(x3 ≠ 0 →
f_X12_isText_u98 Q K22 σ x1 x3) ∧
(x3 = 0 →
f_X12_here σ (fun r2 σ2 => ∀ _ : I32 r2,
(r2 ≠ 41 →
f_X12_isText_u98 Q K22 σ2 x1 x3) ∧
(r2 = 41 →
∀ _ : I32 (σ2 215 12),
(((σ2 215 12) : Int) ≤ 0 →
f_X12_isText_u98 Q K22 σ2 x1 x3) ∧
(¬ (((σ2 215 12) : Int) ≤ 0) →
∀ _ : I32 (σ2 215 12),
I32 ((σ2 215 12) - 1) ∧
∀ σ8, σ8 = ml_up σ2 215 12 ((σ2 215 12) - 1) →
∀ _ : I32 (σ8 215 9),
I32 ((σ8 215 9) + 1) ∧
∀ σ11, σ11 = ml_up σ8 215 9 ((σ8 215 9) + 1) →
f_X12_repeatsTold σ11 (fun σ12 =>
K22 σ12 x1 x3)))))
def f_X12_isText_u22 (Q : Int → ml_St → Prop) (K168 : ml_St → Prop) : Nat → ml_St → Int → Int → Prop
| 0, _, _, _ => False
| N + 1, σ, x1, x3 =>
f_X12_isGood σ (fun r1 σ1 => ∀ _ : ml_B r1,
(r1 = 0 →
K168 σ1) ∧
(r1 ≠ 0 →
∀ _ : I32 (σ1 215 9),
∀ _ : I32 (σ1 215 10),
(((σ1 215 9) : Int) < (σ1 215 10) →
f_X12_isText_u51 Q (f_X12_isText_u22 Q K168 N) σ1 x1 x3) ∧
(¬ (((σ1 215 9) : Int) < (σ1 215 10)) →
(x3 ≠ 0 →
f_X12_isText_u51 Q (f_X12_isText_u22 Q K168 N) σ1 x1 x3) ∧
(x3 = 0 →
∀ _ : I32 (σ1 215 12),
(((σ1 215 12) : Int) ≤ 0 →
K168 σ1) ∧
(¬ (((σ1 215 12) : Int) ≤ 0) →
f_X12_isText_u51 Q (f_X12_isText_u22 Q K168 N) σ1 x1 x3)))))
def f_X12_isText_u168 (Q : Int → ml_St → Prop) (σ : ml_St) : Prop :=
f_X12_isGood σ (fun r1 σ1 => ∀ _ : ml_B r1,
Q r1 σ1)
def f_X12_isText_u0 (Q : Int → ml_St → Prop) (σ : ml_St) (x1 : Int) (x2 : Int) : Prop :=
∀ σ1, σ1 = ml_up σ 215 9 0 →
∀ σ2, σ2 = ml_up σ1 215 10 x2 →
∀ σ3, σ3 = ml_up σ2 215 11 0 →
∀ σ4, σ4 = ml_up σ3 215 12 0 →
∃ N1, f_X12_isText_u22 Q (f_X12_isText_u168 Q) N1 σ4 x1 1
def f_X12_isText (σ : ml_St) (x1 : Int) (x2 : Int) (Q : Int → ml_St → Prop) : Prop := f_X12_isText_u0 Q σ x1 x2
def rm_X12_isText : Room := { frames := 2, cells := 0, slots := 0, locals := 44 }
set_option maxRecDepth 100000 in
set_option maxHeartbeats 4000000 in
theorem u_X12_isText_162 {p : Program} {e : Env} {s : State} {m : MethodId} {args : Array Value} {below : List Frame} {meth : Method} {c : Code} {base : Nat} {D : va_G} {cA : Nat → ClassId} {n : Nat} {l : Launch} {Q : Int → ml_St → Prop} {K22 : ml_St → Int → Int → Prop} (X : ml_X p s m c meth args D cA cX12_isText 5 RX12 (some .boolean)) (hn : 256 ≤ n) (hK22 : ∀ (σ : ml_St) (x1 : Int) (x3 : Int) (h_x1 : I32 x1) (h_x3 : ml_B x3) (ls : Array Slot), lv_has ls 5 [(0, .ref (base + (215 : Int).toNat)), (1, .int (Int32.ofInt x1)), (3, .int (Int32.ofInt x3))] → K22 σ x1 x3 → ml_V p l e rm_X12_isText s m args below meth c (MQ below (ml_Qi ml_B base D cA n Q) args s 0 0 (ml_A base)) base D cA 0 0 n n σ (F0 m 22 ls [])) (σ : ml_St) (x1 : Int) (x4 : Int) (h_x1 : I32 x1) (h_x4 : ml_B x4) (ls : Array Slot) (hl : lv_has ls 5 [(0, .ref (base + (215 : Int).toNat)), (1, .int (Int32.ofInt x1)), (4, .int (Int32.ofInt x4))]) (hw : f_X12_isText_u162 Q K22 σ x1 x4) : ml_V p l e rm_X12_isText s m args below meth c (MQ below (ml_Qi ml_B base D cA n Q) args s 0 0 (ml_A base)) base D cA 0 0 n n σ (F0 m 162 ls []) := by
  unfold f_X12_isText_u162 at hw
  refine ml_iload (pc := 162) X hl 2 rfl dX12_isText_162 ?_
  refine ml_istore_n (pc := 164) X rfl hl (by decide) (lst' := [(3, .int (Int32.ofInt x4)), (0, .ref (base + (215 : Int).toNat)), (1, .int (Int32.ofInt x1)), (4, .int (Int32.ofInt x4))]) rfl dX12_isText_164 (fun ls hl => ?_)
  refine ml_goto (pc := 165) (tgt := 22) X dX12_isText_165 (by decide) ?_
  exact hK22 σ x1 x4 h_x1 h_x4 _ (lv_sub hl [1, 2, 0] rfl) hw
set_option maxRecDepth 100000 in
set_option maxHeartbeats 4000000 in
theorem u_X12_isText_139 {p : Program} {e : Env} {s : State} {m : MethodId} {args : Array Value} {below : List Frame} {meth : Method} {c : Code} {base : Nat} {D : va_G} {cA : Nat → ClassId} {n : Nat} {l : Launch} {Q : Int → ml_St → Prop} {K22 : ml_St → Int → Int → Prop} (X : ml_X p s m c meth args D cA cX12_isText 5 RX12 (some .boolean)) (hn : 256 ≤ n) (hK22 : ∀ (σ : ml_St) (x1 : Int) (x3 : Int) (h_x1 : I32 x1) (h_x3 : ml_B x3) (ls : Array Slot), lv_has ls 5 [(0, .ref (base + (215 : Int).toNat)), (1, .int (Int32.ofInt x1)), (3, .int (Int32.ofInt x3))] → K22 σ x1 x3 → ml_V p l e rm_X12_isText s m args below meth c (MQ below (ml_Qi ml_B base D cA n Q) args s 0 0 (ml_A base)) base D cA 0 0 n n σ (F0 m 22 ls [])) (σ : ml_St) (x1 : Int) (s0 : Int) (h_x1 : I32 x1) (h_s0 : ml_B s0) (ls : Array Slot) (hl : lv_has ls 5 [(0, .ref (base + (215 : Int).toNat)), (1, .int (Int32.ofInt x1))]) (hw : f_X12_isText_u139 Q K22 σ x1 s0) : ml_V p l e rm_X12_isText s m args below meth c (MQ below (ml_Qi ml_B base D cA n Q) args s 0 0 (ml_A base)) base D cA 0 0 n n σ (F0 m 139 ls [.int (Int32.ofInt s0)]) := by
  unfold f_X12_isText_u139 at hw
  refine ml_istore (pc := 139) X hl (by decide) (lst' := [(4, .int (Int32.ofInt s0)), (0, .ref (base + (215 : Int).toNat)), (1, .int (Int32.ofInt x1))]) rfl dX12_isText_139 (fun ls hl => ?_)
  refine ml_aload_n (pc := 141) X hl 1 rfl rfl dX12_isText_141 ?_
  refine ml_iload_n (pc := 142) X hl 2 rfl rfl dX12_isText_142 ?_
  refine ml_callvV (pc := 143) (rest := []) X [.int (Int32.ofInt x1)] (by decide) rfl (ml_c215 hn) (c_X12_item l base D cA n hn σ x1 h_x1 _ hw) cv_X12_193 ⟨rfl, rfl⟩ ⟨by decide, by decide⟩ rfl rfl hl (Nat.le_of_ble_eq_true rfl) ⟨Nat.zero_le _, Nat.zero_le _⟩ dX12_isText_143 (fun σ1 hw => ?_)
  refine ml_aload_n (pc := 146) X hl 1 rfl rfl dX12_isText_146 ?_
  refine ml_callzV (pc := 147) (rest := []) X [] (by decide) rfl (ml_c215 hn) (c_X12_isGood l base D cA n hn σ1 _ hw) cv_X12_186 ⟨rfl, rfl⟩ ⟨by decide, by decide⟩ rfl rfl hl (Nat.le_of_ble_eq_true rfl) ⟨Nat.zero_le _, Nat.zero_le _⟩ dX12_isText_147 (fun r2 σ2 t2 hw => ?_)
  have hw := hw t2
  refine ml_if_eq (pc := 150) (tgt := 162) X t2.i dX12_isText_150 (by decide) (fun c3 => ?_) (fun c3 => ?_)
  · have hw := hw.1 c3
    exact u_X12_isText_162 X hn hK22 σ2 x1 s0 h_x1 h_s0 _ (lv_sub hl [1, 2, 0] rfl) hw
  · have hw := hw.2 c3
    refine ml_iload (pc := 153) X hl 0 rfl dX12_isText_153 ?_
    refine ml_if_ne (pc := 155) (tgt := 162) X h_s0.i dX12_isText_155 (by decide) (fun c4 => ?_) (fun c4 => ?_)
    · have hw := hw.1 c4
      exact u_X12_isText_162 X hn hK22 σ2 x1 s0 h_x1 h_s0 _ (lv_sub hl [1, 2, 0] rfl) hw
    · have hw := hw.2 c4
      refine ml_aload_n (pc := 158) X hl 1 rfl rfl dX12_isText_158 ?_
      refine ml_callvV (pc := 159) (rest := []) X [] (by decide) rfl (ml_c215 hn) (c_X12_repeatsTold l base D cA n hn σ2 _ hw) cv_X12_190 ⟨rfl, rfl⟩ ⟨by decide, by decide⟩ rfl rfl hl (Nat.le_of_ble_eq_true rfl) ⟨Nat.zero_le _, Nat.zero_le _⟩ dX12_isText_159 (fun σ5 hw => ?_)
      exact u_X12_isText_162 X hn hK22 σ5 x1 s0 h_x1 h_s0 _ (lv_sub hl [1, 2, 0] rfl) hw
set_option maxRecDepth 100000 in
set_option maxHeartbeats 4000000 in
theorem u_X12_isText_125 {p : Program} {e : Env} {s : State} {m : MethodId} {args : Array Value} {below : List Frame} {meth : Method} {c : Code} {base : Nat} {D : va_G} {cA : Nat → ClassId} {n : Nat} {l : Launch} {Q : Int → ml_St → Prop} {K22 : ml_St → Int → Int → Prop} (X : ml_X p s m c meth args D cA cX12_isText 5 RX12 (some .boolean)) (hn : 256 ≤ n) (hK22 : ∀ (σ : ml_St) (x1 : Int) (x3 : Int) (h_x1 : I32 x1) (h_x3 : ml_B x3) (ls : Array Slot), lv_has ls 5 [(0, .ref (base + (215 : Int).toNat)), (1, .int (Int32.ofInt x1)), (3, .int (Int32.ofInt x3))] → K22 σ x1 x3 → ml_V p l e rm_X12_isText s m args below meth c (MQ below (ml_Qi ml_B base D cA n Q) args s 0 0 (ml_A base)) base D cA 0 0 n n σ (F0 m 22 ls [])) (σ : ml_St) (x1 : Int) (h_x1 : I32 x1) (ls : Array Slot) (hl : lv_has ls 5 [(0, .ref (base + (215 : Int).toNat)), (1, .int (Int32.ofInt x1))]) (hw : f_X12_isText_u125 Q K22 σ x1) : ml_V p l e rm_X12_isText s m args below meth c (MQ below (ml_Qi ml_B base D cA n Q) args s 0 0 (ml_A base)) base D cA 0 0 n n σ (F0 m 125 ls []) := by
  unfold f_X12_isText_u125 at hw
  refine ml_aload_n (pc := 125) X hl 0 rfl rfl dX12_isText_125 ?_
  refine ml_calliV (pc := 126) (rest := []) X [] (by decide) rfl (ml_c215 hn) (c_X12_here l base D cA n hn σ _ hw) cv_X12_171 ⟨rfl, rfl⟩ ⟨by decide, by decide⟩ rfl rfl hl (Nat.le_of_ble_eq_true rfl) ⟨Nat.zero_le _, Nat.zero_le _⟩ dX12_isText_126 (fun r1 σ1 t1 hw => ?_)
  have hw := hw t1
  refine ml_bipush (pc := 129) X dX12_isText_129 (by decide) ?_
  refine ml_icmp_ne (pc := 131) (tgt := 138) X t1 ⟨by decide, by decide⟩ dX12_isText_131 (by decide) (fun c2 => ?_) (fun c2 => ?_)
  · have hw := hw.1 c2
    refine ml_iconst (pc := 138) X dX12_isText_138 ?_
    exact u_X12_isText_139 X hn hK22 σ1 x1 0 h_x1 ⟨by decide, by decide⟩ _ (lv_sub hl [0, 1] rfl) hw
  · have hw := hw.2 c2
    refine ml_iconst (pc := 134) X dX12_isText_134 ?_
    refine ml_goto (pc := 135) (tgt := 139) X dX12_isText_135 (by decide) ?_
    exact u_X12_isText_139 X hn hK22 σ1 x1 1 h_x1 ⟨by decide, by decide⟩ _ (lv_sub hl [0, 1] rfl) hw
set_option maxRecDepth 100000 in
set_option maxHeartbeats 4000000 in
theorem u_X12_isText_98 {p : Program} {e : Env} {s : State} {m : MethodId} {args : Array Value} {below : List Frame} {meth : Method} {c : Code} {base : Nat} {D : va_G} {cA : Nat → ClassId} {n : Nat} {l : Launch} {Q : Int → ml_St → Prop} {K22 : ml_St → Int → Int → Prop} (X : ml_X p s m c meth args D cA cX12_isText 5 RX12 (some .boolean)) (hn : 256 ≤ n) (hK22 : ∀ (σ : ml_St) (x1 : Int) (x3 : Int) (h_x1 : I32 x1) (h_x3 : ml_B x3) (ls : Array Slot), lv_has ls 5 [(0, .ref (base + (215 : Int).toNat)), (1, .int (Int32.ofInt x1)), (3, .int (Int32.ofInt x3))] → K22 σ x1 x3 → ml_V p l e rm_X12_isText s m args below meth c (MQ below (ml_Qi ml_B base D cA n Q) args s 0 0 (ml_A base)) base D cA 0 0 n n σ (F0 m 22 ls [])) (σ : ml_St) (x1 : Int) (x3 : Int) (h_x1 : I32 x1) (h_x3 : ml_B x3) (ls : Array Slot) (hl : lv_has ls 5 [(0, .ref (base + (215 : Int).toNat)), (1, .int (Int32.ofInt x1)), (3, .int (Int32.ofInt x3))]) (hw : f_X12_isText_u98 Q K22 σ x1 x3) : ml_V p l e rm_X12_isText s m args below meth c (MQ below (ml_Qi ml_B base D cA n Q) args s 0 0 (ml_A base)) base D cA 0 0 n n σ (F0 m 98 ls []) := by
  unfold f_X12_isText_u98 at hw
  refine ml_iload_n (pc := 98) X hl 2 rfl rfl dX12_isText_98 ?_
  refine ml_if_ne (pc := 99) (tgt := 125) X h_x3.i dX12_isText_99 (by decide) (fun c1 => ?_) (fun c1 => ?_)
  · have hw := hw.1 c1
    exact u_X12_isText_125 X hn hK22 σ x1 h_x1 _ (lv_sub hl [0, 1] rfl) hw
  · have hw := hw.2 c1
    refine ml_aload_n (pc := 102) X hl 0 rfl rfl dX12_isText_102 ?_
    refine gf_X12_162 (pc := 103) X (ml_c215 hn) dX12_isText_103 (fun r2 => ?_)
    have hw := hw r2
    refine ml_aload_n (pc := 106) X hl 0 rfl rfl dX12_isText_106 ?_
    refine gf_X12_165 (pc := 107) X (ml_c215 hn) dX12_isText_107 (fun r3 => ?_)
    have hw := hw r3
    refine ml_icmp_lt (pc := 110) (tgt := 125) X r2 r3 dX12_isText_110 (by decide) (fun c4 => ?_) (fun c4 => ?_)
    · have hw := hw.1 c4
      exact u_X12_isText_125 X hn hK22 σ x1 h_x1 _ (lv_sub hl [0, 1] rfl) hw
    · have hw := hw.2 c4
      refine ml_aload_n (pc := 113) X hl 0 rfl rfl dX12_isText_113 ?_
      refine ml_iconst (pc := 114) X dX12_isText_114 ?_
      refine ml_aload_n (pc := 115) X hl 0 rfl rfl dX12_isText_115 ?_
      refine gf_X12_162 (pc := 116) X (ml_c215 hn) dX12_isText_116 (fun r5 => ?_)
      have hw := hw r5
      refine ml_callvV (pc := 119) (rest := []) X [.int (Int32.ofInt 1), .int (Int32.ofInt (σ 215 9))] (by decide) rfl (ml_c215 hn) (c_X12_wrongs l base D cA n hn σ 1 (σ 215 9) ⟨by decide, by decide⟩ r5 _ hw) cv_X12_178 ⟨rfl, rfl⟩ ⟨by decide, by decide⟩ rfl rfl hl (Nat.le_of_ble_eq_true rfl) ⟨Nat.zero_le _, Nat.zero_le _⟩ dX12_isText_119 (fun σ6 hw => ?_)
      refine ml_goto (pc := 122) (tgt := 22) X dX12_isText_122 (by decide) ?_
      exact hK22 σ6 x1 x3 h_x1 h_x3 _ (lv_sub hl [0, 1, 2] rfl) hw
set_option maxRecDepth 100000 in
set_option maxHeartbeats 4000000 in
theorem u_X12_isText_51 {p : Program} {e : Env} {s : State} {m : MethodId} {args : Array Value} {below : List Frame} {meth : Method} {c : Code} {base : Nat} {D : va_G} {cA : Nat → ClassId} {n : Nat} {l : Launch} {Q : Int → ml_St → Prop} {K22 : ml_St → Int → Int → Prop} (X : ml_X p s m c meth args D cA cX12_isText 5 RX12 (some .boolean)) (hn : 256 ≤ n) (hK22 : ∀ (σ : ml_St) (x1 : Int) (x3 : Int) (h_x1 : I32 x1) (h_x3 : ml_B x3) (ls : Array Slot), lv_has ls 5 [(0, .ref (base + (215 : Int).toNat)), (1, .int (Int32.ofInt x1)), (3, .int (Int32.ofInt x3))] → K22 σ x1 x3 → ml_V p l e rm_X12_isText s m args below meth c (MQ below (ml_Qi ml_B base D cA n Q) args s 0 0 (ml_A base)) base D cA 0 0 n n σ (F0 m 22 ls [])) (σ : ml_St) (x1 : Int) (x3 : Int) (h_x1 : I32 x1) (h_x3 : ml_B x3) (ls : Array Slot) (hl : lv_has ls 5 [(0, .ref (base + (215 : Int).toNat)), (1, .int (Int32.ofInt x1)), (3, .int (Int32.ofInt x3))]) (hw : f_X12_isText_u51 Q K22 σ x1 x3) : ml_V p l e rm_X12_isText s m args below meth c (MQ below (ml_Qi ml_B base D cA n Q) args s 0 0 (ml_A base)) base D cA 0 0 n n σ (F0 m 51 ls []) := by
  unfold f_X12_isText_u51 at hw
  refine ml_iload_n (pc := 51) X hl 2 rfl rfl dX12_isText_51 ?_
  refine ml_if_ne (pc := 52) (tgt := 98) X h_x3.i dX12_isText_52 (by decide) (fun c1 => ?_) (fun c1 => ?_)
  · have hw := hw.1 c1
    exact u_X12_isText_98 X hn hK22 σ x1 x3 h_x1 h_x3 _ (lv_sub hl [0, 1, 2] rfl) hw
  · have hw := hw.2 c1
    refine ml_aload_n (pc := 55) X hl 0 rfl rfl dX12_isText_55 ?_
    refine ml_calliV (pc := 56) (rest := []) X [] (by decide) rfl (ml_c215 hn) (c_X12_here l base D cA n hn σ _ hw) cv_X12_171 ⟨rfl, rfl⟩ ⟨by decide, by decide⟩ rfl rfl hl (Nat.le_of_ble_eq_true rfl) ⟨Nat.zero_le _, Nat.zero_le _⟩ dX12_isText_56 (fun r2 σ2 t2 hw => ?_)
    have hw := hw t2
    refine ml_bipush (pc := 59) X dX12_isText_59 (by decide) ?_
    refine ml_icmp_ne (pc := 61) (tgt := 98) X t2 ⟨by decide, by decide⟩ dX12_isText_61 (by decide) (fun c3 => ?_) (fun c3 => ?_)
    · have hw := hw.1 c3
      exact u_X12_isText_98 X hn hK22 σ2 x1 x3 h_x1 h_x3 _ (lv_sub hl [0, 1, 2] rfl) hw
    · have hw := hw.2 c3
      refine ml_aload_n (pc := 64) X hl 0 rfl rfl dX12_isText_64 ?_
      refine gf_X12_175 (pc := 65) X (ml_c215 hn) dX12_isText_65 (fun r4 => ?_)
      have hw := hw r4
      refine ml_if_le (pc := 68) (tgt := 98) X r4 dX12_isText_68 (by decide) (fun c5 => ?_) (fun c5 => ?_)
      · have hw := hw.1 c5
        exact u_X12_isText_98 X hn hK22 σ2 x1 x3 h_x1 h_x3 _ (lv_sub hl [0, 1, 2] rfl) hw
      · have hw := hw.2 c5
        refine ml_aload_n (pc := 71) X hl 0 rfl rfl dX12_isText_71 ?_
        refine ml_dup (pc := 72) X dX12_isText_72 rfl ?_
        refine gf_X12_175 (pc := 73) X (ml_c215 hn) dX12_isText_73 (fun r6 => ?_)
        have hw := hw r6
        refine ml_iconst (pc := 76) X dX12_isText_76 ?_
        obtain ⟨v7, hw⟩ := hw
        refine ml_isub (pc := 77) X dX12_isText_77 ?_
        refine pf_X12_175 (pc := 78) X (ml_c215 hn) v7 dX12_isText_78 (fun σ8 g8 => ?_)
        have hw := hw σ8 g8
        refine ml_aload_n (pc := 81) X hl 0 rfl rfl dX12_isText_81 ?_
        refine ml_dup (pc := 82) X dX12_isText_82 rfl ?_
        refine gf_X12_162 (pc := 83) X (ml_c215 hn) dX12_isText_83 (fun r9 => ?_)
        have hw := hw r9
        refine ml_iconst (pc := 86) X dX12_isText_86 ?_
        obtain ⟨v10, hw⟩ := hw
        refine ml_iadd (pc := 87) X dX12_isText_87 ?_
        refine pf_X12_162 (pc := 88) X (ml_c215 hn) v10 dX12_isText_88 (fun σ11 g11 => ?_)
        have hw := hw σ11 g11
        refine ml_aload_n (pc := 91) X hl 0 rfl rfl dX12_isText_91 ?_
        refine ml_callvV (pc := 92) (rest := []) X [] (by decide) rfl (ml_c215 hn) (c_X12_repeatsTold l base D cA n hn σ11 _ hw) cv_X12_190 ⟨rfl, rfl⟩ ⟨by decide, by decide⟩ rfl rfl hl (Nat.le_of_ble_eq_true rfl) ⟨Nat.zero_le _, Nat.zero_le _⟩ dX12_isText_92 (fun σ12 hw => ?_)
        refine ml_goto (pc := 95) (tgt := 22) X dX12_isText_95 (by decide) ?_
        exact hK22 σ12 x1 x3 h_x1 h_x3 _ (lv_sub hl [0, 1, 2] rfl) hw
set_option maxRecDepth 100000 in
set_option maxHeartbeats 4000000 in
theorem u_X12_isText_22 {p : Program} {e : Env} {s : State} {m : MethodId} {args : Array Value} {below : List Frame} {meth : Method} {c : Code} {base : Nat} {D : va_G} {cA : Nat → ClassId} {n : Nat} {l : Launch} {Q : Int → ml_St → Prop} {K168 : ml_St → Prop} (X : ml_X p s m c meth args D cA cX12_isText 5 RX12 (some .boolean)) (hn : 256 ≤ n) (hK168 : ∀ (σ : ml_St) (ls : Array Slot), lv_has ls 5 [(0, .ref (base + (215 : Int).toNat))] → K168 σ → ml_V p l e rm_X12_isText s m args below meth c (MQ below (ml_Qi ml_B base D cA n Q) args s 0 0 (ml_A base)) base D cA 0 0 n n σ (F0 m 168 ls [])) : ∀ (N : Nat) (σ : ml_St) (x1 : Int) (x3 : Int) (h_x1 : I32 x1) (h_x3 : ml_B x3) (ls : Array Slot), lv_has ls 5 [(0, .ref (base + (215 : Int).toNat)), (1, .int (Int32.ofInt x1)), (3, .int (Int32.ofInt x3))] → f_X12_isText_u22 Q K168 N σ x1 x3 → ml_V p l e rm_X12_isText s m args below meth c (MQ below (ml_Qi ml_B base D cA n Q) args s 0 0 (ml_A base)) base D cA 0 0 n n σ (F0 m 22 ls []) := by
  intro N
  induction N with
  | zero => intro σ x1 x3 h_x1 h_x3 ls hl hw; exact False.elim hw
  | succ N ih =>
    intro σ x1 x3 h_x1 h_x3 ls hl hw
    unfold f_X12_isText_u22 at hw
    refine ml_aload_n (pc := 22) X hl 0 rfl rfl dX12_isText_22 ?_
    refine ml_callzV (pc := 23) (rest := []) X [] (by decide) rfl (ml_c215 hn) (c_X12_isGood l base D cA n hn σ _ hw) cv_X12_186 ⟨rfl, rfl⟩ ⟨by decide, by decide⟩ rfl rfl hl (Nat.le_of_ble_eq_true rfl) ⟨Nat.zero_le _, Nat.zero_le _⟩ dX12_isText_23 (fun r1 σ1 t1 hw => ?_)
    have hw := hw t1
    refine ml_if_eq (pc := 26) (tgt := 168) X t1.i dX12_isText_26 (by decide) (fun c2 => ?_) (fun c2 => ?_)
    · have hw := hw.1 c2
      exact hK168 σ1   _ (lv_sub hl [0] rfl) hw
    · have hw := hw.2 c2
      refine ml_aload_n (pc := 29) X hl 0 rfl rfl dX12_isText_29 ?_
      refine gf_X12_162 (pc := 30) X (ml_c215 hn) dX12_isText_30 (fun r3 => ?_)
      have hw := hw r3
      refine ml_aload_n (pc := 33) X hl 0 rfl rfl dX12_isText_33 ?_
      refine gf_X12_165 (pc := 34) X (ml_c215 hn) dX12_isText_34 (fun r4 => ?_)
      have hw := hw r4
      refine ml_icmp_lt (pc := 37) (tgt := 51) X r3 r4 dX12_isText_37 (by decide) (fun c5 => ?_) (fun c5 => ?_)
      · have hw := hw.1 c5
        exact u_X12_isText_51 X hn ih σ1 x1 x3 h_x1 h_x3 _ (lv_sub hl [0, 1, 2] rfl) hw
      · have hw := hw.2 c5
        refine ml_iload_n (pc := 40) X hl 2 rfl rfl dX12_isText_40 ?_
        refine ml_if_ne (pc := 41) (tgt := 51) X h_x3.i dX12_isText_41 (by decide) (fun c6 => ?_) (fun c6 => ?_)
        · have hw := hw.1 c6
          exact u_X12_isText_51 X hn ih σ1 x1 x3 h_x1 h_x3 _ (lv_sub hl [0, 1, 2] rfl) hw
        · have hw := hw.2 c6
          refine ml_aload_n (pc := 44) X hl 0 rfl rfl dX12_isText_44 ?_
          refine gf_X12_175 (pc := 45) X (ml_c215 hn) dX12_isText_45 (fun r7 => ?_)
          have hw := hw r7
          refine ml_if_le (pc := 48) (tgt := 168) X r7 dX12_isText_48 (by decide) (fun c8 => ?_) (fun c8 => ?_)
          · have hw := hw.1 c8
            exact hK168 σ1   _ (lv_sub hl [0] rfl) hw
          · have hw := hw.2 c8
            exact u_X12_isText_51 X hn ih σ1 x1 x3 h_x1 h_x3 _ (lv_sub hl [0, 1, 2] rfl) hw
set_option maxRecDepth 100000 in
set_option maxHeartbeats 4000000 in
theorem u_X12_isText_168 {p : Program} {e : Env} {s : State} {m : MethodId} {args : Array Value} {below : List Frame} {meth : Method} {c : Code} {base : Nat} {D : va_G} {cA : Nat → ClassId} {n : Nat} {l : Launch} {Q : Int → ml_St → Prop} (X : ml_X p s m c meth args D cA cX12_isText 5 RX12 (some .boolean)) (hn : 256 ≤ n) (σ : ml_St) (ls : Array Slot) (hl : lv_has ls 5 [(0, .ref (base + (215 : Int).toNat))]) (hw : f_X12_isText_u168 Q σ) : ml_V p l e rm_X12_isText s m args below meth c (MQ below (ml_Qi ml_B base D cA n Q) args s 0 0 (ml_A base)) base D cA 0 0 n n σ (F0 m 168 ls []) := by
  unfold f_X12_isText_u168 at hw
  refine ml_aload_n (pc := 168) X hl 0 rfl rfl dX12_isText_168 ?_
  refine ml_callzV (pc := 169) (rest := []) X [] (by decide) rfl (ml_c215 hn) (c_X12_isGood l base D cA n hn σ _ hw) cv_X12_186 ⟨rfl, rfl⟩ ⟨by decide, by decide⟩ rfl rfl hl (Nat.le_of_ble_eq_true rfl) ⟨Nat.zero_le _, Nat.zero_le _⟩ dX12_isText_169 (fun r1 σ1 t1 hw => ?_)
  have hw := hw t1
  exact ml_zret (pc := 172) X t1 hw dX12_isText_172
set_option maxRecDepth 100000 in
set_option maxHeartbeats 4000000 in
theorem u_X12_isText_0 {p : Program} {e : Env} {s : State} {m : MethodId} {args : Array Value} {below : List Frame} {meth : Method} {c : Code} {base : Nat} {D : va_G} {cA : Nat → ClassId} {n : Nat} {l : Launch} {Q : Int → ml_St → Prop} (X : ml_X p s m c meth args D cA cX12_isText 5 RX12 (some .boolean)) (hn : 256 ≤ n) (σ : ml_St) (x1 : Int) (x2 : Int) (h_x1 : I32 x1) (h_x2 : I32 x2) (ls : Array Slot) (hl : lv_has ls 5 [(0, .ref (base + (215 : Int).toNat)), (1, .int (Int32.ofInt x1)), (2, .int (Int32.ofInt x2))]) (hw : f_X12_isText_u0 Q σ x1 x2) : ml_V p l e rm_X12_isText s m args below meth c (MQ below (ml_Qi ml_B base D cA n Q) args s 0 0 (ml_A base)) base D cA 0 0 n n σ (F0 m 0 ls []) := by
  unfold f_X12_isText_u0 at hw
  refine ml_aload_n (pc := 0) X hl 0 rfl rfl dX12_isText_0 ?_
  refine ml_iconst (pc := 1) X dX12_isText_1 ?_
  refine pf_X12_162 (pc := 2) X (ml_c215 hn) ⟨by decide, by decide⟩ dX12_isText_2 (fun σ1 g1 => ?_)
  have hw := hw σ1 g1
  refine ml_aload_n (pc := 5) X hl 0 rfl rfl dX12_isText_5 ?_
  refine ml_iload_n (pc := 6) X hl 2 rfl rfl dX12_isText_6 ?_
  refine pf_X12_165 (pc := 7) X (ml_c215 hn) h_x2 dX12_isText_7 (fun σ2 g2 => ?_)
  have hw := hw σ2 g2
  refine ml_aload_n (pc := 10) X hl 0 rfl rfl dX12_isText_10 ?_
  refine ml_iconst (pc := 11) X dX12_isText_11 ?_
  refine pf_X12_168 (pc := 12) X (ml_c215 hn) ⟨by decide, by decide⟩ dX12_isText_12 (fun σ3 g3 => ?_)
  have hw := hw σ3 g3
  refine ml_aload_n (pc := 15) X hl 0 rfl rfl dX12_isText_15 ?_
  refine ml_iconst (pc := 16) X dX12_isText_16 ?_
  refine pf_X12_175 (pc := 17) X (ml_c215 hn) ⟨by decide, by decide⟩ dX12_isText_17 (fun σ4 g4 => ?_)
  have hw := hw σ4 g4
  refine ml_iconst (pc := 20) X dX12_isText_20 ?_
  refine ml_istore_n (pc := 21) X rfl hl (by decide) (lst' := [(3, .int (Int32.ofInt 1)), (0, .ref (base + (215 : Int).toNat)), (1, .int (Int32.ofInt x1)), (2, .int (Int32.ofInt x2))]) rfl dX12_isText_21 (fun ls hl => ?_)
  obtain ⟨N0, hw⟩ := hw
  exact u_X12_isText_22 X hn (fun σ   ls hl hw => u_X12_isText_168 X hn σ   ls hl hw) N0 σ4 x1 1 h_x1 ⟨by decide, by decide⟩ _ (lv_sub hl [1, 2, 0] rfl) hw
set_option maxRecDepth 100000 in
theorem c_X12_isText (l : Launch) (base : Nat) (D : va_G) (cA : Nat → ClassId) (n : Nat) (hn : 256 ≤ n) (σ : ml_St) (x1 : Int) (x2 : Int) (h_x1 : I32 x1) (h_x2 : I32 x2) (Q : Int → ml_St → Prop) (hw : f_X12_isText σ x1 x2 Q) : Met l yX12_isText (Cond.code yX12_isText cX12_isText 5 (some .boolean) :: ml_T) rm_X12_isText (va_Pc [.ref (base + (215 : Int).toNat), .int (Int32.ofInt x1), .int (Int32.ofInt x2)] (ml_U base D cA n σ)) (ml_Qi ml_B base D cA n Q) 0 0 (ml_A base) := by
  refine Met.ofW (cc := cX12_isText) (maxL := 5) (ret := (some .boolean)) (by decide) rfl ?_
  intro p e s m args below meth c s₁ B hml hv
  obtain ⟨rfl, hP, hK, hok, hro⟩ := hv
  have X : ml_X p s m c meth _ D cA cX12_isText 5 RX12 (some .boolean) := ⟨B.exec, B.bytes, hml, findClass_of_methodNamed B.named, fun w hw => atoms_spec (ws := Cond.code yX12_isText cX12_isText 5 (some .boolean) :: ml_T) B.pre w (List.mem_cons_of_mem _ hw), hK, B.notSynchronized, B.returns⟩
  have hl := lv_entry [.ref (base + (215 : Int).toNat), .int (Int32.ofInt x1), .int (Int32.ofInt x2)] (n := 5) (Nat.le_of_ble_eq_true rfl)
  rw [lg_entry_eq]
  generalize (lg_sl [.ref (base + (215 : Int).toNat), .int (Int32.ofInt x1), .int (Int32.ofInt x2)] ++ List.replicate (5 - (lg_sl [.ref (base + (215 : Int).toNat), .int (Int32.ofInt x1), .int (Int32.ofInt x2)]).length) Slot.unset).toArray = ls at hl ⊢
  have hl : lv_has ls 5 [(0, .ref (base + (215 : Int).toNat)), (1, .int (Int32.ofInt x1)), (2, .int (Int32.ofInt x2))] := hl
  unfold f_X12_isText at hw
  exact u_X12_isText_0 X hn σ x1 x2 h_x1 h_x2 _ (lv_sub hl [0, 1, 2] rfl) hw s.heap [] hP va_S.rf hok hro
theorem dX12_takesText_0 : decode cX12_takesText 0 = .ok (.aload_n 0, 1) := by decide +kernel
theorem dX12_takesText_1 : decode cX12_takesText 1 = .ok (.getfield 24, 3) := by decide +kernel
theorem dX12_takesText_4 : decode cX12_takesText 4 = .ok (.iload_n 1, 1) := by decide +kernel
theorem dX12_takesText_5 : decode cX12_takesText 5 = .ok (.iload_n 2, 1) := by decide +kernel
theorem dX12_takesText_6 : decode cX12_takesText 6 = .ok (.iastore, 1) := by decide +kernel
theorem dX12_takesText_7 : decode cX12_takesText 7 = .ok (.iconst 0, 1) := by decide +kernel
theorem dX12_takesText_8 : decode cX12_takesText 8 = .ok (.istore_n 3, 1) := by decide +kernel
theorem dX12_takesText_9 : decode cX12_takesText 9 = .ok (.iload_n 3, 1) := by decide +kernel
theorem dX12_takesText_10 : decode cX12_takesText 10 = .ok (.iload_n 2, 1) := by decide +kernel
theorem dX12_takesText_11 : decode cX12_takesText 11 = .ok (.if_icmp .ge 26, 3) := by decide +kernel
theorem dX12_takesText_14 : decode cX12_takesText 14 = .ok (.aload_n 0, 1) := by decide +kernel
theorem dX12_takesText_15 : decode cX12_takesText 15 = .ok (.getfield 21, 3) := by decide +kernel
theorem dX12_takesText_18 : decode cX12_takesText 18 = .ok (.bipush 100, 2) := by decide +kernel
theorem dX12_takesText_20 : decode cX12_takesText 20 = .ok (.iload_n 1, 1) := by decide +kernel
theorem dX12_takesText_21 : decode cX12_takesText 21 = .ok (.imul, 1) := by decide +kernel
theorem dX12_takesText_22 : decode cX12_takesText 22 = .ok (.iload_n 3, 1) := by decide +kernel
theorem dX12_takesText_23 : decode cX12_takesText 23 = .ok (.iadd, 1) := by decide +kernel
theorem dX12_takesText_24 : decode cX12_takesText 24 = .ok (.aload_n 0, 1) := by decide +kernel
theorem dX12_takesText_25 : decode cX12_takesText 25 = .ok (.getfield 7, 3) := by decide +kernel
theorem dX12_takesText_28 : decode cX12_takesText 28 = .ok (.iload_n 3, 1) := by decide +kernel
theorem dX12_takesText_29 : decode cX12_takesText 29 = .ok (.baload, 1) := by decide +kernel
theorem dX12_takesText_30 : decode cX12_takesText 30 = .ok (.bastore, 1) := by decide +kernel
theorem dX12_takesText_31 : decode cX12_takesText 31 = .ok (.iinc 3 1, 3) := by decide +kernel
theorem dX12_takesText_34 : decode cX12_takesText 34 = .ok (.goto (-25), 3) := by decide +kernel
theorem dX12_takesText_37 : decode cX12_takesText 37 = .ok (.return_, 1) := by decide +kernel
def f_X12_takesText_u9 (Q : ml_St → Prop) (K37 : ml_St → Prop) : Nat → ml_St → Int → Int → Int → Prop
| 0, _, _, _, _ => False
| N + 1, σ, x1, x2, x3 =>
(x2 ≤ x3 →
K37 σ) ∧
(¬ (x2 ≤ x3) →
I32 (100 * x1) ∧
I32 ((100 * x1) + x3) ∧
(0 : Int) ≤ x3 ∧ (x3 : Int) < 200 ∧
∀ _ : ml_I8 (σ 216 x3),
(0 : Int) ≤ ((100 * x1) + x3) ∧ (((100 * x1) + x3) : Int) < 1600 ∧
∀ σ5, σ5 = ml_up σ 218 ((100 * x1) + x3) (σ 216 x3) →
I32 (x3 + 1) ∧
∀ y6 : Int, y6 = x3 + 1 →
f_X12_takesText_u9 Q K37 N σ5 x1 x2 y6)
def f_X12_takesText_u37 (Q : ml_St → Prop) (σ : ml_St) : Prop :=
Q σ
def f_X12_takesText_u0 (Q : ml_St → Prop) (σ : ml_St) (x1 : Int) (x2 : Int) : Prop :=
(0 : Int) ≤ x1 ∧ (x1 : Int) < 16 ∧
∀ σ1, σ1 = ml_up σ 219 x1 x2 →
∃ N1, f_X12_takesText_u9 Q (f_X12_takesText_u37 Q) N1 σ1 x1 x2 0
def f_X12_takesText (σ : ml_St) (x1 : Int) (x2 : Int) (Q : ml_St → Prop) : Prop := f_X12_takesText_u0 Q σ x1 x2
def rm_X12_takesText : Room := { frames := 0, cells := 0, slots := 0, locals := 0 }
set_option maxRecDepth 100000 in
set_option maxHeartbeats 4000000 in
theorem u_X12_takesText_9 {p : Program} {e : Env} {s : State} {m : MethodId} {args : Array Value} {below : List Frame} {meth : Method} {c : Code} {base : Nat} {D : va_G} {cA : Nat → ClassId} {n : Nat} {l : Launch} {Q : ml_St → Prop} {K37 : ml_St → Prop} (X : ml_X p s m c meth args D cA cX12_takesText 4 RX12 none) (hn : 256 ≤ n) (hK37 : ∀ (σ : ml_St) (ls : Array Slot), lv_has ls 4 [] → K37 σ → ml_V p l e rm_X12_takesText s m args below meth c (MQ below (ml_Qv base D cA n Q) args s 0 0 (ml_A base)) base D cA 0 0 n n σ (F0 m 37 ls [])) : ∀ (N : Nat) (σ : ml_St) (x1 : Int) (x2 : Int) (x3 : Int) (h_x1 : I32 x1) (h_x2 : I32 x2) (h_x3 : I32 x3) (ls : Array Slot), lv_has ls 4 [(0, .ref (base + (215 : Int).toNat)), (1, .int (Int32.ofInt x1)), (2, .int (Int32.ofInt x2)), (3, .int (Int32.ofInt x3))] → f_X12_takesText_u9 Q K37 N σ x1 x2 x3 → ml_V p l e rm_X12_takesText s m args below meth c (MQ below (ml_Qv base D cA n Q) args s 0 0 (ml_A base)) base D cA 0 0 n n σ (F0 m 9 ls []) := by
  intro N
  induction N with
  | zero => intro σ x1 x2 x3 h_x1 h_x2 h_x3 ls hl hw; exact False.elim hw
  | succ N ih =>
    intro σ x1 x2 x3 h_x1 h_x2 h_x3 ls hl hw
    unfold f_X12_takesText_u9 at hw
    refine ml_iload_n (pc := 9) X hl 3 rfl rfl dX12_takesText_9 ?_
    refine ml_iload_n (pc := 10) X hl 2 rfl rfl dX12_takesText_10 ?_
    refine ml_icmp_ge (pc := 11) (tgt := 37) X h_x3 h_x2 dX12_takesText_11 (by decide) (fun c1 => ?_) (fun c1 => ?_)
    · have hw := hw.1 c1
      exact hK37 σ   _ (lv_sub hl [] rfl) hw
    · have hw := hw.2 c1
      refine ml_aload_n (pc := 14) X hl 0 rfl rfl dX12_takesText_14 ?_
      refine gf_X12_21 (pc := 15) X (ml_c215 hn) dX12_takesText_15 ?_
      refine ml_bipush (pc := 18) X dX12_takesText_18 (by decide) ?_
      refine ml_iload_n (pc := 20) X hl 1 rfl rfl dX12_takesText_20 ?_
      obtain ⟨v2, hw⟩ := hw
      refine ml_imul (pc := 21) X dX12_takesText_21 ?_
      refine ml_iload_n (pc := 22) X hl 3 rfl rfl dX12_takesText_22 ?_
      obtain ⟨v3, hw⟩ := hw
      refine ml_iadd (pc := 23) X dX12_takesText_23 ?_
      refine ml_aload_n (pc := 24) X hl 0 rfl rfl dX12_takesText_24 ?_
      refine gf_X12_7 (pc := 25) X (ml_c215 hn) dX12_takesText_25 ?_
      refine ml_iload_n (pc := 28) X hl 3 rfl rfl dX12_takesText_28 ?_
      obtain ⟨a4, b4, hw⟩ := hw
      refine ml_bald (pc := 29) (N := 200) X (ml_c216 hn) a4 b4 dX12_takesText_29 (fun r4 => ?_)
      have hw := hw r4
      obtain ⟨a5, b5, hw⟩ := hw
      refine ml_bast (pc := 30) (N := 1600) X (ml_c218 hn) a5 b5 r4 dX12_takesText_30 (fun σ5 g5 => ?_)
      have hw := hw σ5 g5
      obtain ⟨v6, hw⟩ := hw
      obtain ⟨y6, e6⟩ : ∃ y : Int, y = x3 + 1 := ⟨_, rfl⟩
      have hw := hw y6 e6
      rw [← e6] at v6
      refine ml_iinc (pc := 31) X e6 hl 3 rfl (by decide) (lst' := [(3, .int (Int32.ofInt y6)), (0, .ref (base + (215 : Int).toNat)), (1, .int (Int32.ofInt x1)), (2, .int (Int32.ofInt x2))]) rfl dX12_takesText_31 (fun ls hl => ?_)
      refine ml_goto (pc := 34) (tgt := 9) X dX12_takesText_34 (by decide) ?_
      exact ih σ5 x1 x2 y6 h_x1 h_x2 v6 _ (lv_sub hl [1, 2, 3, 0] rfl) hw
set_option maxRecDepth 100000 in
set_option maxHeartbeats 4000000 in
theorem u_X12_takesText_37 {p : Program} {e : Env} {s : State} {m : MethodId} {args : Array Value} {below : List Frame} {meth : Method} {c : Code} {base : Nat} {D : va_G} {cA : Nat → ClassId} {n : Nat} {l : Launch} {Q : ml_St → Prop} (X : ml_X p s m c meth args D cA cX12_takesText 4 RX12 none) (hn : 256 ≤ n) (σ : ml_St) (ls : Array Slot) (hl : lv_has ls 4 []) (hw : f_X12_takesText_u37 Q σ) : ml_V p l e rm_X12_takesText s m args below meth c (MQ below (ml_Qv base D cA n Q) args s 0 0 (ml_A base)) base D cA 0 0 n n σ (F0 m 37 ls []) := by
  unfold f_X12_takesText_u37 at hw
  exact ml_vret (pc := 37) X hw dX12_takesText_37
set_option maxRecDepth 100000 in
set_option maxHeartbeats 4000000 in
theorem u_X12_takesText_0 {p : Program} {e : Env} {s : State} {m : MethodId} {args : Array Value} {below : List Frame} {meth : Method} {c : Code} {base : Nat} {D : va_G} {cA : Nat → ClassId} {n : Nat} {l : Launch} {Q : ml_St → Prop} (X : ml_X p s m c meth args D cA cX12_takesText 4 RX12 none) (hn : 256 ≤ n) (σ : ml_St) (x1 : Int) (x2 : Int) (h_x1 : I32 x1) (h_x2 : I32 x2) (ls : Array Slot) (hl : lv_has ls 4 [(0, .ref (base + (215 : Int).toNat)), (1, .int (Int32.ofInt x1)), (2, .int (Int32.ofInt x2))]) (hw : f_X12_takesText_u0 Q σ x1 x2) : ml_V p l e rm_X12_takesText s m args below meth c (MQ below (ml_Qv base D cA n Q) args s 0 0 (ml_A base)) base D cA 0 0 n n σ (F0 m 0 ls []) := by
  unfold f_X12_takesText_u0 at hw
  refine ml_aload_n (pc := 0) X hl 0 rfl rfl dX12_takesText_0 ?_
  refine gf_X12_24 (pc := 1) X (ml_c215 hn) dX12_takesText_1 ?_
  refine ml_iload_n (pc := 4) X hl 1 rfl rfl dX12_takesText_4 ?_
  refine ml_iload_n (pc := 5) X hl 2 rfl rfl dX12_takesText_5 ?_
  obtain ⟨a1, b1, hw⟩ := hw
  refine ml_iast (pc := 6) (N := 16) X (ml_c219 hn) a1 b1 h_x2 dX12_takesText_6 (fun σ1 g1 => ?_)
  have hw := hw σ1 g1
  refine ml_iconst (pc := 7) X dX12_takesText_7 ?_
  refine ml_istore_n (pc := 8) X rfl hl (by decide) (lst' := [(3, .int (Int32.ofInt 0)), (0, .ref (base + (215 : Int).toNat)), (1, .int (Int32.ofInt x1)), (2, .int (Int32.ofInt x2))]) rfl dX12_takesText_8 (fun ls hl => ?_)
  obtain ⟨N0, hw⟩ := hw
  exact u_X12_takesText_9 X hn (fun σ   ls hl hw => u_X12_takesText_37 X hn σ   ls hl hw) N0 σ1 x1 x2 0 h_x1 h_x2 ⟨by decide, by decide⟩ _ (lv_sub hl [1, 2, 3, 0] rfl) hw
set_option maxRecDepth 100000 in
theorem c_X12_takesText (l : Launch) (base : Nat) (D : va_G) (cA : Nat → ClassId) (n : Nat) (hn : 256 ≤ n) (σ : ml_St) (x1 : Int) (x2 : Int) (h_x1 : I32 x1) (h_x2 : I32 x2) (Q : ml_St → Prop) (hw : f_X12_takesText σ x1 x2 Q) : Met l yX12_takesText (Cond.code yX12_takesText cX12_takesText 4 none :: ml_T) rm_X12_takesText (va_Pc [.ref (base + (215 : Int).toNat), .int (Int32.ofInt x1), .int (Int32.ofInt x2)] (ml_U base D cA n σ)) (ml_Qv base D cA n Q) 0 0 (ml_A base) := by
  refine Met.ofW (cc := cX12_takesText) (maxL := 4) (ret := none) (by decide) rfl ?_
  intro p e s m args below meth c s₁ B hml hv
  obtain ⟨rfl, hP, hK, hok, hro⟩ := hv
  have X : ml_X p s m c meth _ D cA cX12_takesText 4 RX12 none := ⟨B.exec, B.bytes, hml, findClass_of_methodNamed B.named, fun w hw => atoms_spec (ws := Cond.code yX12_takesText cX12_takesText 4 none :: ml_T) B.pre w (List.mem_cons_of_mem _ hw), hK, B.notSynchronized, B.returns⟩
  have hl := lv_entry [.ref (base + (215 : Int).toNat), .int (Int32.ofInt x1), .int (Int32.ofInt x2)] (n := 4) (Nat.le_of_ble_eq_true rfl)
  rw [lg_entry_eq]
  generalize (lg_sl [.ref (base + (215 : Int).toNat), .int (Int32.ofInt x1), .int (Int32.ofInt x2)] ++ List.replicate (4 - (lg_sl [.ref (base + (215 : Int).toNat), .int (Int32.ofInt x1), .int (Int32.ofInt x2)]).length) Slot.unset).toArray = ls at hl ⊢
  have hl : lv_has ls 4 [(0, .ref (base + (215 : Int).toNat)), (1, .int (Int32.ofInt x1)), (2, .int (Int32.ofInt x2))] := hl
  unfold f_X12_takesText at hw
  exact u_X12_takesText_0 X hn σ x1 x2 h_x1 h_x2 _ (lv_sub hl [0, 1, 2] rfl) hw s.heap [] hP va_S.rf hok hro
theorem dX12_told_0 : decode cX12_told 0 = .ok (.aload_n 0, 1) := by decide +kernel
theorem dX12_told_1 : decode cX12_told 1 = .ok (.iconst 0, 1) := by decide +kernel
theorem dX12_told_2 : decode cX12_told 2 = .ok (.putfield 155, 3) := by decide +kernel
theorem dX12_told_5 : decode cX12_told 5 = .ok (.aload_n 0, 1) := by decide +kernel
theorem dX12_told_6 : decode cX12_told 6 = .ok (.iload_n 1, 1) := by decide +kernel
theorem dX12_told_7 : decode cX12_told 7 = .ok (.iload_n 2, 1) := by decide +kernel
theorem dX12_told_8 : decode cX12_told 8 = .ok (.invokevirtual 270, 3) := by decide +kernel
theorem dX12_told_11 : decode cX12_told 11 = .ok (.ifCond .ne 8, 3) := by decide +kernel
theorem dX12_told_14 : decode cX12_told 14 = .ok (.aload_n 0, 1) := by decide +kernel
theorem dX12_told_15 : decode cX12_told 15 = .ok (.getfield 168, 3) := by decide +kernel
theorem dX12_told_18 : decode cX12_told 18 = .ok (.ireturn, 1) := by decide +kernel
theorem dX12_told_19 : decode cX12_told 19 = .ok (.aload_n 0, 1) := by decide +kernel
theorem dX12_told_20 : decode cX12_told 20 = .ok (.getfield 24, 3) := by decide +kernel
theorem dX12_told_23 : decode cX12_told 23 = .ok (.iload_n 1, 1) := by decide +kernel
theorem dX12_told_24 : decode cX12_told 24 = .ok (.iaload, 1) := by decide +kernel
theorem dX12_told_25 : decode cX12_told 25 = .ok (.istore_n 3, 1) := by decide +kernel
theorem dX12_told_26 : decode cX12_told 26 = .ok (.iconst 0, 1) := by decide +kernel
theorem dX12_told_27 : decode cX12_told 27 = .ok (.istore 4, 2) := by decide +kernel
theorem dX12_told_29 : decode cX12_told 29 = .ok (.iload 4, 2) := by decide +kernel
theorem dX12_told_31 : decode cX12_told 31 = .ok (.iload_n 3, 1) := by decide +kernel
theorem dX12_told_32 : decode cX12_told 32 = .ok (.if_icmp .ge 28, 3) := by decide +kernel
theorem dX12_told_35 : decode cX12_told 35 = .ok (.aload_n 0, 1) := by decide +kernel
theorem dX12_told_36 : decode cX12_told 36 = .ok (.getfield 68, 3) := by decide +kernel
theorem dX12_told_39 : decode cX12_told 39 = .ok (.iload 4, 2) := by decide +kernel
theorem dX12_told_41 : decode cX12_told 41 = .ok (.aload_n 0, 1) := by decide +kernel
theorem dX12_told_42 : decode cX12_told 42 = .ok (.getfield 21, 3) := by decide +kernel
theorem dX12_told_45 : decode cX12_told 45 = .ok (.bipush 100, 2) := by decide +kernel
theorem dX12_told_47 : decode cX12_told 47 = .ok (.iload_n 1, 1) := by decide +kernel
theorem dX12_told_48 : decode cX12_told 48 = .ok (.imul, 1) := by decide +kernel
theorem dX12_told_49 : decode cX12_told 49 = .ok (.iload 4, 2) := by decide +kernel
theorem dX12_told_51 : decode cX12_told 51 = .ok (.iadd, 1) := by decide +kernel
theorem dX12_told_52 : decode cX12_told 52 = .ok (.baload, 1) := by decide +kernel
theorem dX12_told_53 : decode cX12_told 53 = .ok (.bastore, 1) := by decide +kernel
theorem dX12_told_54 : decode cX12_told 54 = .ok (.iinc 4 1, 3) := by decide +kernel
theorem dX12_told_57 : decode cX12_told 57 = .ok (.goto (-28), 3) := by decide +kernel
theorem dX12_told_60 : decode cX12_told 60 = .ok (.aload_n 0, 1) := by decide +kernel
theorem dX12_told_61 : decode cX12_told 61 = .ok (.iload_n 1, 1) := by decide +kernel
theorem dX12_told_62 : decode cX12_told 62 = .ok (.iload_n 2, 1) := by decide +kernel
theorem dX12_told_63 : decode cX12_told 63 = .ok (.invokevirtual 274, 3) := by decide +kernel
theorem dX12_told_66 : decode cX12_told 66 = .ok (.aload_n 0, 1) := by decide +kernel
theorem dX12_told_67 : decode cX12_told 67 = .ok (.iload_n 1, 1) := by decide +kernel
theorem dX12_told_68 : decode cX12_told 68 = .ok (.invokevirtual 259, 3) := by decide +kernel
theorem dX12_told_71 : decode cX12_told 71 = .ok (.aload_n 0, 1) := by decide +kernel
theorem dX12_told_72 : decode cX12_told 72 = .ok (.iload_n 1, 1) := by decide +kernel
theorem dX12_told_73 : decode cX12_told 73 = .ok (.invokevirtual 262, 3) := by decide +kernel
theorem dX12_told_76 : decode cX12_told 76 = .ok (.ifCond .ne 5, 3) := by decide +kernel
theorem dX12_told_79 : decode cX12_told 79 = .ok (.iconst 0, 1) := by decide +kernel
theorem dX12_told_80 : decode cX12_told 80 = .ok (.ireturn, 1) := by decide +kernel
theorem dX12_told_81 : decode cX12_told 81 = .ok (.aload_n 0, 1) := by decide +kernel
theorem dX12_told_82 : decode cX12_told 82 = .ok (.getfield 24, 3) := by decide +kernel
theorem dX12_told_85 : decode cX12_told 85 = .ok (.iload_n 1, 1) := by decide +kernel
theorem dX12_told_86 : decode cX12_told 86 = .ok (.iload_n 3, 1) := by decide +kernel
theorem dX12_told_87 : decode cX12_told 87 = .ok (.iastore, 1) := by decide +kernel
theorem dX12_told_88 : decode cX12_told 88 = .ok (.iconst 0, 1) := by decide +kernel
theorem dX12_told_89 : decode cX12_told 89 = .ok (.istore 4, 2) := by decide +kernel
theorem dX12_told_91 : decode cX12_told 91 = .ok (.iload 4, 2) := by decide +kernel
theorem dX12_told_93 : decode cX12_told 93 = .ok (.iload_n 3, 1) := by decide +kernel
theorem dX12_told_94 : decode cX12_told 94 = .ok (.if_icmp .ge 28, 3) := by decide +kernel
theorem dX12_told_97 : decode cX12_told 97 = .ok (.aload_n 0, 1) := by decide +kernel
theorem dX12_told_98 : decode cX12_told 98 = .ok (.getfield 21, 3) := by decide +kernel
theorem dX12_told_101 : decode cX12_told 101 = .ok (.bipush 100, 2) := by decide +kernel
theorem dX12_told_103 : decode cX12_told 103 = .ok (.iload_n 1, 1) := by decide +kernel
theorem dX12_told_104 : decode cX12_told 104 = .ok (.imul, 1) := by decide +kernel
theorem dX12_told_105 : decode cX12_told 105 = .ok (.iload 4, 2) := by decide +kernel
theorem dX12_told_107 : decode cX12_told 107 = .ok (.iadd, 1) := by decide +kernel
theorem dX12_told_108 : decode cX12_told 108 = .ok (.aload_n 0, 1) := by decide +kernel
theorem dX12_told_109 : decode cX12_told 109 = .ok (.getfield 68, 3) := by decide +kernel
theorem dX12_told_112 : decode cX12_told 112 = .ok (.iload 4, 2) := by decide +kernel
theorem dX12_told_114 : decode cX12_told 114 = .ok (.baload, 1) := by decide +kernel
theorem dX12_told_115 : decode cX12_told 115 = .ok (.bastore, 1) := by decide +kernel
theorem dX12_told_116 : decode cX12_told 116 = .ok (.iinc 4 1, 3) := by decide +kernel
theorem dX12_told_119 : decode cX12_told 119 = .ok (.goto (-28), 3) := by decide +kernel
theorem dX12_told_122 : decode cX12_told 122 = .ok (.iload_n 3, 1) := by decide +kernel
theorem dX12_told_123 : decode cX12_told 123 = .ok (.ifCond .le 8, 3) := by decide +kernel
theorem dX12_told_126 : decode cX12_told 126 = .ok (.aload_n 0, 1) := by decide +kernel
theorem dX12_told_127 : decode cX12_told 127 = .ok (.iload_n 1, 1) := by decide +kernel
theorem dX12_told_128 : decode cX12_told 128 = .ok (.invokevirtual 259, 3) := by decide +kernel
theorem dX12_told_131 : decode cX12_told 131 = .ok (.sipush (-5000), 3) := by decide +kernel
theorem dX12_told_134 : decode cX12_told 134 = .ok (.iload_n 2, 1) := by decide +kernel
theorem dX12_told_135 : decode cX12_told 135 = .ok (.isub, 1) := by decide +kernel
theorem dX12_told_136 : decode cX12_told 136 = .ok (.ireturn, 1) := by decide +kernel
def f_X12_told_u29 (Q : Int → ml_St → Prop) (K60 : ml_St → Int → Int → Int → Prop) : Nat → ml_St → Int → Int → Int → Int → Prop
| 0, _, _, _, _, _ => False
| N + 1, σ, x1, x2, x3, x4 =>
(x3 ≤ x4 →
K60 σ x1 x2 x3) ∧
(¬ (x3 ≤ x4) →
I32 (100 * x1) ∧
I32 ((100 * x1) + x4) ∧
(0 : Int) ≤ ((100 * x1) + x4) ∧ (((100 * x1) + x4) : Int) < 1600 ∧
∀ _ : ml_I8 (σ 218 ((100 * x1) + x4)),
(0 : Int) ≤ x4 ∧ (x4 : Int) < 100 ∧
∀ σ5, σ5 = ml_up σ 233 x4 (σ 218 ((100 * x1) + x4)) →
I32 (x4 + 1) ∧
∀ y6 : Int, y6 = x4 + 1 →
f_X12_told_u29 Q K60 N σ5 x1 x2 x3 y6)
def f_X12_told_u91 (Q : Int → ml_St → Prop) (K122 : ml_St → Int → Int → Int → Prop) : Nat → ml_St → Int → Int → Int → Int → Prop
| 0, _, _, _, _, _ => False
| N + 1, σ, x1, x2, x3, x4 =>
(x3 ≤ x4 →
K122 σ x1 x2 x3) ∧
(¬ (x3 ≤ x4) →
I32 (100 * x1) ∧
I32 ((100 * x1) + x4) ∧
(0 : Int) ≤ x4 ∧ (x4 : Int) < 100 ∧
∀ _ : ml_I8 (σ 233 x4),
(0 : Int) ≤ ((100 * x1) + x4) ∧ (((100 * x1) + x4) : Int) < 1600 ∧
∀ σ5, σ5 = ml_up σ 218 ((100 * x1) + x4) (σ 233 x4) →
I32 (x4 + 1) ∧
∀ y6 : Int, y6 = x4 + 1 →
f_X12_told_u91 Q K122 N σ5 x1 x2 x3 y6)
def f_X12_told_u131 (Q : Int → ml_St → Prop) (σ : ml_St) (x2 : Int) : Prop :=
I32 ((-5000) - x2) ∧
Q ((-5000) - x2) σ
def f_X12_told_u122 (Q : Int → ml_St → Prop) (σ : ml_St) (x1 : Int) (x2 : Int) (x3 : Int) : Prop :=
(x3 ≤ 0 →
f_X12_told_u131 Q σ x2) ∧
(¬ (x3 ≤ 0) →
f_X12_counts σ x1 (fun σ2 =>
f_X12_told_u131 Q σ2 x2))
def f_X12_told_u60 (Q : Int → ml_St → Prop) (σ : ml_St) (x1 : Int) (x2 : Int) (x3 : Int) : Prop :=
f_X12_takesText σ x1 x2 (fun σ1 =>
f_X12_counts σ1 x1 (fun σ2 =>
f_X12_isTooLong σ2 x1 (fun r3 σ3 => ∀ _ : ml_B r3,
(r3 ≠ 0 →
(0 : Int) ≤ x1 ∧ (x1 : Int) < 16 ∧
∀ σ5, σ5 = ml_up σ3 219 x1 x3 →
∃ N1, f_X12_told_u91 Q (f_X12_told_u122 Q) N1 σ5 x1 x2 x3 0) ∧
(r3 = 0 →
Q 0 σ3))))
def f_X12_told_u0 (Q : Int → ml_St → Prop) (σ : ml_St) (x1 : Int) (x2 : Int) : Prop :=
∀ σ1, σ1 = ml_up σ 215 1 0 →
f_X12_isText σ1 x1 x2 (fun r2 σ2 => ∀ _ : ml_B r2,
(r2 ≠ 0 →
(0 : Int) ≤ x1 ∧ (x1 : Int) < 16 ∧
∀ _ : I32 (σ2 219 x1),
∀ y5 : Int, y5 = σ2 219 x1 →
∃ N1, f_X12_told_u29 Q (f_X12_told_u60 Q) N1 σ2 x1 x2 y5 0) ∧
(r2 = 0 →
∀ _ : I32 (σ2 215 11),
Q (σ2 215 11) σ2))
def f_X12_told (σ : ml_St) (x1 : Int) (x2 : Int) (Q : Int → ml_St → Prop) : Prop := f_X12_told_u0 Q σ x1 x2
def rm_X12_told : Room := { frames := 3, cells := 0, slots := 0, locals := 68 }
set_option maxRecDepth 100000 in
set_option maxHeartbeats 4000000 in
theorem u_X12_told_29 {p : Program} {e : Env} {s : State} {m : MethodId} {args : Array Value} {below : List Frame} {meth : Method} {c : Code} {base : Nat} {D : va_G} {cA : Nat → ClassId} {n : Nat} {l : Launch} {Q : Int → ml_St → Prop} {K60 : ml_St → Int → Int → Int → Prop} (X : ml_X p s m c meth args D cA cX12_told 5 RX12 (some .int)) (hn : 256 ≤ n) (hK60 : ∀ (σ : ml_St) (x1 : Int) (x2 : Int) (x3 : Int) (h_x1 : I32 x1) (h_x2 : I32 x2) (h_x3 : I32 x3) (ls : Array Slot), lv_has ls 5 [(0, .ref (base + (215 : Int).toNat)), (1, .int (Int32.ofInt x1)), (2, .int (Int32.ofInt x2)), (3, .int (Int32.ofInt x3))] → K60 σ x1 x2 x3 → ml_V p l e rm_X12_told s m args below meth c (MQ below (ml_Qi I32 base D cA n Q) args s 0 0 (ml_A base)) base D cA 0 0 n n σ (F0 m 60 ls [])) : ∀ (N : Nat) (σ : ml_St) (x1 : Int) (x2 : Int) (x3 : Int) (x4 : Int) (h_x1 : I32 x1) (h_x2 : I32 x2) (h_x3 : I32 x3) (h_x4 : I32 x4) (ls : Array Slot), lv_has ls 5 [(0, .ref (base + (215 : Int).toNat)), (1, .int (Int32.ofInt x1)), (2, .int (Int32.ofInt x2)), (3, .int (Int32.ofInt x3)), (4, .int (Int32.ofInt x4))] → f_X12_told_u29 Q K60 N σ x1 x2 x3 x4 → ml_V p l e rm_X12_told s m args below meth c (MQ below (ml_Qi I32 base D cA n Q) args s 0 0 (ml_A base)) base D cA 0 0 n n σ (F0 m 29 ls []) := by
  intro N
  induction N with
  | zero => intro σ x1 x2 x3 x4 h_x1 h_x2 h_x3 h_x4 ls hl hw; exact False.elim hw
  | succ N ih =>
    intro σ x1 x2 x3 x4 h_x1 h_x2 h_x3 h_x4 ls hl hw
    unfold f_X12_told_u29 at hw
    refine ml_iload (pc := 29) X hl 4 rfl dX12_told_29 ?_
    refine ml_iload_n (pc := 31) X hl 3 rfl rfl dX12_told_31 ?_
    refine ml_icmp_ge (pc := 32) (tgt := 60) X h_x4 h_x3 dX12_told_32 (by decide) (fun c1 => ?_) (fun c1 => ?_)
    · have hw := hw.1 c1
      exact hK60 σ x1 x2 x3 h_x1 h_x2 h_x3 _ (lv_sub hl [0, 1, 2, 3] rfl) hw
    · have hw := hw.2 c1
      refine ml_aload_n (pc := 35) X hl 0 rfl rfl dX12_told_35 ?_
      refine gf_X12_68 (pc := 36) X (ml_c215 hn) dX12_told_36 ?_
      refine ml_iload (pc := 39) X hl 4 rfl dX12_told_39 ?_
      refine ml_aload_n (pc := 41) X hl 0 rfl rfl dX12_told_41 ?_
      refine gf_X12_21 (pc := 42) X (ml_c215 hn) dX12_told_42 ?_
      refine ml_bipush (pc := 45) X dX12_told_45 (by decide) ?_
      refine ml_iload_n (pc := 47) X hl 1 rfl rfl dX12_told_47 ?_
      obtain ⟨v2, hw⟩ := hw
      refine ml_imul (pc := 48) X dX12_told_48 ?_
      refine ml_iload (pc := 49) X hl 4 rfl dX12_told_49 ?_
      obtain ⟨v3, hw⟩ := hw
      refine ml_iadd (pc := 51) X dX12_told_51 ?_
      obtain ⟨a4, b4, hw⟩ := hw
      refine ml_bald (pc := 52) (N := 1600) X (ml_c218 hn) a4 b4 dX12_told_52 (fun r4 => ?_)
      have hw := hw r4
      obtain ⟨a5, b5, hw⟩ := hw
      refine ml_bast (pc := 53) (N := 100) X (ml_c233 hn) a5 b5 r4 dX12_told_53 (fun σ5 g5 => ?_)
      have hw := hw σ5 g5
      obtain ⟨v6, hw⟩ := hw
      obtain ⟨y6, e6⟩ : ∃ y : Int, y = x4 + 1 := ⟨_, rfl⟩
      have hw := hw y6 e6
      rw [← e6] at v6
      refine ml_iinc (pc := 54) X e6 hl 4 rfl (by decide) (lst' := [(4, .int (Int32.ofInt y6)), (0, .ref (base + (215 : Int).toNat)), (1, .int (Int32.ofInt x1)), (2, .int (Int32.ofInt x2)), (3, .int (Int32.ofInt x3))]) rfl dX12_told_54 (fun ls hl => ?_)
      refine ml_goto (pc := 57) (tgt := 29) X dX12_told_57 (by decide) ?_
      exact ih σ5 x1 x2 x3 y6 h_x1 h_x2 h_x3 v6 _ (lv_sub hl [1, 2, 3, 4, 0] rfl) hw
set_option maxRecDepth 100000 in
set_option maxHeartbeats 4000000 in
theorem u_X12_told_91 {p : Program} {e : Env} {s : State} {m : MethodId} {args : Array Value} {below : List Frame} {meth : Method} {c : Code} {base : Nat} {D : va_G} {cA : Nat → ClassId} {n : Nat} {l : Launch} {Q : Int → ml_St → Prop} {K122 : ml_St → Int → Int → Int → Prop} (X : ml_X p s m c meth args D cA cX12_told 5 RX12 (some .int)) (hn : 256 ≤ n) (hK122 : ∀ (σ : ml_St) (x1 : Int) (x2 : Int) (x3 : Int) (h_x1 : I32 x1) (h_x2 : I32 x2) (h_x3 : I32 x3) (ls : Array Slot), lv_has ls 5 [(0, .ref (base + (215 : Int).toNat)), (1, .int (Int32.ofInt x1)), (2, .int (Int32.ofInt x2)), (3, .int (Int32.ofInt x3))] → K122 σ x1 x2 x3 → ml_V p l e rm_X12_told s m args below meth c (MQ below (ml_Qi I32 base D cA n Q) args s 0 0 (ml_A base)) base D cA 0 0 n n σ (F0 m 122 ls [])) : ∀ (N : Nat) (σ : ml_St) (x1 : Int) (x2 : Int) (x3 : Int) (x4 : Int) (h_x1 : I32 x1) (h_x2 : I32 x2) (h_x3 : I32 x3) (h_x4 : I32 x4) (ls : Array Slot), lv_has ls 5 [(0, .ref (base + (215 : Int).toNat)), (1, .int (Int32.ofInt x1)), (2, .int (Int32.ofInt x2)), (3, .int (Int32.ofInt x3)), (4, .int (Int32.ofInt x4))] → f_X12_told_u91 Q K122 N σ x1 x2 x3 x4 → ml_V p l e rm_X12_told s m args below meth c (MQ below (ml_Qi I32 base D cA n Q) args s 0 0 (ml_A base)) base D cA 0 0 n n σ (F0 m 91 ls []) := by
  intro N
  induction N with
  | zero => intro σ x1 x2 x3 x4 h_x1 h_x2 h_x3 h_x4 ls hl hw; exact False.elim hw
  | succ N ih =>
    intro σ x1 x2 x3 x4 h_x1 h_x2 h_x3 h_x4 ls hl hw
    unfold f_X12_told_u91 at hw
    refine ml_iload (pc := 91) X hl 4 rfl dX12_told_91 ?_
    refine ml_iload_n (pc := 93) X hl 3 rfl rfl dX12_told_93 ?_
    refine ml_icmp_ge (pc := 94) (tgt := 122) X h_x4 h_x3 dX12_told_94 (by decide) (fun c1 => ?_) (fun c1 => ?_)
    · have hw := hw.1 c1
      exact hK122 σ x1 x2 x3 h_x1 h_x2 h_x3 _ (lv_sub hl [0, 1, 2, 3] rfl) hw
    · have hw := hw.2 c1
      refine ml_aload_n (pc := 97) X hl 0 rfl rfl dX12_told_97 ?_
      refine gf_X12_21 (pc := 98) X (ml_c215 hn) dX12_told_98 ?_
      refine ml_bipush (pc := 101) X dX12_told_101 (by decide) ?_
      refine ml_iload_n (pc := 103) X hl 1 rfl rfl dX12_told_103 ?_
      obtain ⟨v2, hw⟩ := hw
      refine ml_imul (pc := 104) X dX12_told_104 ?_
      refine ml_iload (pc := 105) X hl 4 rfl dX12_told_105 ?_
      obtain ⟨v3, hw⟩ := hw
      refine ml_iadd (pc := 107) X dX12_told_107 ?_
      refine ml_aload_n (pc := 108) X hl 0 rfl rfl dX12_told_108 ?_
      refine gf_X12_68 (pc := 109) X (ml_c215 hn) dX12_told_109 ?_
      refine ml_iload (pc := 112) X hl 4 rfl dX12_told_112 ?_
      obtain ⟨a4, b4, hw⟩ := hw
      refine ml_bald (pc := 114) (N := 100) X (ml_c233 hn) a4 b4 dX12_told_114 (fun r4 => ?_)
      have hw := hw r4
      obtain ⟨a5, b5, hw⟩ := hw
      refine ml_bast (pc := 115) (N := 1600) X (ml_c218 hn) a5 b5 r4 dX12_told_115 (fun σ5 g5 => ?_)
      have hw := hw σ5 g5
      obtain ⟨v6, hw⟩ := hw
      obtain ⟨y6, e6⟩ : ∃ y : Int, y = x4 + 1 := ⟨_, rfl⟩
      have hw := hw y6 e6
      rw [← e6] at v6
      refine ml_iinc (pc := 116) X e6 hl 4 rfl (by decide) (lst' := [(4, .int (Int32.ofInt y6)), (0, .ref (base + (215 : Int).toNat)), (1, .int (Int32.ofInt x1)), (2, .int (Int32.ofInt x2)), (3, .int (Int32.ofInt x3))]) rfl dX12_told_116 (fun ls hl => ?_)
      refine ml_goto (pc := 119) (tgt := 91) X dX12_told_119 (by decide) ?_
      exact ih σ5 x1 x2 x3 y6 h_x1 h_x2 h_x3 v6 _ (lv_sub hl [1, 2, 3, 4, 0] rfl) hw
set_option maxRecDepth 100000 in
set_option maxHeartbeats 4000000 in
theorem u_X12_told_131 {p : Program} {e : Env} {s : State} {m : MethodId} {args : Array Value} {below : List Frame} {meth : Method} {c : Code} {base : Nat} {D : va_G} {cA : Nat → ClassId} {n : Nat} {l : Launch} {Q : Int → ml_St → Prop} (X : ml_X p s m c meth args D cA cX12_told 5 RX12 (some .int)) (hn : 256 ≤ n) (σ : ml_St) (x2 : Int) (h_x2 : I32 x2) (ls : Array Slot) (hl : lv_has ls 5 [(2, .int (Int32.ofInt x2))]) (hw : f_X12_told_u131 Q σ x2) : ml_V p l e rm_X12_told s m args below meth c (MQ below (ml_Qi I32 base D cA n Q) args s 0 0 (ml_A base)) base D cA 0 0 n n σ (F0 m 131 ls []) := by
  unfold f_X12_told_u131 at hw
  refine ml_sipush (pc := 131) X dX12_told_131 (by decide) ?_
  refine ml_iload_n (pc := 134) X hl 0 rfl rfl dX12_told_134 ?_
  obtain ⟨v1, hw⟩ := hw
  refine ml_isub (pc := 135) X dX12_told_135 ?_
  exact ml_iret (pc := 136) X v1 hw dX12_told_136
set_option maxRecDepth 100000 in
set_option maxHeartbeats 4000000 in
theorem u_X12_told_122 {p : Program} {e : Env} {s : State} {m : MethodId} {args : Array Value} {below : List Frame} {meth : Method} {c : Code} {base : Nat} {D : va_G} {cA : Nat → ClassId} {n : Nat} {l : Launch} {Q : Int → ml_St → Prop} (X : ml_X p s m c meth args D cA cX12_told 5 RX12 (some .int)) (hn : 256 ≤ n) (σ : ml_St) (x1 : Int) (x2 : Int) (x3 : Int) (h_x1 : I32 x1) (h_x2 : I32 x2) (h_x3 : I32 x3) (ls : Array Slot) (hl : lv_has ls 5 [(0, .ref (base + (215 : Int).toNat)), (1, .int (Int32.ofInt x1)), (2, .int (Int32.ofInt x2)), (3, .int (Int32.ofInt x3))]) (hw : f_X12_told_u122 Q σ x1 x2 x3) : ml_V p l e rm_X12_told s m args below meth c (MQ below (ml_Qi I32 base D cA n Q) args s 0 0 (ml_A base)) base D cA 0 0 n n σ (F0 m 122 ls []) := by
  unfold f_X12_told_u122 at hw
  refine ml_iload_n (pc := 122) X hl 3 rfl rfl dX12_told_122 ?_
  refine ml_if_le (pc := 123) (tgt := 131) X h_x3 dX12_told_123 (by decide) (fun c1 => ?_) (fun c1 => ?_)
  · have hw := hw.1 c1
    exact u_X12_told_131 X hn σ x2 h_x2 _ (lv_sub hl [2] rfl) hw
  · have hw := hw.2 c1
    refine ml_aload_n (pc := 126) X hl 0 rfl rfl dX12_told_126 ?_
    refine ml_iload_n (pc := 127) X hl 1 rfl rfl dX12_told_127 ?_
    refine ml_callvV (pc := 128) (rest := []) X [.int (Int32.ofInt x1)] (by decide) rfl (ml_c215 hn) (c_X12_counts l base D cA n hn σ x1 h_x1 _ hw) cv_X12_259 ⟨rfl, rfl⟩ ⟨by decide, by decide⟩ rfl rfl hl (Nat.le_of_ble_eq_true rfl) ⟨Nat.zero_le _, Nat.zero_le _⟩ dX12_told_128 (fun σ2 hw => ?_)
    exact u_X12_told_131 X hn σ2 x2 h_x2 _ (lv_sub hl [2] rfl) hw
set_option maxRecDepth 100000 in
set_option maxHeartbeats 4000000 in
theorem u_X12_told_60 {p : Program} {e : Env} {s : State} {m : MethodId} {args : Array Value} {below : List Frame} {meth : Method} {c : Code} {base : Nat} {D : va_G} {cA : Nat → ClassId} {n : Nat} {l : Launch} {Q : Int → ml_St → Prop} (X : ml_X p s m c meth args D cA cX12_told 5 RX12 (some .int)) (hn : 256 ≤ n) (σ : ml_St) (x1 : Int) (x2 : Int) (x3 : Int) (h_x1 : I32 x1) (h_x2 : I32 x2) (h_x3 : I32 x3) (ls : Array Slot) (hl : lv_has ls 5 [(0, .ref (base + (215 : Int).toNat)), (1, .int (Int32.ofInt x1)), (2, .int (Int32.ofInt x2)), (3, .int (Int32.ofInt x3))]) (hw : f_X12_told_u60 Q σ x1 x2 x3) : ml_V p l e rm_X12_told s m args below meth c (MQ below (ml_Qi I32 base D cA n Q) args s 0 0 (ml_A base)) base D cA 0 0 n n σ (F0 m 60 ls []) := by
  unfold f_X12_told_u60 at hw
  refine ml_aload_n (pc := 60) X hl 0 rfl rfl dX12_told_60 ?_
  refine ml_iload_n (pc := 61) X hl 1 rfl rfl dX12_told_61 ?_
  refine ml_iload_n (pc := 62) X hl 2 rfl rfl dX12_told_62 ?_
  refine ml_callvV (pc := 63) (rest := []) X [.int (Int32.ofInt x1), .int (Int32.ofInt x2)] (by decide) rfl (ml_c215 hn) (c_X12_takesText l base D cA n hn σ x1 x2 h_x1 h_x2 _ hw) cv_X12_274 ⟨rfl, rfl⟩ ⟨by decide, by decide⟩ rfl rfl hl (Nat.le_of_ble_eq_true rfl) ⟨Nat.zero_le _, Nat.zero_le _⟩ dX12_told_63 (fun σ1 hw => ?_)
  refine ml_aload_n (pc := 66) X hl 0 rfl rfl dX12_told_66 ?_
  refine ml_iload_n (pc := 67) X hl 1 rfl rfl dX12_told_67 ?_
  refine ml_callvV (pc := 68) (rest := []) X [.int (Int32.ofInt x1)] (by decide) rfl (ml_c215 hn) (c_X12_counts l base D cA n hn σ1 x1 h_x1 _ hw) cv_X12_259 ⟨rfl, rfl⟩ ⟨by decide, by decide⟩ rfl rfl hl (Nat.le_of_ble_eq_true rfl) ⟨Nat.zero_le _, Nat.zero_le _⟩ dX12_told_68 (fun σ2 hw => ?_)
  refine ml_aload_n (pc := 71) X hl 0 rfl rfl dX12_told_71 ?_
  refine ml_iload_n (pc := 72) X hl 1 rfl rfl dX12_told_72 ?_
  refine ml_callzV (pc := 73) (rest := []) X [.int (Int32.ofInt x1)] (by decide) rfl (ml_c215 hn) (c_X12_isTooLong l base D cA n hn σ2 x1 h_x1 _ hw) cv_X12_262 ⟨rfl, rfl⟩ ⟨by decide, by decide⟩ rfl rfl hl (Nat.le_of_ble_eq_true rfl) ⟨Nat.zero_le _, Nat.zero_le _⟩ dX12_told_73 (fun r3 σ3 t3 hw => ?_)
  have hw := hw t3
  refine ml_if_ne (pc := 76) (tgt := 81) X t3.i dX12_told_76 (by decide) (fun c4 => ?_) (fun c4 => ?_)
  · have hw := hw.1 c4
    refine ml_aload_n (pc := 81) X hl 0 rfl rfl dX12_told_81 ?_
    refine gf_X12_24 (pc := 82) X (ml_c215 hn) dX12_told_82 ?_
    refine ml_iload_n (pc := 85) X hl 1 rfl rfl dX12_told_85 ?_
    refine ml_iload_n (pc := 86) X hl 3 rfl rfl dX12_told_86 ?_
    obtain ⟨a5, b5, hw⟩ := hw
    refine ml_iast (pc := 87) (N := 16) X (ml_c219 hn) a5 b5 h_x3 dX12_told_87 (fun σ5 g5 => ?_)
    have hw := hw σ5 g5
    refine ml_iconst (pc := 88) X dX12_told_88 ?_
    refine ml_istore (pc := 89) X hl (by decide) (lst' := [(4, .int (Int32.ofInt 0)), (0, .ref (base + (215 : Int).toNat)), (1, .int (Int32.ofInt x1)), (2, .int (Int32.ofInt x2)), (3, .int (Int32.ofInt x3))]) rfl dX12_told_89 (fun ls hl => ?_)
    obtain ⟨N0, hw⟩ := hw
    exact u_X12_told_91 X hn (fun σ x1 x2 x3 h_x1 h_x2 h_x3 ls hl hw => u_X12_told_122 X hn σ x1 x2 x3 h_x1 h_x2 h_x3 ls hl hw) N0 σ5 x1 x2 x3 0 h_x1 h_x2 h_x3 ⟨by decide, by decide⟩ _ (lv_sub hl [1, 2, 3, 4, 0] rfl) hw
  · have hw := hw.2 c4
    refine ml_iconst (pc := 79) X dX12_told_79 ?_
    exact ml_iret (pc := 80) X ⟨by decide, by decide⟩ hw dX12_told_80
set_option maxRecDepth 100000 in
set_option maxHeartbeats 4000000 in
theorem u_X12_told_0 {p : Program} {e : Env} {s : State} {m : MethodId} {args : Array Value} {below : List Frame} {meth : Method} {c : Code} {base : Nat} {D : va_G} {cA : Nat → ClassId} {n : Nat} {l : Launch} {Q : Int → ml_St → Prop} (X : ml_X p s m c meth args D cA cX12_told 5 RX12 (some .int)) (hn : 256 ≤ n) (σ : ml_St) (x1 : Int) (x2 : Int) (h_x1 : I32 x1) (h_x2 : I32 x2) (ls : Array Slot) (hl : lv_has ls 5 [(0, .ref (base + (215 : Int).toNat)), (1, .int (Int32.ofInt x1)), (2, .int (Int32.ofInt x2))]) (hw : f_X12_told_u0 Q σ x1 x2) : ml_V p l e rm_X12_told s m args below meth c (MQ below (ml_Qi I32 base D cA n Q) args s 0 0 (ml_A base)) base D cA 0 0 n n σ (F0 m 0 ls []) := by
  unfold f_X12_told_u0 at hw
  refine ml_aload_n (pc := 0) X hl 0 rfl rfl dX12_told_0 ?_
  refine ml_iconst (pc := 1) X dX12_told_1 ?_
  refine pf_X12_155 (pc := 2) X (ml_c215 hn) ⟨by decide, by decide⟩ dX12_told_2 (fun σ1 g1 => ?_)
  have hw := hw σ1 g1
  refine ml_aload_n (pc := 5) X hl 0 rfl rfl dX12_told_5 ?_
  refine ml_iload_n (pc := 6) X hl 1 rfl rfl dX12_told_6 ?_
  refine ml_iload_n (pc := 7) X hl 2 rfl rfl dX12_told_7 ?_
  refine ml_callzV (pc := 8) (rest := []) X [.int (Int32.ofInt x1), .int (Int32.ofInt x2)] (by decide) rfl (ml_c215 hn) (c_X12_isText l base D cA n hn σ1 x1 x2 h_x1 h_x2 _ hw) cv_X12_270 ⟨rfl, rfl⟩ ⟨by decide, by decide⟩ rfl rfl hl (Nat.le_of_ble_eq_true rfl) ⟨Nat.zero_le _, Nat.zero_le _⟩ dX12_told_8 (fun r2 σ2 t2 hw => ?_)
  have hw := hw t2
  refine ml_if_ne (pc := 11) (tgt := 19) X t2.i dX12_told_11 (by decide) (fun c3 => ?_) (fun c3 => ?_)
  · have hw := hw.1 c3
    refine ml_aload_n (pc := 19) X hl 0 rfl rfl dX12_told_19 ?_
    refine gf_X12_24 (pc := 20) X (ml_c215 hn) dX12_told_20 ?_
    refine ml_iload_n (pc := 23) X hl 1 rfl rfl dX12_told_23 ?_
    obtain ⟨a4, b4, hw⟩ := hw
    refine ml_iald (pc := 24) (N := 16) X (ml_c219 hn) a4 b4 dX12_told_24 (fun r4 => ?_)
    have hw := hw r4
    refine ml_topI (pc := 25) (fun y5 e5 => ?_)
    have hw := hw y5 e5
    have q5 : I32 y5 := by rw [e5]; exact r4
    refine ml_istore_n (pc := 25) X rfl hl (by decide) (lst' := [(3, .int (Int32.ofInt y5)), (0, .ref (base + (215 : Int).toNat)), (1, .int (Int32.ofInt x1)), (2, .int (Int32.ofInt x2))]) rfl dX12_told_25 (fun ls hl => ?_)
    refine ml_iconst (pc := 26) X dX12_told_26 ?_
    refine ml_istore (pc := 27) X hl (by decide) (lst' := [(4, .int (Int32.ofInt 0)), (3, .int (Int32.ofInt y5)), (0, .ref (base + (215 : Int).toNat)), (1, .int (Int32.ofInt x1)), (2, .int (Int32.ofInt x2))]) rfl dX12_told_27 (fun ls hl => ?_)
    obtain ⟨N0, hw⟩ := hw
    exact u_X12_told_29 X hn (fun σ x1 x2 x3 h_x1 h_x2 h_x3 ls hl hw => u_X12_told_60 X hn σ x1 x2 x3 h_x1 h_x2 h_x3 ls hl hw) N0 σ2 x1 x2 y5 0 h_x1 h_x2 q5 ⟨by decide, by decide⟩ _ (lv_sub hl [2, 3, 4, 1, 0] rfl) hw
  · have hw := hw.2 c3
    refine ml_aload_n (pc := 14) X hl 0 rfl rfl dX12_told_14 ?_
    refine gf_X12_168 (pc := 15) X (ml_c215 hn) dX12_told_15 (fun r6 => ?_)
    have hw := hw r6
    exact ml_iret (pc := 18) X r6 hw dX12_told_18
set_option maxRecDepth 100000 in
theorem c_X12_told (l : Launch) (base : Nat) (D : va_G) (cA : Nat → ClassId) (n : Nat) (hn : 256 ≤ n) (σ : ml_St) (x1 : Int) (x2 : Int) (h_x1 : I32 x1) (h_x2 : I32 x2) (Q : Int → ml_St → Prop) (hw : f_X12_told σ x1 x2 Q) : Met l yX12_told (Cond.code yX12_told cX12_told 5 (some .int) :: ml_T) rm_X12_told (va_Pc [.ref (base + (215 : Int).toNat), .int (Int32.ofInt x1), .int (Int32.ofInt x2)] (ml_U base D cA n σ)) (ml_Qi I32 base D cA n Q) 0 0 (ml_A base) := by
  refine Met.ofW (cc := cX12_told) (maxL := 5) (ret := (some .int)) (by decide) rfl ?_
  intro p e s m args below meth c s₁ B hml hv
  obtain ⟨rfl, hP, hK, hok, hro⟩ := hv
  have X : ml_X p s m c meth _ D cA cX12_told 5 RX12 (some .int) := ⟨B.exec, B.bytes, hml, findClass_of_methodNamed B.named, fun w hw => atoms_spec (ws := Cond.code yX12_told cX12_told 5 (some .int) :: ml_T) B.pre w (List.mem_cons_of_mem _ hw), hK, B.notSynchronized, B.returns⟩
  have hl := lv_entry [.ref (base + (215 : Int).toNat), .int (Int32.ofInt x1), .int (Int32.ofInt x2)] (n := 5) (Nat.le_of_ble_eq_true rfl)
  rw [lg_entry_eq]
  generalize (lg_sl [.ref (base + (215 : Int).toNat), .int (Int32.ofInt x1), .int (Int32.ofInt x2)] ++ List.replicate (5 - (lg_sl [.ref (base + (215 : Int).toNat), .int (Int32.ofInt x1), .int (Int32.ofInt x2)]).length) Slot.unset).toArray = ls at hl ⊢
  have hl : lv_has ls 5 [(0, .ref (base + (215 : Int).toNat)), (1, .int (Int32.ofInt x1)), (2, .int (Int32.ofInt x2))] := hl
  unfold f_X12_told at hw
  exact u_X12_told_0 X hn σ x1 x2 h_x1 h_x2 _ (lv_sub hl [0, 1, 2] rfl) hw s.heap [] hP va_S.rf hok hro
