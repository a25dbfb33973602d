theorem dX12_lies_0 : decode cX12_lies 0 = .ok (.lload_n 0, 1) := by decide +kernel
theorem dX12_lies_1 : decode cX12_lies 1 = .ok (.lload_n 2, 1) := by decide +kernel
theorem dX12_lies_2 : decode cX12_lies 2 = .ok (.lcmp, 1) := by decide +kernel
theorem dX12_lies_3 : decode cX12_lies 3 = .ok (.ifCond .lt 14, 3) := by decide +kernel
theorem dX12_lies_6 : decode cX12_lies 6 = .ok (.lload_n 0, 1) := by decide +kernel
theorem dX12_lies_7 : decode cX12_lies 7 = .ok (.lload 4, 2) := by decide +kernel
theorem dX12_lies_9 : decode cX12_lies 9 = .ok (.lcmp, 1) := by decide +kernel
theorem dX12_lies_10 : decode cX12_lies 10 = .ok (.ifCond .gt 7, 3) := by decide +kernel
theorem dX12_lies_13 : decode cX12_lies 13 = .ok (.iconst 1, 1) := by decide +kernel
theorem dX12_lies_14 : decode cX12_lies 14 = .ok (.goto 4, 3) := by decide +kernel
theorem dX12_lies_17 : decode cX12_lies 17 = .ok (.iconst 0, 1) := by decide +kernel
theorem dX12_lies_18 : decode cX12_lies 18 = .ok (.ireturn, 1) := by decide +kernel
def f_X12_lies_u18 (Q : Int → ml_St → Prop) (σ : ml_St) (s0 : Int) : Prop :=
Q s0 σ
def f_X12_lies_u17 (Q : Int → ml_St → Prop) (σ : ml_St) : Prop :=
f_X12_lies_u18 Q σ 0
def f_X12_lies_u0 (Q : Int → ml_St → Prop) (σ : ml_St) (x0 : Int) (x2 : Int) (x4 : Int) : Prop :=
(x0 < x2 →
f_X12_lies_u17 Q σ) ∧
(¬ (x0 < x2) →
(x4 < x0 →
f_X12_lies_u17 Q σ) ∧
(¬ (x4 < x0) →
f_X12_lies_u18 Q σ 1))
def f_X12_lies (σ : ml_St) (x0 : Int) (x2 : Int) (x4 : Int) (Q : Int → ml_St → Prop) : Prop := f_X12_lies_u0 Q σ x0 x2 x4
def rm_X12_lies : Room := { frames := 0, cells := 0, slots := 0, locals := 0 }
set_option maxRecDepth 100000 in
set_option maxHeartbeats 4000000 in
theorem u_X12_lies_18 {p : Program} {e : Env} {s : State} {m : MethodId} {args : Array Value} {below : List Frame} {meth : Method} {c : Code} {base : Nat} {D : va_G} {cA : Nat → ClassId} {n : Nat} {l : Launch} {Q : Int → ml_St → Prop} (X : ml_X p s m c meth args D cA cX12_lies 6 RX12 (some .boolean)) (hn : 256 ≤ n) (σ : ml_St) (s0 : Int) (h_s0 : ml_B s0) (ls : Array Slot) (hl : lv_has ls 6 []) (hw : f_X12_lies_u18 Q σ s0) : ml_V p l e rm_X12_lies s m args below meth c (MQ below (ml_Qi ml_B base D cA n Q) args s 0 0 (ml_A base)) base D cA 0 0 n n σ (F0 m 18 ls [.int (Int32.ofInt s0)]) := by
  unfold f_X12_lies_u18 at hw
  exact ml_zret (pc := 18) X h_s0 hw dX12_lies_18
set_option maxRecDepth 100000 in
set_option maxHeartbeats 4000000 in
theorem u_X12_lies_17 {p : Program} {e : Env} {s : State} {m : MethodId} {args : Array Value} {below : List Frame} {meth : Method} {c : Code} {base : Nat} {D : va_G} {cA : Nat → ClassId} {n : Nat} {l : Launch} {Q : Int → ml_St → Prop} (X : ml_X p s m c meth args D cA cX12_lies 6 RX12 (some .boolean)) (hn : 256 ≤ n) (σ : ml_St) (ls : Array Slot) (hl : lv_has ls 6 []) (hw : f_X12_lies_u17 Q σ) : ml_V p l e rm_X12_lies s m args below meth c (MQ below (ml_Qi ml_B base D cA n Q) args s 0 0 (ml_A base)) base D cA 0 0 n n σ (F0 m 17 ls []) := by
  unfold f_X12_lies_u17 at hw
  refine ml_iconst (pc := 17) X dX12_lies_17 ?_
  exact u_X12_lies_18 X hn σ 0 ⟨by decide, by decide⟩ _ (lv_sub hl [] rfl) hw
set_option maxRecDepth 100000 in
set_option maxHeartbeats 4000000 in
theorem u_X12_lies_0 {p : Program} {e : Env} {s : State} {m : MethodId} {args : Array Value} {below : List Frame} {meth : Method} {c : Code} {base : Nat} {D : va_G} {cA : Nat → ClassId} {n : Nat} {l : Launch} {Q : Int → ml_St → Prop} (X : ml_X p s m c meth args D cA cX12_lies 6 RX12 (some .boolean)) (hn : 256 ≤ n) (σ : ml_St) (x0 : Int) (x2 : Int) (x4 : Int) (h_x0 : I64 x0) (h_x2 : I64 x2) (h_x4 : I64 x4) (ls : Array Slot) (hl : lv_has ls 6 [(0, .long (Int64.ofInt x0)), (2, .long (Int64.ofInt x2)), (4, .long (Int64.ofInt x4))]) (hw : f_X12_lies_u0 Q σ x0 x2 x4) : ml_V p l e rm_X12_lies s m args below meth c (MQ below (ml_Qi ml_B base D cA n Q) args s 0 0 (ml_A base)) base D cA 0 0 n n σ (F0 m 0 ls []) := by
  unfold f_X12_lies_u0 at hw
  refine ml_lload_n (pc := 0) X hl 0 rfl rfl dX12_lies_0 ?_
  refine ml_lload_n (pc := 1) X hl 1 rfl rfl dX12_lies_1 ?_
  refine ml_lcmp_lt (pc := 2) (tgt := 17) X h_x0 h_x2 dX12_lies_2 dX12_lies_3 (by decide) (fun c1 => ?_) (fun c1 => ?_)
  · have hw := hw.1 c1
    exact u_X12_lies_17 X hn σ   _ (lv_sub hl [] rfl) hw
  · have hw := hw.2 c1
    refine ml_lload_n (pc := 6) X hl 0 rfl rfl dX12_lies_6 ?_
    refine ml_lload (pc := 7) X hl 2 rfl dX12_lies_7 ?_
    refine ml_lcmp_gt (pc := 9) (tgt := 17) X h_x0 h_x4 dX12_lies_9 dX12_lies_10 (by decide) (fun c2 => ?_) (fun c2 => ?_)
    · have hw := hw.1 c2
      exact u_X12_lies_17 X hn σ   _ (lv_sub hl [] rfl) hw
    · have hw := hw.2 c2
      refine ml_iconst (pc := 13) X dX12_lies_13 ?_
      refine ml_goto (pc := 14) (tgt := 18) X dX12_lies_14 (by decide) ?_
      exact u_X12_lies_18 X hn σ 1 ⟨by decide, by decide⟩ _ (lv_sub hl [] rfl) hw
set_option maxRecDepth 100000 in
theorem c_X12_lies (l : Launch) (base : Nat) (D : va_G) (cA : Nat → ClassId) (n : Nat) (hn : 256 ≤ n) (σ : ml_St) (x0 : Int) (x2 : Int) (x4 : Int) (h_x0 : I64 x0) (h_x2 : I64 x2) (h_x4 : I64 x4) (Q : Int → ml_St → Prop) (hw : f_X12_lies σ x0 x2 x4 Q) : Met l yX12_lies (Cond.code yX12_lies cX12_lies 6 (some .boolean) :: ml_T) rm_X12_lies (va_Pc [.long (Int64.ofInt x0), .long (Int64.ofInt x2), .long (Int64.ofInt x4)] (ml_U base D cA n σ)) (ml_Qi ml_B base D cA n Q) 0 0 (ml_A base) := by
  refine Met.ofW (cc := cX12_lies) (maxL := 6) (ret := (some .boolean)) (by decide) rfl ?_
  intro p e s m args below meth c s₁ B hml hv
  obtain ⟨rfl, hP, hK, hok, hro⟩ := hv
  have X : ml_X p s m c meth _ D cA cX12_lies 6 RX12 (some .boolean) := ⟨B.exec, B.bytes, hml, findClass_of_methodNamed B.named, fun w hw => atoms_spec (ws := Cond.code yX12_lies cX12_lies 6 (some .boolean) :: ml_T) B.pre w (List.mem_cons_of_mem _ hw), hK, B.notSynchronized, B.returns⟩
  have hl := lv_entry [.long (Int64.ofInt x0), .long (Int64.ofInt x2), .long (Int64.ofInt x4)] (n := 6) (Nat.le_of_ble_eq_true rfl)
  rw [lg_entry_eq]
  generalize (lg_sl [.long (Int64.ofInt x0), .long (Int64.ofInt x2), .long (Int64.ofInt x4)] ++ List.replicate (6 - (lg_sl [.long (Int64.ofInt x0), .long (Int64.ofInt x2), .long (Int64.ofInt x4)]).length) Slot.unset).toArray = ls at hl ⊢
  have hl : lv_has ls 6 [(0, .long (Int64.ofInt x0)), (2, .long (Int64.ofInt x2)), (4, .long (Int64.ofInt x4))] := hl
  unfold f_X12_lies at hw
  exact u_X12_lies_0 X hn σ x0 x2 x4 h_x0 h_x2 h_x4 _ (lv_sub hl [0, 1, 2] rfl) hw s.heap [] hP va_S.rf hok hro
theorem dX12_rails_0 : decode cX12_rails 0 = .ok (.iload_n 1, 1) := by decide +kernel
theorem dX12_rails_1 : decode cX12_rails 1 = .ok (.i2l, 1) := by decide +kernel
theorem dX12_rails_2 : decode cX12_rails 2 = .ok (.ldc2_w 147, 3) := by decide +kernel
theorem dX12_rails_5 : decode cX12_rails 5 = .ok (.ldc2_w 149, 3) := by decide +kernel
theorem dX12_rails_8 : decode cX12_rails 8 = .ok (.invokestatic 143, 3) := by decide +kernel
theorem dX12_rails_11 : decode cX12_rails 11 = .ok (.ifCond .eq 10, 3) := by decide +kernel
theorem dX12_rails_14 : decode cX12_rails 14 = .ok (.aload_n 0, 1) := by decide +kernel
theorem dX12_rails_15 : decode cX12_rails 15 = .ok (.getfield 140, 3) := by decide +kernel
theorem dX12_rails_18 : decode cX12_rails 18 = .ok (.ifCond .le 5, 3) := by decide +kernel
theorem dX12_rails_21 : decode cX12_rails 21 = .ok (.iconst 0, 1) := by decide +kernel
theorem dX12_rails_22 : decode cX12_rails 22 = .ok (.ireturn, 1) := by decide +kernel
theorem dX12_rails_23 : decode cX12_rails 23 = .ok (.aload_n 0, 1) := by decide +kernel
theorem dX12_rails_24 : decode cX12_rails 24 = .ok (.iload_n 1, 1) := by decide +kernel
theorem dX12_rails_25 : decode cX12_rails 25 = .ok (.putfield 13, 3) := by decide +kernel
theorem dX12_rails_28 : decode cX12_rails 28 = .ok (.aload_n 0, 1) := by decide +kernel
theorem dX12_rails_29 : decode cX12_rails 29 = .ok (.iconst 0, 1) := by decide +kernel
theorem dX12_rails_30 : decode cX12_rails 30 = .ok (.putfield 151, 3) := by decide +kernel
theorem dX12_rails_33 : decode cX12_rails 33 = .ok (.iconst 1, 1) := by decide +kernel
theorem dX12_rails_34 : decode cX12_rails 34 = .ok (.ireturn, 1) := by decide +kernel
def f_X12_rails_u21 (Q : Int → ml_St → Prop) (σ : ml_St) : Prop :=
Q 0 σ
def f_X12_rails_u0 (Q : Int → ml_St → Prop) (σ : ml_St) (x1 : Int) : Prop :=
f_X12_lies σ x1 2 5 (fun r1 σ1 => ∀ _ : ml_B r1,
(r1 = 0 →
f_X12_rails_u21 Q σ1) ∧
(r1 ≠ 0 →
∀ _ : I32 (σ1 215 3),
(((σ1 215 3) : Int) ≤ 0 →
∀ σ5, σ5 = ml_up σ1 215 2 x1 →
∀ σ6, σ6 = ml_up σ5 215 4 0 →
Q 1 σ6) ∧
(¬ (((σ1 215 3) : Int) ≤ 0) →
f_X12_rails_u21 Q σ1)))
def f_X12_rails (σ : ml_St) (x1 : Int) (Q : Int → ml_St → Prop) : Prop := f_X12_rails_u0 Q σ x1
def rm_X12_rails : Room := { frames := 1, cells := 0, slots := 0, locals := 25 }
set_option maxRecDepth 100000 in
set_option maxHeartbeats 4000000 in
theorem u_X12_rails_21 {p : Program} {e : Env} {s : State} {m : MethodId} {args : Array Value} {below : List Frame} {meth : Method} {c : Code} {base : Nat} {D : va_G} {cA : Nat → ClassId} {n : Nat} {l : Launch} {Q : Int → ml_St → Prop} (X : ml_X p s m c meth args D cA cX12_rails 2 RX12 (some .boolean)) (hn : 256 ≤ n) (σ : ml_St) (ls : Array Slot) (hl : lv_has ls 2 []) (hw : f_X12_rails_u21 Q σ) : ml_V p l e rm_X12_rails s m args below meth c (MQ below (ml_Qi ml_B base D cA n Q) args s 0 0 (ml_A base)) base D cA 0 0 n n σ (F0 m 21 ls []) := by
  unfold f_X12_rails_u21 at hw
  refine ml_iconst (pc := 21) X dX12_rails_21 ?_
  exact ml_zret (pc := 22) X ⟨by decide, by decide⟩ hw dX12_rails_22
set_option maxRecDepth 100000 in
set_option maxHeartbeats 4000000 in
theorem u_X12_rails_0 {p : Program} {e : Env} {s : State} {m : MethodId} {args : Array Value} {below : List Frame} {meth : Method} {c : Code} {base : Nat} {D : va_G} {cA : Nat → ClassId} {n : Nat} {l : Launch} {Q : Int → ml_St → Prop} (X : ml_X p s m c meth args D cA cX12_rails 2 RX12 (some .boolean)) (hn : 256 ≤ n) (σ : ml_St) (x1 : Int) (h_x1 : I32 x1) (ls : Array Slot) (hl : lv_has ls 2 [(0, .ref (base + (215 : Int).toNat)), (1, .int (Int32.ofInt x1))]) (hw : f_X12_rails_u0 Q σ x1) : ml_V p l e rm_X12_rails s m args below meth c (MQ below (ml_Qi ml_B base D cA n Q) args s 0 0 (ml_A base)) base D cA 0 0 n n σ (F0 m 0 ls []) := by
  unfold f_X12_rails_u0 at hw
  refine ml_iload_n (pc := 0) X hl 1 rfl rfl dX12_rails_0 ?_
  refine ml_i2l (pc := 1) X h_x1 dX12_rails_1 ?_
  refine ml_ldc2 (pc := 2) (v := 2) X dX12_rails_2 tc_5_143 ?_
  refine ml_ldc2 (pc := 5) (v := 5) X dX12_rails_5 tc_5_144 ?_
  refine ml_callzS (pc := 8) (rest := []) X [.long (Int64.ofInt x1), .long (Int64.ofInt 2), .long (Int64.ofInt 5)] (c_X12_lies l base D cA n hn σ x1 2 5 (h_x1).l ⟨by decide, by decide⟩ ⟨by decide, by decide⟩ _ hw) cv_X12_143 ⟨rfl, rfl⟩ ⟨by decide, by decide⟩ rfl rfl hl (Nat.le_of_ble_eq_true rfl) ⟨Nat.zero_le _, Nat.zero_le _⟩ dX12_rails_8 (fun r1 σ1 t1 hw => ?_)
  have hw := hw t1
  refine ml_if_eq (pc := 11) (tgt := 21) X t1.i dX12_rails_11 (by decide) (fun c2 => ?_) (fun c2 => ?_)
  · have hw := hw.1 c2
    exact u_X12_rails_21 X hn σ1   _ (lv_sub hl [] rfl) hw
  · have hw := hw.2 c2
    refine ml_aload_n (pc := 14) X hl 0 rfl rfl dX12_rails_14 ?_
    refine gf_X12_140 (pc := 15) X (ml_c215 hn) dX12_rails_15 (fun r3 => ?_)
    have hw := hw r3
    refine ml_if_le (pc := 18) (tgt := 23) X r3 dX12_rails_18 (by decide) (fun c4 => ?_) (fun c4 => ?_)
    · have hw := hw.1 c4
      refine ml_aload_n (pc := 23) X hl 0 rfl rfl dX12_rails_23 ?_
      refine ml_iload_n (pc := 24) X hl 1 rfl rfl dX12_rails_24 ?_
      refine pf_X12_13 (pc := 25) X (ml_c215 hn) h_x1 dX12_rails_25 (fun σ5 g5 => ?_)
      have hw := hw σ5 g5
      refine ml_aload_n (pc := 28) X hl 0 rfl rfl dX12_rails_28 ?_
      refine ml_iconst (pc := 29) X dX12_rails_29 ?_
      refine pf_X12_151 (pc := 30) X (ml_c215 hn) ⟨by decide, by decide⟩ dX12_rails_30 (fun σ6 g6 => ?_)
      have hw := hw σ6 g6
      refine ml_iconst (pc := 33) X dX12_rails_33 ?_
      exact ml_zret (pc := 34) X ⟨by decide, by decide⟩ hw dX12_rails_34
    · have hw := hw.2 c4
      exact u_X12_rails_21 X hn σ1   _ (lv_sub hl [] rfl) hw
set_option maxRecDepth 100000 in
theorem c_X12_rails (l : Launch) (base : Nat) (D : va_G) (cA : Nat → ClassId) (n : Nat) (hn : 256 ≤ n) (σ : ml_St) (x1 : Int) (h_x1 : I32 x1) (Q : Int → ml_St → Prop) (hw : f_X12_rails σ x1 Q) : Met l yX12_rails (Cond.code yX12_rails cX12_rails 2 (some .boolean) :: ml_T) rm_X12_rails (va_Pc [.ref (base + (215 : Int).toNat), .int (Int32.ofInt x1)] (ml_U base D cA n σ)) (ml_Qi ml_B base D cA n Q) 0 0 (ml_A base) := by
  refine Met.ofW (cc := cX12_rails) (maxL := 2) (ret := (some .boolean)) (by decide) rfl ?_
  intro p e s m args below meth c s₁ B hml hv
  obtain ⟨rfl, hP, hK, hok, hro⟩ := hv
  have X : ml_X p s m c meth _ D cA cX12_rails 2 RX12 (some .boolean) := ⟨B.exec, B.bytes, hml, findClass_of_methodNamed B.named, fun w hw => atoms_spec (ws := Cond.code yX12_rails cX12_rails 2 (some .boolean) :: ml_T) B.pre w (List.mem_cons_of_mem _ hw), hK, B.notSynchronized, B.returns⟩
  have hl := lv_entry [.ref (base + (215 : Int).toNat), .int (Int32.ofInt x1)] (n := 2) (Nat.le_of_ble_eq_true rfl)
  rw [lg_entry_eq]
  generalize (lg_sl [.ref (base + (215 : Int).toNat), .int (Int32.ofInt x1)] ++ List.replicate (2 - (lg_sl [.ref (base + (215 : Int).toNat), .int (Int32.ofInt x1)]).length) Slot.unset).toArray = ls at hl ⊢
  have hl : lv_has ls 2 [(0, .ref (base + (215 : Int).toNat)), (1, .int (Int32.ofInt x1))] := hl
  unfold f_X12_rails at hw
  exact u_X12_rails_0 X hn σ x1 h_x1 _ (lv_sub hl [0, 1] rfl) hw s.heap [] hP va_S.rf hok hro
theorem dX12_push_0 : decode cX12_push 0 = .ok (.bipush 24, 2) := by decide +kernel
theorem dX12_push_2 : decode cX12_push 2 = .ok (.istore_n 2, 1) := by decide +kernel
theorem dX12_push_3 : decode cX12_push 3 = .ok (.iload_n 2, 1) := by decide +kernel
theorem dX12_push_4 : decode cX12_push 4 = .ok (.ifCond .lt 32, 3) := by decide +kernel
theorem dX12_push_7 : decode cX12_push 7 = .ok (.aload_n 0, 1) := by decide +kernel
theorem dX12_push_8 : decode cX12_push 8 = .ok (.getfield 7, 3) := by decide +kernel
theorem dX12_push_11 : decode cX12_push 11 = .ok (.aload_n 0, 1) := by decide +kernel
theorem dX12_push_12 : decode cX12_push 12 = .ok (.getfield 155, 3) := by decide +kernel
theorem dX12_push_15 : decode cX12_push 15 = .ok (.iload_n 1, 1) := by decide +kernel
theorem dX12_push_16 : decode cX12_push 16 = .ok (.iload_n 2, 1) := by decide +kernel
theorem dX12_push_17 : decode cX12_push 17 = .ok (.ishr, 1) := by decide +kernel
theorem dX12_push_18 : decode cX12_push 18 = .ok (.i2b, 1) := by decide +kernel
theorem dX12_push_19 : decode cX12_push 19 = .ok (.bastore, 1) := by decide +kernel
theorem dX12_push_20 : decode cX12_push 20 = .ok (.aload_n 0, 1) := by decide +kernel
theorem dX12_push_21 : decode cX12_push 21 = .ok (.dup, 1) := by decide +kernel
theorem dX12_push_22 : decode cX12_push 22 = .ok (.getfield 155, 3) := by decide +kernel
theorem dX12_push_25 : decode cX12_push 25 = .ok (.iconst 1, 1) := by decide +kernel
theorem dX12_push_26 : decode cX12_push 26 = .ok (.iadd, 1) := by decide +kernel
theorem dX12_push_27 : decode cX12_push 27 = .ok (.putfield 155, 3) := by decide +kernel
theorem dX12_push_30 : decode cX12_push 30 = .ok (.iinc 2 (-8), 3) := by decide +kernel
theorem dX12_push_33 : decode cX12_push 33 = .ok (.goto (-30), 3) := by decide +kernel
theorem dX12_push_36 : decode cX12_push 36 = .ok (.return_, 1) := by decide +kernel
def f_X12_push_u3 (Q : ml_St → Prop) (K36 : ml_St → Prop) : Nat → ml_St → Int → Int → Prop
| 0, _, _, _ => False
| N + 1, σ, x1, x2 =>
(x2 < 0 →
K36 σ) ∧
(¬ (x2 < 0) →
∀ _ : I32 (σ 215 1),
(0 : Int) ≤ (σ 215 1) ∧ ((σ 215 1) : Int) < 200 ∧
∀ σ3, σ3 = ml_up σ 216 (σ 215 1) (b_i2b (b_shr x1 x2)) →
∀ _ : I32 (σ3 215 1),
I32 ((σ3 215 1) + 1) ∧
∀ σ6, σ6 = ml_up σ3 215 1 ((σ3 215 1) + 1) →
I32 (x2 + (-8)) ∧
∀ y7 : Int, y7 = x2 + (-8) →
f_X12_push_u3 Q K36 N σ6 x1 y7)
def f_X12_push_u36 (Q : ml_St → Prop) (σ : ml_St) : Prop :=
Q σ
def f_X12_push_u0 (Q : ml_St → Prop) (σ : ml_St) (x1 : Int) : Prop :=
∃ N1, f_X12_push_u3 Q (f_X12_push_u36 Q) N1 σ x1 24
def f_X12_push (σ : ml_St) (x1 : Int) (Q : ml_St → Prop) : Prop := f_X12_push_u0 Q σ x1
def rm_X12_push : Room := { frames := 0, cells := 0, slots := 0, locals := 0 }
set_option maxRecDepth 100000 in
set_option maxHeartbeats 4000000 in
theorem u_X12_push_3 {p : Program} {e : Env} {s : State} {m : MethodId} {args : Array Value} {below : List Frame} {meth : Method} {c : Code} {base : Nat} {D : va_G} {cA : Nat → ClassId} {n : Nat} {l : Launch} {Q : ml_St → Prop} {K36 : ml_St → Prop} (X : ml_X p s m c meth args D cA cX12_push 3 RX12 none) (hn : 256 ≤ n) (hK36 : ∀ (σ : ml_St) (ls : Array Slot), lv_has ls 3 [] → K36 σ → ml_V p l e rm_X12_push s m args below meth c (MQ below (ml_Qv base D cA n Q) args s 0 0 (ml_A base)) base D cA 0 0 n n σ (F0 m 36 ls [])) : ∀ (N : Nat) (σ : ml_St) (x1 : Int) (x2 : Int) (h_x1 : I32 x1) (h_x2 : I32 x2) (ls : Array Slot), lv_has ls 3 [(0, .ref (base + (215 : Int).toNat)), (1, .int (Int32.ofInt x1)), (2, .int (Int32.ofInt x2))] → f_X12_push_u3 Q K36 N σ x1 x2 → ml_V p l e rm_X12_push s m args below meth c (MQ below (ml_Qv base D cA n Q) args s 0 0 (ml_A base)) base D cA 0 0 n n σ (F0 m 3 ls []) := by
  intro N
  induction N with
  | zero => intro σ x1 x2 h_x1 h_x2 ls hl hw; exact False.elim hw
  | succ N ih =>
    intro σ x1 x2 h_x1 h_x2 ls hl hw
    unfold f_X12_push_u3 at hw
    refine ml_iload_n (pc := 3) X hl 2 rfl rfl dX12_push_3 ?_
    refine ml_if_lt (pc := 4) (tgt := 36) X h_x2 dX12_push_4 (by decide) (fun c1 => ?_) (fun c1 => ?_)
    · have hw := hw.1 c1
      exact hK36 σ   _ (lv_sub hl [] rfl) hw
    · have hw := hw.2 c1
      refine ml_aload_n (pc := 7) X hl 0 rfl rfl dX12_push_7 ?_
      refine gf_X12_7 (pc := 8) X (ml_c215 hn) dX12_push_8 ?_
      refine ml_aload_n (pc := 11) X hl 0 rfl rfl dX12_push_11 ?_
      refine gf_X12_155 (pc := 12) X (ml_c215 hn) dX12_push_12 (fun r2 => ?_)
      have hw := hw r2
      refine ml_iload_n (pc := 15) X hl 1 rfl rfl dX12_push_15 ?_
      refine ml_iload_n (pc := 16) X hl 2 rfl rfl dX12_push_16 ?_
      refine ml_ishr (pc := 17) X dX12_push_17 ?_
      refine ml_i2b (pc := 18) X dX12_push_18 ?_
      obtain ⟨a3, b3, hw⟩ := hw
      refine ml_bast (pc := 19) (N := 200) X (ml_c216 hn) a3 b3 (b_i2b_r _) dX12_push_19 (fun σ3 g3 => ?_)
      have hw := hw σ3 g3
      refine ml_aload_n (pc := 20) X hl 0 rfl rfl dX12_push_20 ?_
      refine ml_dup (pc := 21) X dX12_push_21 rfl ?_
      refine gf_X12_155 (pc := 22) X (ml_c215 hn) dX12_push_22 (fun r4 => ?_)
      have hw := hw r4
      refine ml_iconst (pc := 25) X dX12_push_25 ?_
      obtain ⟨v5, hw⟩ := hw
      refine ml_iadd (pc := 26) X dX12_push_26 ?_
      refine pf_X12_155 (pc := 27) X (ml_c215 hn) v5 dX12_push_27 (fun σ6 g6 => ?_)
      have hw := hw σ6 g6
      obtain ⟨v7, hw⟩ := hw
      obtain ⟨y7, e7⟩ : ∃ y : Int, y = x2 + (-8) := ⟨_, rfl⟩
      have hw := hw y7 e7
      rw [← e7] at v7
      refine ml_iinc (pc := 30) X e7 hl 2 rfl (by decide) (lst' := [(2, .int (Int32.ofInt y7)), (0, .ref (base + (215 : Int).toNat)), (1, .int (Int32.ofInt x1))]) rfl dX12_push_30 (fun ls hl => ?_)
      refine ml_goto (pc := 33) (tgt := 3) X dX12_push_33 (by decide) ?_
      exact ih σ6 x1 y7 h_x1 v7 _ (lv_sub hl [1, 2, 0] rfl) hw
set_option maxRecDepth 100000 in
set_option maxHeartbeats 4000000 in
theorem u_X12_push_36 {p : Program} {e : Env} {s : State} {m : MethodId} {args : Array Value} {below : List Frame} {meth : Method} {c : Code} {base : Nat} {D : va_G} {cA : Nat → ClassId} {n : Nat} {l : Launch} {Q : ml_St → Prop} (X : ml_X p s m c meth args D cA cX12_push 3 RX12 none) (hn : 256 ≤ n) (σ : ml_St) (ls : Array Slot) (hl : lv_has ls 3 []) (hw : f_X12_push_u36 Q σ) : ml_V p l e rm_X12_push s m args below meth c (MQ below (ml_Qv base D cA n Q) args s 0 0 (ml_A base)) base D cA 0 0 n n σ (F0 m 36 ls []) := by
  unfold f_X12_push_u36 at hw
  exact ml_vret (pc := 36) X hw dX12_push_36
set_option maxRecDepth 100000 in
set_option maxHeartbeats 4000000 in
theorem u_X12_push_0 {p : Program} {e : Env} {s : State} {m : MethodId} {args : Array Value} {below : List Frame} {meth : Method} {c : Code} {base : Nat} {D : va_G} {cA : Nat → ClassId} {n : Nat} {l : Launch} {Q : ml_St → Prop} (X : ml_X p s m c meth args D cA cX12_push 3 RX12 none) (hn : 256 ≤ n) (σ : ml_St) (x1 : Int) (h_x1 : I32 x1) (ls : Array Slot) (hl : lv_has ls 3 [(0, .ref (base + (215 : Int).toNat)), (1, .int (Int32.ofInt x1))]) (hw : f_X12_push_u0 Q σ x1) : ml_V p l e rm_X12_push s m args below meth c (MQ below (ml_Qv base D cA n Q) args s 0 0 (ml_A base)) base D cA 0 0 n n σ (F0 m 0 ls []) := by
  unfold f_X12_push_u0 at hw
  refine ml_bipush (pc := 0) X dX12_push_0 (by decide) ?_
  refine ml_istore_n (pc := 2) X rfl hl (by decide) (lst' := [(2, .int (Int32.ofInt 24)), (0, .ref (base + (215 : Int).toNat)), (1, .int (Int32.ofInt x1))]) rfl dX12_push_2 (fun ls hl => ?_)
  obtain ⟨N0, hw⟩ := hw
  exact u_X12_push_3 X hn (fun σ   ls hl hw => u_X12_push_36 X hn σ   ls hl hw) N0 σ x1 24 h_x1 ⟨by decide, by decide⟩ _ (lv_sub hl [1, 2, 0] rfl) hw
set_option maxRecDepth 100000 in
theorem c_X12_push (l : Launch) (base : Nat) (D : va_G) (cA : Nat → ClassId) (n : Nat) (hn : 256 ≤ n) (σ : ml_St) (x1 : Int) (h_x1 : I32 x1) (Q : ml_St → Prop) (hw : f_X12_push σ x1 Q) : Met l yX12_push (Cond.code yX12_push cX12_push 3 none :: ml_T) rm_X12_push (va_Pc [.ref (base + (215 : Int).toNat), .int (Int32.ofInt x1)] (ml_U base D cA n σ)) (ml_Qv base D cA n Q) 0 0 (ml_A base) := by
  refine Met.ofW (cc := cX12_push) (maxL := 3) (ret := none) (by decide) rfl ?_
  intro p e s m args below meth c s₁ B hml hv
  obtain ⟨rfl, hP, hK, hok, hro⟩ := hv
  have X : ml_X p s m c meth _ D cA cX12_push 3 RX12 none := ⟨B.exec, B.bytes, hml, findClass_of_methodNamed B.named, fun w hw => atoms_spec (ws := Cond.code yX12_push cX12_push 3 none :: ml_T) B.pre w (List.mem_cons_of_mem _ hw), hK, B.notSynchronized, B.returns⟩
  have hl := lv_entry [.ref (base + (215 : Int).toNat), .int (Int32.ofInt x1)] (n := 3) (Nat.le_of_ble_eq_true rfl)
  rw [lg_entry_eq]
  generalize (lg_sl [.ref (base + (215 : Int).toNat), .int (Int32.ofInt x1)] ++ List.replicate (3 - (lg_sl [.ref (base + (215 : Int).toNat), .int (Int32.ofInt x1)]).length) Slot.unset).toArray = ls at hl ⊢
  have hl : lv_has ls 3 [(0, .ref (base + (215 : Int).toNat)), (1, .int (Int32.ofInt x1))] := hl
  unfold f_X12_push at hw
  exact u_X12_push_0 X hn σ x1 h_x1 _ (lv_sub hl [0, 1] rfl) hw s.heap [] hP va_S.rf hok hro
theorem dX12_feed_0 : decode cX12_feed 0 = .ok (.aload_n 0, 1) := by decide +kernel
theorem dX12_feed_1 : decode cX12_feed 1 = .ok (.getfield 155, 3) := by decide +kernel
theorem dX12_feed_4 : decode cX12_feed 4 = .ok (.bipush 20, 2) := by decide +kernel
theorem dX12_feed_6 : decode cX12_feed 6 = .ok (.iadd, 1) := by decide +kernel
theorem dX12_feed_7 : decode cX12_feed 7 = .ok (.sipush 200, 3) := by decide +kernel
theorem dX12_feed_10 : decode cX12_feed 10 = .ok (.if_icmp .le 5, 3) := by decide +kernel
theorem dX12_feed_13 : decode cX12_feed 13 = .ok (.iconst (-1), 1) := by decide +kernel
theorem dX12_feed_14 : decode cX12_feed 14 = .ok (.ireturn, 1) := by decide +kernel
theorem dX12_feed_15 : decode cX12_feed 15 = .ok (.aload_n 0, 1) := by decide +kernel
theorem dX12_feed_16 : decode cX12_feed 16 = .ok (.iload_n 1, 1) := by decide +kernel
theorem dX12_feed_17 : decode cX12_feed 17 = .ok (.invokevirtual 158, 3) := by decide +kernel
theorem dX12_feed_20 : decode cX12_feed 20 = .ok (.aload_n 0, 1) := by decide +kernel
theorem dX12_feed_21 : decode cX12_feed 21 = .ok (.iload_n 2, 1) := by decide +kernel
theorem dX12_feed_22 : decode cX12_feed 22 = .ok (.invokevirtual 158, 3) := by decide +kernel
theorem dX12_feed_25 : decode cX12_feed 25 = .ok (.aload_n 0, 1) := by decide +kernel
theorem dX12_feed_26 : decode cX12_feed 26 = .ok (.iload_n 3, 1) := by decide +kernel
theorem dX12_feed_27 : decode cX12_feed 27 = .ok (.invokevirtual 158, 3) := by decide +kernel
theorem dX12_feed_30 : decode cX12_feed 30 = .ok (.aload_n 0, 1) := by decide +kernel
theorem dX12_feed_31 : decode cX12_feed 31 = .ok (.iload 4, 2) := by decide +kernel
theorem dX12_feed_33 : decode cX12_feed 33 = .ok (.invokevirtual 158, 3) := by decide +kernel
theorem dX12_feed_36 : decode cX12_feed 36 = .ok (.aload_n 0, 1) := by decide +kernel
theorem dX12_feed_37 : decode cX12_feed 37 = .ok (.iload 5, 2) := by decide +kernel
theorem dX12_feed_39 : decode cX12_feed 39 = .ok (.invokevirtual 158, 3) := by decide +kernel
theorem dX12_feed_42 : decode cX12_feed 42 = .ok (.aload_n 0, 1) := by decide +kernel
theorem dX12_feed_43 : decode cX12_feed 43 = .ok (.getfield 155, 3) := by decide +kernel
theorem dX12_feed_46 : decode cX12_feed 46 = .ok (.ireturn, 1) := by decide +kernel
def f_X12_feed_u0 (Q : Int → ml_St → Prop) (σ : ml_St) (x1 : Int) (x2 : Int) (x3 : Int) (x4 : Int) (x5 : Int) : Prop :=
∀ _ : I32 (σ 215 1),
I32 ((σ 215 1) + 20) ∧
((((σ 215 1) + 20) : Int) ≤ 200 →
f_X12_push σ x1 (fun σ4 =>
f_X12_push σ4 x2 (fun σ5 =>
f_X12_push σ5 x3 (fun σ6 =>
f_X12_push σ6 x4 (fun σ7 =>
f_X12_push σ7 x5 (fun σ8 =>
∀ _ : I32 (σ8 215 1),
Q (σ8 215 1) σ8)))))) ∧
(¬ ((((σ 215 1) + 20) : Int) ≤ 200) →
Q (-1) σ)
def f_X12_feed (σ : ml_St) (x1 : Int) (x2 : Int) (x3 : Int) (x4 : Int) (x5 : Int) (Q : Int → ml_St → Prop) : Prop := f_X12_feed_u0 Q σ x1 x2 x3 x4 x5
def rm_X12_feed : Room := { frames := 1, cells := 0, slots := 0, locals := 22 }
set_option maxRecDepth 100000 in
set_option maxHeartbeats 4000000 in
theorem u_X12_feed_0 {p : Program} {e : Env} {s : State} {m : MethodId} {args : Array Value} {below : List Frame} {meth : Method} {c : Code} {base : Nat} {D : va_G} {cA : Nat → ClassId} {n : Nat} {l : Launch} {Q : Int → ml_St → Prop} (X : ml_X p s m c meth args D cA cX12_feed 6 RX12 (some .int)) (hn : 256 ≤ n) (σ : ml_St) (x1 : Int) (x2 : Int) (x3 : Int) (x4 : Int) (x5 : Int) (h_x1 : I32 x1) (h_x2 : I32 x2) (h_x3 : I32 x3) (h_x4 : I32 x4) (h_x5 : I32 x5) (ls : Array Slot) (hl : lv_has ls 6 [(0, .ref (base + (215 : Int).toNat)), (1, .int (Int32.ofInt x1)), (2, .int (Int32.ofInt x2)), (3, .int (Int32.ofInt x3)), (4, .int (Int32.ofInt x4)), (5, .int (Int32.ofInt x5))]) (hw : f_X12_feed_u0 Q σ x1 x2 x3 x4 x5) : ml_V p l e rm_X12_feed s m args below meth c (MQ below (ml_Qi I32 base D cA n Q) args s 0 0 (ml_A base)) base D cA 0 0 n n σ (F0 m 0 ls []) := by
  unfold f_X12_feed_u0 at hw
  refine ml_aload_n (pc := 0) X hl 0 rfl rfl dX12_feed_0 ?_
  refine gf_X12_155 (pc := 1) X (ml_c215 hn) dX12_feed_1 (fun r1 => ?_)
  have hw := hw r1
  refine ml_bipush (pc := 4) X dX12_feed_4 (by decide) ?_
  obtain ⟨v2, hw⟩ := hw
  refine ml_iadd (pc := 6) X dX12_feed_6 ?_
  refine ml_sipush (pc := 7) X dX12_feed_7 (by decide) ?_
  refine ml_icmp_le (pc := 10) (tgt := 15) X v2 ⟨by decide, by decide⟩ dX12_feed_10 (by decide) (fun c3 => ?_) (fun c3 => ?_)
  · have hw := hw.1 c3
    refine ml_aload_n (pc := 15) X hl 0 rfl rfl dX12_feed_15 ?_
    refine ml_iload_n (pc := 16) X hl 1 rfl rfl dX12_feed_16 ?_
    refine ml_callvV (pc := 17) (rest := []) X [.int (Int32.ofInt x1)] (by decide) rfl (ml_c215 hn) (c_X12_push l base D cA n hn σ x1 h_x1 _ hw) cv_X12_158 ⟨rfl, rfl⟩ ⟨by decide, by decide⟩ rfl rfl hl (Nat.le_of_ble_eq_true rfl) ⟨Nat.zero_le _, Nat.zero_le _⟩ dX12_feed_17 (fun σ4 hw => ?_)
    refine ml_aload_n (pc := 20) X hl 0 rfl rfl dX12_feed_20 ?_
    refine ml_iload_n (pc := 21) X hl 2 rfl rfl dX12_feed_21 ?_
    refine ml_callvV (pc := 22) (rest := []) X [.int (Int32.ofInt x2)] (by decide) rfl (ml_c215 hn) (c_X12_push l base D cA n hn σ4 x2 h_x2 _ hw) cv_X12_158 ⟨rfl, rfl⟩ ⟨by decide, by decide⟩ rfl rfl hl (Nat.le_of_ble_eq_true rfl) ⟨Nat.zero_le _, Nat.zero_le _⟩ dX12_feed_22 (fun σ5 hw => ?_)
    refine ml_aload_n (pc := 25) X hl 0 rfl rfl dX12_feed_25 ?_
    refine ml_iload_n (pc := 26) X hl 3 rfl rfl dX12_feed_26 ?_
    refine ml_callvV (pc := 27) (rest := []) X [.int (Int32.ofInt x3)] (by decide) rfl (ml_c215 hn) (c_X12_push l base D cA n hn σ5 x3 h_x3 _ hw) cv_X12_158 ⟨rfl, rfl⟩ ⟨by decide, by decide⟩ rfl rfl hl (Nat.le_of_ble_eq_true rfl) ⟨Nat.zero_le _, Nat.zero_le _⟩ dX12_feed_27 (fun σ6 hw => ?_)
    refine ml_aload_n (pc := 30) X hl 0 rfl rfl dX12_feed_30 ?_
    refine ml_iload (pc := 31) X hl 4 rfl dX12_feed_31 ?_
    refine ml_callvV (pc := 33) (rest := []) X [.int (Int32.ofInt x4)] (by decide) rfl (ml_c215 hn) (c_X12_push l base D cA n hn σ6 x4 h_x4 _ hw) cv_X12_158 ⟨rfl, rfl⟩ ⟨by decide, by decide⟩ rfl rfl hl (Nat.le_of_ble_eq_true rfl) ⟨Nat.zero_le _, Nat.zero_le _⟩ dX12_feed_33 (fun σ7 hw => ?_)
    refine ml_aload_n (pc := 36) X hl 0 rfl rfl dX12_feed_36 ?_
    refine ml_iload (pc := 37) X hl 5 rfl dX12_feed_37 ?_
    refine ml_callvV (pc := 39) (rest := []) X [.int (Int32.ofInt x5)] (by decide) rfl (ml_c215 hn) (c_X12_push l base D cA n hn σ7 x5 h_x5 _ hw) cv_X12_158 ⟨rfl, rfl⟩ ⟨by decide, by decide⟩ rfl rfl hl (Nat.le_of_ble_eq_true rfl) ⟨Nat.zero_le _, Nat.zero_le _⟩ dX12_feed_39 (fun σ8 hw => ?_)
    refine ml_aload_n (pc := 42) X hl 0 rfl rfl dX12_feed_42 ?_
    refine gf_X12_155 (pc := 43) X (ml_c215 hn) dX12_feed_43 (fun r9 => ?_)
    have hw := hw r9
    exact ml_iret (pc := 46) X r9 hw dX12_feed_46
  · have hw := hw.2 c3
    refine ml_iconst (pc := 13) X dX12_feed_13 ?_
    exact ml_iret (pc := 14) X ⟨by decide, by decide⟩ hw dX12_feed_14
set_option maxRecDepth 100000 in
theorem c_X12_feed (l : Launch) (base : Nat) (D : va_G) (cA : Nat → ClassId) (n : Nat) (hn : 256 ≤ n) (σ : ml_St) (x1 : Int) (x2 : Int) (x3 : Int) (x4 : Int) (x5 : Int) (h_x1 : I32 x1) (h_x2 : I32 x2) (h_x3 : I32 x3) (h_x4 : I32 x4) (h_x5 : I32 x5) (Q : Int → ml_St → Prop) (hw : f_X12_feed σ x1 x2 x3 x4 x5 Q) : Met l yX12_feed (Cond.code yX12_feed cX12_feed 6 (some .int) :: ml_T) rm_X12_feed (va_Pc [.ref (base + (215 : Int).toNat), .int (Int32.ofInt x1), .int (Int32.ofInt x2), .int (Int32.ofInt x3), .int (Int32.ofInt x4), .int (Int32.ofInt x5)] (ml_U base D cA n σ)) (ml_Qi I32 base D cA n Q) 0 0 (ml_A base) := by
  refine Met.ofW (cc := cX12_feed) (maxL := 6) (ret := (some .int)) (by decide) rfl ?_
  intro p e s m args below meth c s₁ B hml hv
  obtain ⟨rfl, hP, hK, hok, hro⟩ := hv
  have X : ml_X p s m c meth _ D cA cX12_feed 6 RX12 (some .int) := ⟨B.exec, B.bytes, hml, findClass_of_methodNamed B.named, fun w hw => atoms_spec (ws := Cond.code yX12_feed cX12_feed 6 (some .int) :: ml_T) B.pre w (List.mem_cons_of_mem _ hw), hK, B.notSynchronized, B.returns⟩
  have hl := lv_entry [.ref (base + (215 : Int).toNat), .int (Int32.ofInt x1), .int (Int32.ofInt x2), .int (Int32.ofInt x3), .int (Int32.ofInt x4), .int (Int32.ofInt x5)] (n := 6) (Nat.le_of_ble_eq_true rfl)
  rw [lg_entry_eq]
  generalize (lg_sl [.ref (base + (215 : Int).toNat), .int (Int32.ofInt x1), .int (Int32.ofInt x2), .int (Int32.ofInt x3), .int (Int32.ofInt x4), .int (Int32.ofInt x5)] ++ List.replicate (6 - (lg_sl [.ref (base + (215 : Int).toNat), .int (Int32.ofInt x1), .int (Int32.ofInt x2), .int (Int32.ofInt x3), .int (Int32.ofInt x4), .int (Int32.ofInt x5)]).length) Slot.unset).toArray = ls at hl ⊢
  have hl : lv_has ls 6 [(0, .ref (base + (215 : Int).toNat)), (1, .int (Int32.ofInt x1)), (2, .int (Int32.ofInt x2)), (3, .int (Int32.ofInt x3)), (4, .int (Int32.ofInt x4)), (5, .int (Int32.ofInt x5))] := hl
  unfold f_X12_feed at hw
  exact u_X12_feed_0 X hn σ x1 x2 x3 x4 x5 h_x1 h_x2 h_x3 h_x4 h_x5 _ (lv_sub hl [0, 1, 2, 3, 4, 5] rfl) hw s.heap [] hP va_S.rf hok hro
theorem dX12_plus_0 : decode cX12_plus 0 = .ok (.lload_n 0, 1) := by decide +kernel
theorem dX12_plus_1 : decode cX12_plus 1 = .ok (.ldc2_w 196, 3) := by decide +kernel
theorem dX12_plus_4 : decode cX12_plus 4 = .ok (.lload_n 2, 1) := by decide +kernel
theorem dX12_plus_5 : decode cX12_plus 5 = .ok (.lsub, 1) := by decide +kernel
theorem dX12_plus_6 : decode cX12_plus 6 = .ok (.lcmp, 1) := by decide +kernel
theorem dX12_plus_7 : decode cX12_plus 7 = .ok (.ifCond .le 9, 3) := by decide +kernel
theorem dX12_plus_10 : decode cX12_plus 10 = .ok (.ldc2_w 196, 3) := by decide +kernel
theorem dX12_plus_13 : decode cX12_plus 13 = .ok (.goto 6, 3) := by decide +kernel
theorem dX12_plus_16 : decode cX12_plus 16 = .ok (.lload_n 0, 1) := by decide +kernel
theorem dX12_plus_17 : decode cX12_plus 17 = .ok (.lload_n 2, 1) := by decide +kernel
theorem dX12_plus_18 : decode cX12_plus 18 = .ok (.ladd, 1) := by decide +kernel
theorem dX12_plus_19 : decode cX12_plus 19 = .ok (.lreturn, 1) := by decide +kernel
def f_X12_plus_u19 (Q : Int → ml_St → Prop) (σ : ml_St) (s0 : Int) : Prop :=
Q s0 σ
def f_X12_plus_u0 (Q : Int → ml_St → Prop) (σ : ml_St) (x0 : Int) (x2 : Int) : Prop :=
(x0 ≤ (w64 (9000000000000000000 - x2)) →
f_X12_plus_u19 Q σ (w64 (x0 + x2))) ∧
(¬ (x0 ≤ (w64 (9000000000000000000 - x2))) →
f_X12_plus_u19 Q σ 9000000000000000000)
def f_X12_plus (σ : ml_St) (x0 : Int) (x2 : Int) (Q : Int → ml_St → Prop) : Prop := f_X12_plus_u0 Q σ x0 x2
def rm_X12_plus : Room := { frames := 0, cells := 0, slots := 0, locals := 0 }
set_option maxRecDepth 100000 in
set_option maxHeartbeats 4000000 in
theorem u_X12_plus_19 {p : Program} {e : Env} {s : State} {m : MethodId} {args : Array Value} {below : List Frame} {meth : Method} {c : Code} {base : Nat} {D : va_G} {cA : Nat → ClassId} {n : Nat} {l : Launch} {Q : Int → ml_St → Prop} (X : ml_X p s m c meth args D cA cX12_plus 4 RX12 (some .long)) (hn : 256 ≤ n) (σ : ml_St) (s0 : Int) (h_s0 : I64 s0) (ls : Array Slot) (hl : lv_has ls 4 []) (hw : f_X12_plus_u19 Q σ s0) : ml_V p l e rm_X12_plus s m args below meth c (MQ below (ml_Ql base D cA n Q) args s 0 0 (ml_A base)) base D cA 0 0 n n σ (F0 m 19 ls [.long (Int64.ofInt s0)]) := by
  unfold f_X12_plus_u19 at hw
  exact ml_lret (pc := 19) X h_s0 hw dX12_plus_19
set_option maxRecDepth 100000 in
set_option maxHeartbeats 4000000 in
theorem u_X12_plus_0 {p : Program} {e : Env} {s : State} {m : MethodId} {args : Array Value} {below : List Frame} {meth : Method} {c : Code} {base : Nat} {D : va_G} {cA : Nat → ClassId} {n : Nat} {l : Launch} {Q : Int → ml_St → Prop} (X : ml_X p s m c meth args D cA cX12_plus 4 RX12 (some .long)) (hn : 256 ≤ n) (σ : ml_St) (x0 : Int) (x2 : Int) (h_x0 : I64 x0) (h_x2 : I64 x2) (ls : Array Slot) (hl : lv_has ls 4 [(0, .long (Int64.ofInt x0)), (2, .long (Int64.ofInt x2))]) (hw : f_X12_plus_u0 Q σ x0 x2) : ml_V p l e rm_X12_plus s m args below meth c (MQ below (ml_Ql base D cA n Q) args s 0 0 (ml_A base)) base D cA 0 0 n n σ (F0 m 0 ls []) := by
  unfold f_X12_plus_u0 at hw
  refine ml_lload_n (pc := 0) X hl 0 rfl rfl dX12_plus_0 ?_
  refine ml_ldc2 (pc := 1) (v := 9000000000000000000) X dX12_plus_1 tc_5_215 ?_
  refine ml_lload_n (pc := 4) X hl 1 rfl rfl dX12_plus_4 ?_
  refine ml_lsubW (pc := 5) X dX12_plus_5 ?_
  refine ml_lcmp_le (pc := 6) (tgt := 16) X h_x0 (w64_r _) dX12_plus_6 dX12_plus_7 (by decide) (fun c2 => ?_) (fun c2 => ?_)
  · have hw := hw.1 c2
    refine ml_lload_n (pc := 16) X hl 0 rfl rfl dX12_plus_16 ?_
    refine ml_lload_n (pc := 17) X hl 1 rfl rfl dX12_plus_17 ?_
    refine ml_laddW (pc := 18) X dX12_plus_18 ?_
    exact u_X12_plus_19 X hn σ (w64 (x0 + x2)) (w64_r _) _ (lv_sub hl [] rfl) hw
  · have hw := hw.2 c2
    refine ml_ldc2 (pc := 10) (v := 9000000000000000000) X dX12_plus_10 tc_5_215 ?_
    refine ml_goto (pc := 13) (tgt := 19) X dX12_plus_13 (by decide) ?_
    exact u_X12_plus_19 X hn σ 9000000000000000000 ⟨by decide, by decide⟩ _ (lv_sub hl [] rfl) hw
set_option maxRecDepth 100000 in
theorem c_X12_plus (l : Launch) (base : Nat) (D : va_G) (cA : Nat → ClassId) (n : Nat) (hn : 256 ≤ n) (σ : ml_St) (x0 : Int) (x2 : Int) (h_x0 : I64 x0) (h_x2 : I64 x2) (Q : Int → ml_St → Prop) (hw : f_X12_plus σ x0 x2 Q) : Met l yX12_plus (Cond.code yX12_plus cX12_plus 4 (some .long) :: ml_T) rm_X12_plus (va_Pc [.long (Int64.ofInt x0), .long (Int64.ofInt x2)] (ml_U base D cA n σ)) (ml_Ql base D cA n Q) 0 0 (ml_A base) := by
  refine Met.ofW (cc := cX12_plus) (maxL := 4) (ret := (some .long)) (by decide) rfl ?_
  intro p e s m args below meth c s₁ B hml hv
  obtain ⟨rfl, hP, hK, hok, hro⟩ := hv
  have X : ml_X p s m c meth _ D cA cX12_plus 4 RX12 (some .long) := ⟨B.exec, B.bytes, hml, findClass_of_methodNamed B.named, fun w hw => atoms_spec (ws := Cond.code yX12_plus cX12_plus 4 (some .long) :: ml_T) B.pre w (List.mem_cons_of_mem _ hw), hK, B.notSynchronized, B.returns⟩
  have hl := lv_entry [.long (Int64.ofInt x0), .long (Int64.ofInt x2)] (n := 4) (Nat.le_of_ble_eq_true rfl)
  rw [lg_entry_eq]
  generalize (lg_sl [.long (Int64.ofInt x0), .long (Int64.ofInt x2)] ++ List.replicate (4 - (lg_sl [.long (Int64.ofInt x0), .long (Int64.ofInt x2)]).length) Slot.unset).toArray = ls at hl ⊢
  have hl : lv_has ls 4 [(0, .long (Int64.ofInt x0)), (2, .long (Int64.ofInt x2))] := hl
  unfold f_X12_plus at hw
  exact u_X12_plus_0 X hn σ x0 x2 h_x0 h_x2 _ (lv_sub hl [0, 1] rfl) hw s.heap [] hP va_S.rf hok hro
theorem dX12_read_0 : decode cX12_read 0 = .ok (.aload_n 0, 1) := by decide +kernel
theorem dX12_read_1 : decode cX12_read 1 = .ok (.getfield 198, 3) := by decide +kernel
theorem dX12_read_4 : decode cX12_read 4 = .ok (.aload_n 0, 1) := by decide +kernel
theorem dX12_read_5 : decode cX12_read 5 = .ok (.getfield 24, 3) := by decide +kernel
theorem dX12_read_8 : decode cX12_read 8 = .ok (.aload_n 0, 1) := by decide +kernel
theorem dX12_read_9 : decode cX12_read 9 = .ok (.getfield 201, 3) := by decide +kernel
theorem dX12_read_12 : decode cX12_read 12 = .ok (.iaload, 1) := by decide +kernel
theorem dX12_read_13 : decode cX12_read 13 = .ok (.if_icmp .ge 27, 3) := by decide +kernel
theorem dX12_read_16 : decode cX12_read 16 = .ok (.aload_n 0, 1) := by decide +kernel
theorem dX12_read_17 : decode cX12_read 17 = .ok (.getfield 21, 3) := by decide +kernel
theorem dX12_read_20 : decode cX12_read 20 = .ok (.bipush 100, 2) := by decide +kernel
theorem dX12_read_22 : decode cX12_read 22 = .ok (.aload_n 0, 1) := by decide +kernel
theorem dX12_read_23 : decode cX12_read 23 = .ok (.getfield 201, 3) := by decide +kernel
theorem dX12_read_26 : decode cX12_read 26 = .ok (.imul, 1) := by decide +kernel
theorem dX12_read_27 : decode cX12_read 27 = .ok (.aload_n 0, 1) := by decide +kernel
theorem dX12_read_28 : decode cX12_read 28 = .ok (.getfield 198, 3) := by decide +kernel
theorem dX12_read_31 : decode cX12_read 31 = .ok (.iadd, 1) := by decide +kernel
theorem dX12_read_32 : decode cX12_read 32 = .ok (.baload, 1) := by decide +kernel
theorem dX12_read_33 : decode cX12_read 33 = .ok (.sipush 255, 3) := by decide +kernel
theorem dX12_read_36 : decode cX12_read 36 = .ok (.iand, 1) := by decide +kernel
theorem dX12_read_37 : decode cX12_read 37 = .ok (.goto 4, 3) := by decide +kernel
theorem dX12_read_40 : decode cX12_read 40 = .ok (.iconst 0, 1) := by decide +kernel
theorem dX12_read_41 : decode cX12_read 41 = .ok (.ireturn, 1) := by decide +kernel
def f_X12_read_u41 (Q : Int → ml_St → Prop) (σ : ml_St) (s0 : Int) : Prop :=
Q s0 σ
def f_X12_read_u0 (Q : Int → ml_St → Prop) (σ : ml_St) : Prop :=
∀ _ : I32 (σ 215 19),
∀ _ : I32 (σ 215 20),
(0 : Int) ≤ (σ 215 20) ∧ ((σ 215 20) : Int) < 16 ∧
∀ _ : I32 (σ 219 (σ 215 20)),
((σ 219 (σ 215 20)) ≤ ((σ 215 19) : Int) →
f_X12_read_u41 Q σ 0) ∧
(¬ ((σ 219 (σ 215 20)) ≤ ((σ 215 19) : Int)) →
∀ _ : I32 (σ 215 20),
I32 (100 * (σ 215 20)) ∧
∀ _ : I32 (σ 215 19),
I32 ((100 * (σ 215 20)) + (σ 215 19)) ∧
(0 : Int) ≤ ((100 * (σ 215 20)) + (σ 215 19)) ∧ (((100 * (σ 215 20)) + (σ 215 19)) : Int) < 1600 ∧
∀ _ : ml_I8 (σ 218 ((100 * (σ 215 20)) + (σ 215 19))),
f_X12_read_u41 Q σ (b_and (σ 218 ((100 * (σ 215 20)) + (σ 215 19))) 255))
def f_X12_read (σ : ml_St) (Q : Int → ml_St → Prop) : Prop := f_X12_read_u0 Q σ
def rm_X12_read : Room := { frames := 0, cells := 0, slots := 0, locals := 0 }
set_option maxRecDepth 100000 in
set_option maxHeartbeats 4000000 in
theorem u_X12_read_41 {p : Program} {e : Env} {s : State} {m : MethodId} {args : Array Value} {below : List Frame} {meth : Method} {c : Code} {base : Nat} {D : va_G} {cA : Nat → ClassId} {n : Nat} {l : Launch} {Q : Int → ml_St → Prop} (X : ml_X p s m c meth args D cA cX12_read 1 RX12 (some .int)) (hn : 256 ≤ n) (σ : ml_St) (s0 : Int) (h_s0 : I32 s0) (ls : Array Slot) (hl : lv_has ls 1 []) (hw : f_X12_read_u41 Q σ s0) : ml_V p l e rm_X12_read s m args below meth c (MQ below (ml_Qi I32 base D cA n Q) args s 0 0 (ml_A base)) base D cA 0 0 n n σ (F0 m 41 ls [.int (Int32.ofInt s0)]) := by
  unfold f_X12_read_u41 at hw
  exact ml_iret (pc := 41) X h_s0 hw dX12_read_41
set_option maxRecDepth 100000 in
set_option maxHeartbeats 4000000 in
theorem u_X12_read_0 {p : Program} {e : Env} {s : State} {m : MethodId} {args : Array Value} {below : List Frame} {meth : Method} {c : Code} {base : Nat} {D : va_G} {cA : Nat → ClassId} {n : Nat} {l : Launch} {Q : Int → ml_St → Prop} (X : ml_X p s m c meth args D cA cX12_read 1 RX12 (some .int)) (hn : 256 ≤ n) (σ : ml_St) (ls : Array Slot) (hl : lv_has ls 1 [(0, .ref (base + (215 : Int).toNat))]) (hw : f_X12_read_u0 Q σ) : ml_V p l e rm_X12_read s m args below meth c (MQ below (ml_Qi I32 base D cA n Q) args s 0 0 (ml_A base)) base D cA 0 0 n n σ (F0 m 0 ls []) := by
  unfold f_X12_read_u0 at hw
  refine ml_aload_n (pc := 0) X hl 0 rfl rfl dX12_read_0 ?_
  refine gf_X12_198 (pc := 1) X (ml_c215 hn) dX12_read_1 (fun r1 => ?_)
  have hw := hw r1
  refine ml_aload_n (pc := 4) X hl 0 rfl rfl dX12_read_4 ?_
  refine gf_X12_24 (pc := 5) X (ml_c215 hn) dX12_read_5 ?_
  refine ml_aload_n (pc := 8) X hl 0 rfl rfl dX12_read_8 ?_
  refine gf_X12_201 (pc := 9) X (ml_c215 hn) dX12_read_9 (fun r2 => ?_)
  have hw := hw r2
  obtain ⟨a3, b3, hw⟩ := hw
  refine ml_iald (pc := 12) (N := 16) X (ml_c219 hn) a3 b3 dX12_read_12 (fun r3 => ?_)
  have hw := hw r3
  refine ml_icmp_ge (pc := 13) (tgt := 40) X r1 r3 dX12_read_13 (by decide) (fun c4 => ?_) (fun c4 => ?_)
  · have hw := hw.1 c4
    refine ml_iconst (pc := 40) X dX12_read_40 ?_
    exact u_X12_read_41 X hn σ 0 ⟨by decide, by decide⟩ _ (lv_sub hl [] rfl) hw
  · have hw := hw.2 c4
    refine ml_aload_n (pc := 16) X hl 0 rfl rfl dX12_read_16 ?_
    refine gf_X12_21 (pc := 17) X (ml_c215 hn) dX12_read_17 ?_
    refine ml_bipush (pc := 20) X dX12_read_20 (by decide) ?_
    refine ml_aload_n (pc := 22) X hl 0 rfl rfl dX12_read_22 ?_
    refine gf_X12_201 (pc := 23) X (ml_c215 hn) dX12_read_23 (fun r5 => ?_)
    have hw := hw r5
    obtain ⟨v6, hw⟩ := hw
    refine ml_imul (pc := 26) X dX12_read_26 ?_
    refine ml_aload_n (pc := 27) X hl 0 rfl rfl dX12_read_27 ?_
    refine gf_X12_198 (pc := 28) X (ml_c215 hn) dX12_read_28 (fun r7 => ?_)
    have hw := hw r7
    obtain ⟨v8, hw⟩ := hw
    refine ml_iadd (pc := 31) X dX12_read_31 ?_
    obtain ⟨a9, b9, hw⟩ := hw
    refine ml_bald (pc := 32) (N := 1600) X (ml_c218 hn) a9 b9 dX12_read_32 (fun r9 => ?_)
    have hw := hw r9
    refine ml_sipush (pc := 33) X dX12_read_33 (by decide) ?_
    refine ml_iand (pc := 36) X dX12_read_36 ?_
    refine ml_goto (pc := 37) (tgt := 41) X dX12_read_37 (by decide) ?_
    exact u_X12_read_41 X hn σ (b_and (σ 218 ((100 * (σ 215 20)) + (σ 215 19))) 255) (b_and_r _ _) _ (lv_sub hl [] rfl) hw
set_option maxRecDepth 100000 in
theorem c_X12_read (l : Launch) (base : Nat) (D : va_G) (cA : Nat → ClassId) (n : Nat) (hn : 256 ≤ n) (σ : ml_St) (Q : Int → ml_St → Prop) (hw : f_X12_read σ Q) : Met l yX12_read (Cond.code yX12_read cX12_read 1 (some .int) :: ml_T) rm_X12_read (va_Pc [.ref (base + (215 : Int).toNat)] (ml_U base D cA n σ)) (ml_Qi I32 base D cA n Q) 0 0 (ml_A base) := by
  refine Met.ofW (cc := cX12_read) (maxL := 1) (ret := (some .int)) (by decide) rfl ?_
  intro p e s m args below meth c s₁ B hml hv
  obtain ⟨rfl, hP, hK, hok, hro⟩ := hv
  have X : ml_X p s m c meth _ D cA cX12_read 1 RX12 (some .int) := ⟨B.exec, B.bytes, hml, findClass_of_methodNamed B.named, fun w hw => atoms_spec (ws := Cond.code yX12_read cX12_read 1 (some .int) :: ml_T) B.pre w (List.mem_cons_of_mem _ hw), hK, B.notSynchronized, B.returns⟩
  have hl := lv_entry [.ref (base + (215 : Int).toNat)] (n := 1) (Nat.le_of_ble_eq_true rfl)
  rw [lg_entry_eq]
  generalize (lg_sl [.ref (base + (215 : Int).toNat)] ++ List.replicate (1 - (lg_sl [.ref (base + (215 : Int).toNat)]).length) Slot.unset).toArray = ls at hl ⊢
  have hl : lv_has ls 1 [(0, .ref (base + (215 : Int).toNat))] := hl
  unfold f_X12_read at hw
  exact u_X12_read_0 X hn σ  _ (lv_sub hl [0] rfl) hw s.heap [] hP va_S.rf hok hro
theorem dX12_isDigit_0 : decode cX12_isDigit 0 = .ok (.iload_n 0, 1) := by decide +kernel
theorem dX12_isDigit_1 : decode cX12_isDigit 1 = .ok (.bipush 48, 2) := by decide +kernel
theorem dX12_isDigit_3 : decode cX12_isDigit 3 = .ok (.if_icmp .lt 13, 3) := by decide +kernel
theorem dX12_isDigit_6 : decode cX12_isDigit 6 = .ok (.iload_n 0, 1) := by decide +kernel
theorem dX12_isDigit_7 : decode cX12_isDigit 7 = .ok (.bipush 57, 2) := by decide +kernel
theorem dX12_isDigit_9 : decode cX12_isDigit 9 = .ok (.if_icmp .gt 7, 3) := by decide +kernel
theorem dX12_isDigit_12 : decode cX12_isDigit 12 = .ok (.iconst 1, 1) := by decide +kernel
theorem dX12_isDigit_13 : decode cX12_isDigit 13 = .ok (.goto 4, 3) := by decide +kernel
theorem dX12_isDigit_16 : decode cX12_isDigit 16 = .ok (.iconst 0, 1) := by decide +kernel
theorem dX12_isDigit_17 : decode cX12_isDigit 17 = .ok (.ireturn, 1) := by decide +kernel
def f_X12_isDigit_u17 (Q : Int → ml_St → Prop) (σ : ml_St) (s0 : Int) : Prop :=
Q s0 σ
def f_X12_isDigit_u16 (Q : Int → ml_St → Prop) (σ : ml_St) : Prop :=
f_X12_isDigit_u17 Q σ 0
def f_X12_isDigit_u0 (Q : Int → ml_St → Prop) (σ : ml_St) (x0 : Int) : Prop :=
(x0 < 48 →
f_X12_isDigit_u16 Q σ) ∧
(¬ (x0 < 48) →
(57 < x0 →
f_X12_isDigit_u16 Q σ) ∧
(¬ (57 < x0) →
f_X12_isDigit_u17 Q σ 1))
def f_X12_isDigit (σ : ml_St) (x0 : Int) (Q : Int → ml_St → Prop) : Prop := f_X12_isDigit_u0 Q σ x0
def rm_X12_isDigit : Room := { frames := 0, cells := 0, slots := 0, locals := 0 }
set_option maxRecDepth 100000 in
set_option maxHeartbeats 4000000 in
theorem u_X12_isDigit_17 {p : Program} {e : Env} {s : State} {m : MethodId} {args : Array Value} {below : List Frame} {meth : Method} {c : Code} {base : Nat} {D : va_G} {cA : Nat → ClassId} {n : Nat} {l : Launch} {Q : Int → ml_St → Prop} (X : ml_X p s m c meth args D cA cX12_isDigit 1 RX12 (some .boolean)) (hn : 256 ≤ n) (σ : ml_St) (s0 : Int) (h_s0 : ml_B s0) (ls : Array Slot) (hl : lv_has ls 1 []) (hw : f_X12_isDigit_u17 Q σ s0) : ml_V p l e rm_X12_isDigit s m args below meth c (MQ below (ml_Qi ml_B base D cA n Q) args s 0 0 (ml_A base)) base D cA 0 0 n n σ (F0 m 17 ls [.int (Int32.ofInt s0)]) := by
  unfold f_X12_isDigit_u17 at hw
  exact ml_zret (pc := 17) X h_s0 hw dX12_isDigit_17
set_option maxRecDepth 100000 in
set_option maxHeartbeats 4000000 in
theorem u_X12_isDigit_16 {p : Program} {e : Env} {s : State} {m : MethodId} {args : Array Value} {below : List Frame} {meth : Method} {c : Code} {base : Nat} {D : va_G} {cA : Nat → ClassId} {n : Nat} {l : Launch} {Q : Int → ml_St → Prop} (X : ml_X p s m c meth args D cA cX12_isDigit 1 RX12 (some .boolean)) (hn : 256 ≤ n) (σ : ml_St) (ls : Array Slot) (hl : lv_has ls 1 []) (hw : f_X12_isDigit_u16 Q σ) : ml_V p l e rm_X12_isDigit s m args below meth c (MQ below (ml_Qi ml_B base D cA n Q) args s 0 0 (ml_A base)) base D cA 0 0 n n σ (F0 m 16 ls []) := by
  unfold f_X12_isDigit_u16 at hw
  refine ml_iconst (pc := 16) X dX12_isDigit_16 ?_
  exact u_X12_isDigit_17 X hn σ 0 ⟨by decide, by decide⟩ _ (lv_sub hl [] rfl) hw
set_option maxRecDepth 100000 in
set_option maxHeartbeats 4000000 in
theorem u_X12_isDigit_0 {p : Program} {e : Env} {s : State} {m : MethodId} {args : Array Value} {below : List Frame} {meth : Method} {c : Code} {base : Nat} {D : va_G} {cA : Nat → ClassId} {n : Nat} {l : Launch} {Q : Int → ml_St → Prop} (X : ml_X p s m c meth args D cA cX12_isDigit 1 RX12 (some .boolean)) (hn : 256 ≤ n) (σ : ml_St) (x0 : Int) (h_x0 : I32 x0) (ls : Array Slot) (hl : lv_has ls 1 [(0, .int (Int32.ofInt x0))]) (hw : f_X12_isDigit_u0 Q σ x0) : ml_V p l e rm_X12_isDigit s m args below meth c (MQ below (ml_Qi ml_B base D cA n Q) args s 0 0 (ml_A base)) base D cA 0 0 n n σ (F0 m 0 ls []) := by
  unfold f_X12_isDigit_u0 at hw
  refine ml_iload_n (pc := 0) X hl 0 rfl rfl dX12_isDigit_0 ?_
  refine ml_bipush (pc := 1) X dX12_isDigit_1 (by decide) ?_
  refine ml_icmp_lt (pc := 3) (tgt := 16) X h_x0 ⟨by decide, by decide⟩ dX12_isDigit_3 (by decide) (fun c1 => ?_) (fun c1 => ?_)
  · have hw := hw.1 c1
    exact u_X12_isDigit_16 X hn σ   _ (lv_sub hl [] rfl) hw
  · have hw := hw.2 c1
    refine ml_iload_n (pc := 6) X hl 0 rfl rfl dX12_isDigit_6 ?_
    refine ml_bipush (pc := 7) X dX12_isDigit_7 (by decide) ?_
    refine ml_icmp_gt (pc := 9) (tgt := 16) X h_x0 ⟨by decide, by decide⟩ dX12_isDigit_9 (by decide) (fun c2 => ?_) (fun c2 => ?_)
    · have hw := hw.1 c2
      exact u_X12_isDigit_16 X hn σ   _ (lv_sub hl [] rfl) hw
    · have hw := hw.2 c2
      refine ml_iconst (pc := 12) X dX12_isDigit_12 ?_
      refine ml_goto (pc := 13) (tgt := 17) X dX12_isDigit_13 (by decide) ?_
      exact u_X12_isDigit_17 X hn σ 1 ⟨by decide, by decide⟩ _ (lv_sub hl [] rfl) hw
set_option maxRecDepth 100000 in
theorem c_X12_isDigit (l : Launch) (base : Nat) (D : va_G) (cA : Nat → ClassId) (n : Nat) (hn : 256 ≤ n) (σ : ml_St) (x0 : Int) (h_x0 : I32 x0) (Q : Int → ml_St → Prop) (hw : f_X12_isDigit σ x0 Q) : Met l yX12_isDigit (Cond.code yX12_isDigit cX12_isDigit 1 (some .boolean) :: ml_T) rm_X12_isDigit (va_Pc [.int (Int32.ofInt x0)] (ml_U base D cA n σ)) (ml_Qi ml_B base D cA n Q) 0 0 (ml_A base) := by
  refine Met.ofW (cc := cX12_isDigit) (maxL := 1) (ret := (some .boolean)) (by decide) rfl ?_
  intro p e s m args below meth c s₁ B hml hv
  obtain ⟨rfl, hP, hK, hok, hro⟩ := hv
  have X : ml_X p s m c meth _ D cA cX12_isDigit 1 RX12 (some .boolean) := ⟨B.exec, B.bytes, hml, findClass_of_methodNamed B.named, fun w hw => atoms_spec (ws := Cond.code yX12_isDigit cX12_isDigit 1 (some .boolean) :: ml_T) B.pre w (List.mem_cons_of_mem _ hw), hK, B.notSynchronized, B.returns⟩
  have hl := lv_entry [.int (Int32.ofInt x0)] (n := 1) (Nat.le_of_ble_eq_true rfl)
  rw [lg_entry_eq]
  generalize (lg_sl [.int (Int32.ofInt x0)] ++ List.replicate (1 - (lg_sl [.int (Int32.ofInt x0)]).length) Slot.unset).toArray = ls at hl ⊢
  have hl : lv_has ls 1 [(0, .int (Int32.ofInt x0))] := hl
  unfold f_X12_isDigit at hw
  exact u_X12_isDigit_0 X hn σ x0 h_x0 _ (lv_sub hl [0] rfl) hw s.heap [] hP va_S.rf hok hro
theorem dX12_readNumber_0 : decode cX12_readNumber 0 = .ok (.iconst 0, 1) := by decide +kernel
theorem dX12_readNumber_1 : decode cX12_readNumber 1 = .ok (.istore_n 1, 1) := by decide +kernel
theorem dX12_readNumber_2 : decode cX12_readNumber 2 = .ok (.aload_n 0, 1) := by decide +kernel
theorem dX12_readNumber_3 : decode cX12_readNumber 3 = .ok (.invokevirtual 204, 3) := by decide +kernel
theorem dX12_readNumber_6 : decode cX12_readNumber 6 = .ok (.invokestatic 182, 3) := by decide +kernel
theorem dX12_readNumber_9 : decode cX12_readNumber 9 = .ok (.ifCond .eq 29, 3) := by decide +kernel
theorem dX12_readNumber_12 : decode cX12_readNumber 12 = .ok (.bipush 10, 2) := by decide +kernel
theorem dX12_readNumber_14 : decode cX12_readNumber 14 = .ok (.iload_n 1, 1) := by decide +kernel
theorem dX12_readNumber_15 : decode cX12_readNumber 15 = .ok (.imul, 1) := by decide +kernel
theorem dX12_readNumber_16 : decode cX12_readNumber 16 = .ok (.aload_n 0, 1) := by decide +kernel
theorem dX12_readNumber_17 : decode cX12_readNumber 17 = .ok (.invokevirtual 204, 3) := by decide +kernel
theorem dX12_readNumber_20 : decode cX12_readNumber 20 = .ok (.iadd, 1) := by decide +kernel
theorem dX12_readNumber_21 : decode cX12_readNumber 21 = .ok (.bipush 48, 2) := by decide +kernel
theorem dX12_readNumber_23 : decode cX12_readNumber 23 = .ok (.isub, 1) := by decide +kernel
theorem dX12_readNumber_24 : decode cX12_readNumber 24 = .ok (.istore_n 1, 1) := by decide +kernel
theorem dX12_readNumber_25 : decode cX12_readNumber 25 = .ok (.aload_n 0, 1) := by decide +kernel
theorem dX12_readNumber_26 : decode cX12_readNumber 26 = .ok (.dup, 1) := by decide +kernel
theorem dX12_readNumber_27 : decode cX12_readNumber 27 = .ok (.getfield 198, 3) := by decide +kernel
theorem dX12_readNumber_30 : decode cX12_readNumber 30 = .ok (.iconst 1, 1) := by decide +kernel
theorem dX12_readNumber_31 : decode cX12_readNumber 31 = .ok (.iadd, 1) := by decide +kernel
theorem dX12_readNumber_32 : decode cX12_readNumber 32 = .ok (.putfield 198, 3) := by decide +kernel
theorem dX12_readNumber_35 : decode cX12_readNumber 35 = .ok (.goto (-33), 3) := by decide +kernel
theorem dX12_readNumber_38 : decode cX12_readNumber 38 = .ok (.iload_n 1, 1) := by decide +kernel
theorem dX12_readNumber_39 : decode cX12_readNumber 39 = .ok (.ireturn, 1) := by decide +kernel
def f_X12_readNumber_u2 (Q : Int → ml_St → Prop) (K38 : ml_St → Int → Prop) : Nat → ml_St → Int → Prop
| 0, _, _ => False
| N + 1, σ, x1 =>
f_X12_read σ (fun r1 σ1 => ∀ _ : I32 r1,
f_X12_isDigit σ1 r1 (fun r2 σ2 => ∀ _ : ml_B r2,
(r2 = 0 →
K38 σ2 x1) ∧
(r2 ≠ 0 →
I32 (10 * x1) ∧
f_X12_read σ2 (fun r5 σ5 => ∀ _ : I32 r5,
I32 ((10 * x1) + r5) ∧
I32 (((10 * x1) + r5) - 48) ∧
∀ y8 : Int, y8 = ((10 * x1) + r5) - 48 →
∀ _ : I32 (σ5 215 19),
I32 ((σ5 215 19) + 1) ∧
∀ σ11, σ11 = ml_up σ5 215 19 ((σ5 215 19) + 1) →
f_X12_readNumber_u2 Q K38 N σ11 y8))))
def f_X12_readNumber_u38 (Q : Int → ml_St → Prop) (σ : ml_St) (x1 : Int) : Prop :=
Q x1 σ
def f_X12_readNumber_u0 (Q : Int → ml_St → Prop) (σ : ml_St) : Prop :=
∃ N1, f_X12_readNumber_u2 Q (f_X12_readNumber_u38 Q) N1 σ 0
def f_X12_readNumber (σ : ml_St) (Q : Int → ml_St → Prop) : Prop := f_X12_readNumber_u0 Q σ
def rm_X12_readNumber : Room := { frames := 1, cells := 0, slots := 0, locals := 20 }
set_option maxRecDepth 100000 in
set_option maxHeartbeats 4000000 in
theorem u_X12_readNumber_2 {p : Program} {e : Env} {s : State} {m : MethodId} {args : Array Value} {below : List Frame} {meth : Method} {c : Code} {base : Nat} {D : va_G} {cA : Nat → ClassId} {n : Nat} {l : Launch} {Q : Int → ml_St → Prop} {K38 : ml_St → Int → Prop} (X : ml_X p s m c meth args D cA cX12_readNumber 2 RX12 (some .int)) (hn : 256 ≤ n) (hK38 : ∀ (σ : ml_St) (x1 : Int) (h_x1 : I32 x1) (ls : Array Slot), lv_has ls 2 [(1, .int (Int32.ofInt x1))] → K38 σ x1 → ml_V p l e rm_X12_readNumber s m args below meth c (MQ below (ml_Qi I32 base D cA n Q) args s 0 0 (ml_A base)) base D cA 0 0 n n σ (F0 m 38 ls [])) : ∀ (N : Nat) (σ : ml_St) (x1 : Int) (h_x1 : I32 x1) (ls : Array Slot), lv_has ls 2 [(0, .ref (base + (215 : Int).toNat)), (1, .int (Int32.ofInt x1))] → f_X12_readNumber_u2 Q K38 N σ x1 → ml_V p l e rm_X12_readNumber s m args below meth c (MQ below (ml_Qi I32 base D cA n Q) args s 0 0 (ml_A base)) base D cA 0 0 n n σ (F0 m 2 ls []) := by
  intro N
  induction N with
  | zero => intro σ x1 h_x1 ls hl hw; exact False.elim hw
  | succ N ih =>
    intro σ x1 h_x1 ls hl hw
    unfold f_X12_readNumber_u2 at hw
    refine ml_aload_n (pc := 2) X hl 0 rfl rfl dX12_readNumber_2 ?_
    refine ml_calliV (pc := 3) (rest := []) X [] (by decide) rfl (ml_c215 hn) (c_X12_read l base D cA n hn σ _ hw) cv_X12_204 ⟨rfl, rfl⟩ ⟨by decide, by decide⟩ rfl rfl hl (Nat.le_of_ble_eq_true rfl) ⟨Nat.zero_le _, Nat.zero_le _⟩ dX12_readNumber_3 (fun r1 σ1 t1 hw => ?_)
    have hw := hw t1
    refine ml_callzS (pc := 6) (rest := []) X [.int (Int32.ofInt r1)] (c_X12_isDigit l base D cA n hn σ1 r1 t1 _ hw) cv_X12_182 ⟨rfl, rfl⟩ ⟨by decide, by decide⟩ rfl rfl hl (Nat.le_of_ble_eq_true rfl) ⟨Nat.zero_le _, Nat.zero_le _⟩ dX12_readNumber_6 (fun r2 σ2 t2 hw => ?_)
    have hw := hw t2
    refine ml_if_eq (pc := 9) (tgt := 38) X t2.i dX12_readNumber_9 (by decide) (fun c3 => ?_) (fun c3 => ?_)
    · have hw := hw.1 c3
      exact hK38 σ2 x1 h_x1 _ (lv_sub hl [1] rfl) hw
    · have hw := hw.2 c3
      refine ml_bipush (pc := 12) X dX12_readNumber_12 (by decide) ?_
      refine ml_iload_n (pc := 14) X hl 1 rfl rfl dX12_readNumber_14 ?_
      obtain ⟨v4, hw⟩ := hw
      refine ml_imul (pc := 15) X dX12_readNumber_15 ?_
      refine ml_aload_n (pc := 16) X hl 0 rfl rfl dX12_readNumber_16 ?_
      refine ml_calliV (pc := 17) (rest := [.int (Int32.ofInt (10 * x1))]) X [] (by decide) rfl (ml_c215 hn) (c_X12_read l base D cA n hn σ2 _ hw) cv_X12_204 ⟨rfl, rfl⟩ ⟨by decide, by decide⟩ rfl rfl hl (Nat.le_of_ble_eq_true rfl) ⟨Nat.zero_le _, Nat.zero_le _⟩ dX12_readNumber_17 (fun r5 σ5 t5 hw => ?_)
      have hw := hw t5
      obtain ⟨v6, hw⟩ := hw
      refine ml_iadd (pc := 20) X dX12_readNumber_20 ?_
      refine ml_bipush (pc := 21) X dX12_readNumber_21 (by decide) ?_
      obtain ⟨v7, hw⟩ := hw
      refine ml_isub (pc := 23) X dX12_readNumber_23 ?_
      refine ml_topI (pc := 24) (fun y8 e8 => ?_)
      have hw := hw y8 e8
      have q8 : I32 y8 := by rw [e8]; exact v7
      refine ml_istore_n (pc := 24) X rfl hl (by decide) (lst' := [(1, .int (Int32.ofInt y8)), (0, .ref (base + (215 : Int).toNat))]) rfl dX12_readNumber_24 (fun ls hl => ?_)
      refine ml_aload_n (pc := 25) X hl 1 rfl rfl dX12_readNumber_25 ?_
      refine ml_dup (pc := 26) X dX12_readNumber_26 rfl ?_
      refine gf_X12_198 (pc := 27) X (ml_c215 hn) dX12_readNumber_27 (fun r9 => ?_)
      have hw := hw r9
      refine ml_iconst (pc := 30) X dX12_readNumber_30 ?_
      obtain ⟨v10, hw⟩ := hw
      refine ml_iadd (pc := 31) X dX12_readNumber_31 ?_
      refine pf_X12_198 (pc := 32) X (ml_c215 hn) v10 dX12_readNumber_32 (fun σ11 g11 => ?_)
      have hw := hw σ11 g11
      refine ml_goto (pc := 35) (tgt := 2) X dX12_readNumber_35 (by decide) ?_
      exact ih σ11 y8 q8 _ (lv_sub hl [1, 0] rfl) hw
set_option maxRecDepth 100000 in
set_option maxHeartbeats 4000000 in
theorem u_X12_readNumber_38 {p : Program} {e : Env} {s : State} {m : MethodId} {args : Array Value} {below : List Frame} {meth : Method} {c : Code} {base : Nat} {D : va_G} {cA : Nat → ClassId} {n : Nat} {l : Launch} {Q : Int → ml_St → Prop} (X : ml_X p s m c meth args D cA cX12_readNumber 2 RX12 (some .int)) (hn : 256 ≤ n) (σ : ml_St) (x1 : Int) (h_x1 : I32 x1) (ls : Array Slot) (hl : lv_has ls 2 [(1, .int (Int32.ofInt x1))]) (hw : f_X12_readNumber_u38 Q σ x1) : ml_V p l e rm_X12_readNumber s m args below meth c (MQ below (ml_Qi I32 base D cA n Q) args s 0 0 (ml_A base)) base D cA 0 0 n n σ (F0 m 38 ls []) := by
  unfold f_X12_readNumber_u38 at hw
  refine ml_iload_n (pc := 38) X hl 0 rfl rfl dX12_readNumber_38 ?_
  exact ml_iret (pc := 39) X h_x1 hw dX12_readNumber_39
set_option maxRecDepth 100000 in
set_option maxHeartbeats 4000000 in
theorem u_X12_readNumber_0 {p : Program} {e : Env} {s : State} {m : MethodId} {args : Array Value} {below : List Frame} {meth : Method} {c : Code} {base : Nat} {D : va_G} {cA : Nat → ClassId} {n : Nat} {l : Launch} {Q : Int → ml_St → Prop} (X : ml_X p s m c meth args D cA cX12_readNumber 2 RX12 (some .int)) (hn : 256 ≤ n) (σ : ml_St) (ls : Array Slot) (hl : lv_has ls 2 [(0, .ref (base + (215 : Int).toNat))]) (hw : f_X12_readNumber_u0 Q σ) : ml_V p l e rm_X12_readNumber s m args below meth c (MQ below (ml_Qi I32 base D cA n Q) args s 0 0 (ml_A base)) base D cA 0 0 n n σ (F0 m 0 ls []) := by
  unfold f_X12_readNumber_u0 at hw
  refine ml_iconst (pc := 0) X dX12_readNumber_0 ?_
  refine ml_istore_n (pc := 1) X rfl hl (by decide) (lst' := [(1, .int (Int32.ofInt 0)), (0, .ref (base + (215 : Int).toNat))]) rfl dX12_readNumber_1 (fun ls hl => ?_)
  obtain ⟨N0, hw⟩ := hw
  exact u_X12_readNumber_2 X hn (fun σ x1 h_x1 ls hl hw => u_X12_readNumber_38 X hn σ x1 h_x1 ls hl hw) N0 σ 0 ⟨by decide, by decide⟩ _ (lv_sub hl [1, 0] rfl) hw
set_option maxRecDepth 100000 in
theorem c_X12_readNumber (l : Launch) (base : Nat) (D : va_G) (cA : Nat → ClassId) (n : Nat) (hn : 256 ≤ n) (σ : ml_St) (Q : Int → ml_St → Prop) (hw : f_X12_readNumber σ Q) : Met l yX12_readNumber (Cond.code yX12_readNumber cX12_readNumber 2 (some .int) :: ml_T) rm_X12_readNumber (va_Pc [.ref (base + (215 : Int).toNat)] (ml_U base D cA n σ)) (ml_Qi I32 base D cA n Q) 0 0 (ml_A base) := by
  refine Met.ofW (cc := cX12_readNumber) (maxL := 2) (ret := (some .int)) (by decide) rfl ?_
  intro p e s m args below meth c s₁ B hml hv
  obtain ⟨rfl, hP, hK, hok, hro⟩ := hv
  have X : ml_X p s m c meth _ D cA cX12_readNumber 2 RX12 (some .int) := ⟨B.exec, B.bytes, hml, findClass_of_methodNamed B.named, fun w hw => atoms_spec (ws := Cond.code yX12_readNumber cX12_readNumber 2 (some .int) :: ml_T) B.pre w (List.mem_cons_of_mem _ hw), hK, B.notSynchronized, B.returns⟩
  have hl := lv_entry [.ref (base + (215 : Int).toNat)] (n := 2) (Nat.le_of_ble_eq_true rfl)
  rw [lg_entry_eq]
  generalize (lg_sl [.ref (base + (215 : Int).toNat)] ++ List.replicate (2 - (lg_sl [.ref (base + (215 : Int).toNat)]).length) Slot.unset).toArray = ls at hl ⊢
  have hl : lv_has ls 2 [(0, .ref (base + (215 : Int).toNat))] := hl
  unfold f_X12_readNumber at hw
  exact u_X12_readNumber_0 X hn σ  _ (lv_sub hl [0] rfl) hw s.heap [] hP va_S.rf hok hro
theorem dX12_times_0 : decode cX12_times 0 = .ok (.lload_n 0, 1) := by decide +kernel
theorem dX12_times_1 : decode cX12_times 1 = .ok (.lconst 0, 1) := by decide +kernel
theorem dX12_times_2 : decode cX12_times 2 = .ok (.lcmp, 1) := by decide +kernel
theorem dX12_times_3 : decode cX12_times 3 = .ok (.ifCond .eq 19, 3) := by decide +kernel
theorem dX12_times_6 : decode cX12_times 6 = .ok (.lload_n 2, 1) := by decide +kernel
theorem dX12_times_7 : decode cX12_times 7 = .ok (.ldc2_w 196, 3) := by decide +kernel
theorem dX12_times_10 : decode cX12_times 10 = .ok (.lload_n 0, 1) := by decide +kernel
theorem dX12_times_11 : decode cX12_times 11 = .ok (.ldiv, 1) := by decide +kernel
theorem dX12_times_12 : decode cX12_times 12 = .ok (.lcmp, 1) := by decide +kernel
theorem dX12_times_13 : decode cX12_times 13 = .ok (.ifCond .le 9, 3) := by decide +kernel
theorem dX12_times_16 : decode cX12_times 16 = .ok (.ldc2_w 196, 3) := by decide +kernel
theorem dX12_times_19 : decode cX12_times 19 = .ok (.goto 6, 3) := by decide +kernel
theorem dX12_times_22 : decode cX12_times 22 = .ok (.lload_n 0, 1) := by decide +kernel
theorem dX12_times_23 : decode cX12_times 23 = .ok (.lload_n 2, 1) := by decide +kernel
theorem dX12_times_24 : decode cX12_times 24 = .ok (.lmul, 1) := by decide +kernel
theorem dX12_times_25 : decode cX12_times 25 = .ok (.lreturn, 1) := by decide +kernel
def f_X12_times_u25 (Q : Int → ml_St → Prop) (σ : ml_St) (s0 : Int) : Prop :=
Q s0 σ
def f_X12_times_u22 (Q : Int → ml_St → Prop) (σ : ml_St) (x0 : Int) (x2 : Int) : Prop :=
f_X12_times_u25 Q σ (w64 (x0 * x2))
def f_X12_times_u0 (Q : Int → ml_St → Prop) (σ : ml_St) (x0 : Int) (x2 : Int) : Prop :=
(x0 = 0 →
f_X12_times_u22 Q σ x0 x2) ∧
(x0 ≠ 0 →
(x0 : Int) ≠ 0 ∧
(x2 ≤ (w64 (Int.tdiv 9000000000000000000 x0)) →
f_X12_times_u22 Q σ x0 x2) ∧
(¬ (x2 ≤ (w64 (Int.tdiv 9000000000000000000 x0))) →
f_X12_times_u25 Q σ 9000000000000000000))
def f_X12_times (σ : ml_St) (x0 : Int) (x2 : Int) (Q : Int → ml_St → Prop) : Prop := f_X12_times_u0 Q σ x0 x2
def rm_X12_times : Room := { frames := 0, cells := 0, slots := 0, locals := 0 }
set_option maxRecDepth 100000 in
set_option maxHeartbeats 4000000 in
theorem u_X12_times_25 {p : Program} {e : Env} {s : State} {m : MethodId} {args : Array Value} {below : List Frame} {meth : Method} {c : Code} {base : Nat} {D : va_G} {cA : Nat → ClassId} {n : Nat} {l : Launch} {Q : Int → ml_St → Prop} (X : ml_X p s m c meth args D cA cX12_times 4 RX12 (some .long)) (hn : 256 ≤ n) (σ : ml_St) (s0 : Int) (h_s0 : I64 s0) (ls : Array Slot) (hl : lv_has ls 4 []) (hw : f_X12_times_u25 Q σ s0) : ml_V p l e rm_X12_times s m args below meth c (MQ below (ml_Ql base D cA n Q) args s 0 0 (ml_A base)) base D cA 0 0 n n σ (F0 m 25 ls [.long (Int64.ofInt s0)]) := by
  unfold f_X12_times_u25 at hw
  exact ml_lret (pc := 25) X h_s0 hw dX12_times_25
set_option maxRecDepth 100000 in
set_option maxHeartbeats 4000000 in
theorem u_X12_times_22 {p : Program} {e : Env} {s : State} {m : MethodId} {args : Array Value} {below : List Frame} {meth : Method} {c : Code} {base : Nat} {D : va_G} {cA : Nat → ClassId} {n : Nat} {l : Launch} {Q : Int → ml_St → Prop} (X : ml_X p s m c meth args D cA cX12_times 4 RX12 (some .long)) (hn : 256 ≤ n) (σ : ml_St) (x0 : Int) (x2 : Int) (h_x0 : I64 x0) (h_x2 : I64 x2) (ls : Array Slot) (hl : lv_has ls 4 [(0, .long (Int64.ofInt x0)), (2, .long (Int64.ofInt x2))]) (hw : f_X12_times_u22 Q σ x0 x2) : ml_V p l e rm_X12_times s m args below meth c (MQ below (ml_Ql base D cA n Q) args s 0 0 (ml_A base)) base D cA 0 0 n n σ (F0 m 22 ls []) := by
  unfold f_X12_times_u22 at hw
  refine ml_lload_n (pc := 22) X hl 0 rfl rfl dX12_times_22 ?_
  refine ml_lload_n (pc := 23) X hl 1 rfl rfl dX12_times_23 ?_
  refine ml_lmulW (pc := 24) X dX12_times_24 ?_
  exact u_X12_times_25 X hn σ (w64 (x0 * x2)) (w64_r _) _ (lv_sub hl [] rfl) hw
set_option maxRecDepth 100000 in
set_option maxHeartbeats 4000000 in
theorem u_X12_times_0 {p : Program} {e : Env} {s : State} {m : MethodId} {args : Array Value} {below : List Frame} {meth : Method} {c : Code} {base : Nat} {D : va_G} {cA : Nat → ClassId} {n : Nat} {l : Launch} {Q : Int → ml_St → Prop} (X : ml_X p s m c meth args D cA cX12_times 4 RX12 (some .long)) (hn : 256 ≤ n) (σ : ml_St) (x0 : Int) (x2 : Int) (h_x0 : I64 x0) (h_x2 : I64 x2) (ls : Array Slot) (hl : lv_has ls 4 [(0, .long (Int64.ofInt x0)), (2, .long (Int64.ofInt x2))]) (hw : f_X12_times_u0 Q σ x0 x2) : ml_V p l e rm_X12_times s m args below meth c (MQ below (ml_Ql base D cA n Q) args s 0 0 (ml_A base)) base D cA 0 0 n n σ (F0 m 0 ls []) := by
  unfold f_X12_times_u0 at hw
  refine ml_lload_n (pc := 0) X hl 0 rfl rfl dX12_times_0 ?_
  refine ml_lconst0 (pc := 1) X dX12_times_1 ?_
  refine ml_lcmp_eq (pc := 2) (tgt := 22) X h_x0 ⟨by decide, by decide⟩ dX12_times_2 dX12_times_3 (by decide) (fun c1 => ?_) (fun c1 => ?_)
  · have hw := hw.1 c1
    exact u_X12_times_22 X hn σ x0 x2 h_x0 h_x2 _ (lv_sub hl [0, 1] rfl) hw
  · have hw := hw.2 c1
    refine ml_lload_n (pc := 6) X hl 1 rfl rfl dX12_times_6 ?_
    refine ml_ldc2 (pc := 7) (v := 9000000000000000000) X dX12_times_7 tc_5_215 ?_
    refine ml_lload_n (pc := 10) X hl 0 rfl rfl dX12_times_10 ?_
    obtain ⟨z2, hw⟩ := hw
    refine ml_ldivW (pc := 11) X ⟨by decide, by decide⟩ h_x0 z2 dX12_times_11 ?_
    refine ml_lcmp_le (pc := 12) (tgt := 22) X h_x2 (w64_r _) dX12_times_12 dX12_times_13 (by decide) (fun c3 => ?_) (fun c3 => ?_)
    · have hw := hw.1 c3
      exact u_X12_times_22 X hn σ x0 x2 h_x0 h_x2 _ (lv_sub hl [0, 1] rfl) hw
    · have hw := hw.2 c3
      refine ml_ldc2 (pc := 16) (v := 9000000000000000000) X dX12_times_16 tc_5_215 ?_
      refine ml_goto (pc := 19) (tgt := 25) X dX12_times_19 (by decide) ?_
      exact u_X12_times_25 X hn σ 9000000000000000000 ⟨by decide, by decide⟩ _ (lv_sub hl [] rfl) hw
set_option maxRecDepth 100000 in
theorem c_X12_times (l : Launch) (base : Nat) (D : va_G) (cA : Nat → ClassId) (n : Nat) (hn : 256 ≤ n) (σ : ml_St) (x0 : Int) (x2 : Int) (h_x0 : I64 x0) (h_x2 : I64 x2) (Q : Int → ml_St → Prop) (hw : f_X12_times σ x0 x2 Q) : Met l yX12_times (Cond.code yX12_times cX12_times 4 (some .long) :: ml_T) rm_X12_times (va_Pc [.long (Int64.ofInt x0), .long (Int64.ofInt x2)] (ml_U base D cA n σ)) (ml_Ql base D cA n Q) 0 0 (ml_A base) := by
  refine Met.ofW (cc := cX12_times) (maxL := 4) (ret := (some .long)) (by decide) rfl ?_
  intro p e s m args below meth c s₁ B hml hv
  obtain ⟨rfl, hP, hK, hok, hro⟩ := hv
  have X : ml_X p s m c meth _ D cA cX12_times 4 RX12 (some .long) := ⟨B.exec, B.bytes, hml, findClass_of_methodNamed B.named, fun w hw => atoms_spec (ws := Cond.code yX12_times cX12_times 4 (some .long) :: ml_T) B.pre w (List.mem_cons_of_mem _ hw), hK, B.notSynchronized, B.returns⟩
  have hl := lv_entry [.long (Int64.ofInt x0), .long (Int64.ofInt x2)] (n := 4) (Nat.le_of_ble_eq_true rfl)
  rw [lg_entry_eq]
  generalize (lg_sl [.long (Int64.ofInt x0), .long (Int64.ofInt x2)] ++ List.replicate (4 - (lg_sl [.long (Int64.ofInt x0), .long (Int64.ofInt x2)]).length) Slot.unset).toArray = ls at hl ⊢
  have hl : lv_has ls 4 [(0, .long (Int64.ofInt x0)), (2, .long (Int64.ofInt x2))] := hl
  unfold f_X12_times at hw
  exact u_X12_times_0 X hn σ x0 x2 h_x0 h_x2 _ (lv_sub hl [0, 1] rfl) hw s.heap [] hP va_S.rf hok hro
theorem dX12_counts_0 : decode cX12_counts 0 = .ok (.iconst 0, 1) := by decide +kernel
theorem dX12_counts_1 : decode cX12_counts 1 = .ok (.istore_n 2, 1) := by decide +kernel
theorem dX12_counts_2 : decode cX12_counts 2 = .ok (.aload_n 0, 1) := by decide +kernel
theorem dX12_counts_3 : decode cX12_counts 3 = .ok (.iload_n 1, 1) := by decide +kernel
theorem dX12_counts_4 : decode cX12_counts 4 = .ok (.putfield 201, 3) := by decide +kernel
theorem dX12_counts_7 : decode cX12_counts 7 = .ok (.aload_n 0, 1) := by decide +kernel
theorem dX12_counts_8 : decode cX12_counts 8 = .ok (.iconst 0, 1) := by decide +kernel
theorem dX12_counts_9 : decode cX12_counts 9 = .ok (.putfield 198, 3) := by decide +kernel
theorem dX12_counts_12 : decode cX12_counts 12 = .ok (.aload_n 0, 1) := by decide +kernel
theorem dX12_counts_13 : decode cX12_counts 13 = .ok (.getfield 37, 3) := by decide +kernel
theorem dX12_counts_16 : decode cX12_counts 16 = .ok (.iconst 0, 1) := by decide +kernel
theorem dX12_counts_17 : decode cX12_counts 17 = .ok (.lconst 0, 1) := by decide +kernel
theorem dX12_counts_18 : decode cX12_counts 18 = .ok (.lastore, 1) := by decide +kernel
theorem dX12_counts_19 : decode cX12_counts 19 = .ok (.aload_n 0, 1) := by decide +kernel
theorem dX12_counts_20 : decode cX12_counts 20 = .ok (.getfield 40, 3) := by decide +kernel
theorem dX12_counts_23 : decode cX12_counts 23 = .ok (.iconst 0, 1) := by decide +kernel
theorem dX12_counts_24 : decode cX12_counts 24 = .ok (.lconst 0, 1) := by decide +kernel
theorem dX12_counts_25 : decode cX12_counts 25 = .ok (.lastore, 1) := by decide +kernel
theorem dX12_counts_26 : decode cX12_counts 26 = .ok (.aload_n 0, 1) := by decide +kernel
theorem dX12_counts_27 : decode cX12_counts 27 = .ok (.getfield 43, 3) := by decide +kernel
theorem dX12_counts_30 : decode cX12_counts 30 = .ok (.iconst 0, 1) := by decide +kernel
theorem dX12_counts_31 : decode cX12_counts 31 = .ok (.lconst 0, 1) := by decide +kernel
theorem dX12_counts_32 : decode cX12_counts 32 = .ok (.lastore, 1) := by decide +kernel
theorem dX12_counts_33 : decode cX12_counts 33 = .ok (.aload_n 0, 1) := by decide +kernel
theorem dX12_counts_34 : decode cX12_counts 34 = .ok (.getfield 46, 3) := by decide +kernel
theorem dX12_counts_37 : decode cX12_counts 37 = .ok (.iconst 0, 1) := by decide +kernel
theorem dX12_counts_38 : decode cX12_counts 38 = .ok (.lconst 0, 1) := by decide +kernel
theorem dX12_counts_39 : decode cX12_counts 39 = .ok (.lastore, 1) := by decide +kernel
theorem dX12_counts_40 : decode cX12_counts 40 = .ok (.aload_n 0, 1) := by decide +kernel
theorem dX12_counts_41 : decode cX12_counts 41 = .ok (.getfield 198, 3) := by decide +kernel
theorem dX12_counts_44 : decode cX12_counts 44 = .ok (.aload_n 0, 1) := by decide +kernel
theorem dX12_counts_45 : decode cX12_counts 45 = .ok (.getfield 24, 3) := by decide +kernel
theorem dX12_counts_48 : decode cX12_counts 48 = .ok (.iload_n 1, 1) := by decide +kernel
theorem dX12_counts_49 : decode cX12_counts 49 = .ok (.iaload, 1) := by decide +kernel
theorem dX12_counts_50 : decode cX12_counts 50 = .ok (.if_icmp .ge 297, 3) := by decide +kernel
theorem dX12_counts_53 : decode cX12_counts 53 = .ok (.aload_n 0, 1) := by decide +kernel
theorem dX12_counts_54 : decode cX12_counts 54 = .ok (.invokevirtual 204, 3) := by decide +kernel
theorem dX12_counts_57 : decode cX12_counts 57 = .ok (.istore_n 3, 1) := by decide +kernel
theorem dX12_counts_58 : decode cX12_counts 58 = .ok (.aload_n 0, 1) := by decide +kernel
theorem dX12_counts_59 : decode cX12_counts 59 = .ok (.dup, 1) := by decide +kernel
theorem dX12_counts_60 : decode cX12_counts 60 = .ok (.getfield 198, 3) := by decide +kernel
theorem dX12_counts_63 : decode cX12_counts 63 = .ok (.iconst 1, 1) := by decide +kernel
theorem dX12_counts_64 : decode cX12_counts 64 = .ok (.iadd, 1) := by decide +kernel
theorem dX12_counts_65 : decode cX12_counts 65 = .ok (.putfield 198, 3) := by decide +kernel
theorem dX12_counts_68 : decode cX12_counts 68 = .ok (.iload_n 3, 1) := by decide +kernel
theorem dX12_counts_69 : decode cX12_counts 69 = .ok (.bipush 42, 2) := by decide +kernel
theorem dX12_counts_71 : decode cX12_counts 71 = .ok (.if_icmp .ne 48, 3) := by decide +kernel
theorem dX12_counts_74 : decode cX12_counts 74 = .ok (.aload_n 0, 1) := by decide +kernel
theorem dX12_counts_75 : decode cX12_counts 75 = .ok (.invokevirtual 207, 3) := by decide +kernel
theorem dX12_counts_78 : decode cX12_counts 78 = .ok (.istore 4, 2) := by decide +kernel
theorem dX12_counts_80 : decode cX12_counts 80 = .ok (.aload_n 0, 1) := by decide +kernel
theorem dX12_counts_81 : decode cX12_counts 81 = .ok (.getfield 43, 3) := by decide +kernel
theorem dX12_counts_84 : decode cX12_counts 84 = .ok (.iload_n 2, 1) := by decide +kernel
theorem dX12_counts_85 : decode cX12_counts 85 = .ok (.aload_n 0, 1) := by decide +kernel
theorem dX12_counts_86 : decode cX12_counts 86 = .ok (.getfield 43, 3) := by decide +kernel
theorem dX12_counts_89 : decode cX12_counts 89 = .ok (.iload_n 2, 1) := by decide +kernel
theorem dX12_counts_90 : decode cX12_counts 90 = .ok (.laload, 1) := by decide +kernel
theorem dX12_counts_91 : decode cX12_counts 91 = .ok (.iload 4, 2) := by decide +kernel
theorem dX12_counts_93 : decode cX12_counts 93 = .ok (.i2l, 1) := by decide +kernel
theorem dX12_counts_94 : decode cX12_counts 94 = .ok (.invokestatic 210, 3) := by decide +kernel
theorem dX12_counts_97 : decode cX12_counts 97 = .ok (.lastore, 1) := by decide +kernel
theorem dX12_counts_98 : decode cX12_counts 98 = .ok (.aload_n 0, 1) := by decide +kernel
theorem dX12_counts_99 : decode cX12_counts 99 = .ok (.getfield 46, 3) := by decide +kernel
theorem dX12_counts_102 : decode cX12_counts 102 = .ok (.iload_n 2, 1) := by decide +kernel
theorem dX12_counts_103 : decode cX12_counts 103 = .ok (.aload_n 0, 1) := by decide +kernel
theorem dX12_counts_104 : decode cX12_counts 104 = .ok (.getfield 46, 3) := by decide +kernel
theorem dX12_counts_107 : decode cX12_counts 107 = .ok (.iload_n 2, 1) := by decide +kernel
theorem dX12_counts_108 : decode cX12_counts 108 = .ok (.laload, 1) := by decide +kernel
theorem dX12_counts_109 : decode cX12_counts 109 = .ok (.iload 4, 2) := by decide +kernel
theorem dX12_counts_111 : decode cX12_counts 111 = .ok (.i2l, 1) := by decide +kernel
theorem dX12_counts_112 : decode cX12_counts 112 = .ok (.invokestatic 210, 3) := by decide +kernel
theorem dX12_counts_115 : decode cX12_counts 115 = .ok (.lastore, 1) := by decide +kernel
theorem dX12_counts_116 : decode cX12_counts 116 = .ok (.goto (-76), 3) := by decide +kernel
theorem dX12_counts_119 : decode cX12_counts 119 = .ok (.aload_n 0, 1) := by decide +kernel
theorem dX12_counts_120 : decode cX12_counts 120 = .ok (.getfield 37, 3) := by decide +kernel
theorem dX12_counts_123 : decode cX12_counts 123 = .ok (.iload_n 2, 1) := by decide +kernel
theorem dX12_counts_124 : decode cX12_counts 124 = .ok (.aload_n 0, 1) := by decide +kernel
theorem dX12_counts_125 : decode cX12_counts 125 = .ok (.getfield 37, 3) := by decide +kernel
theorem dX12_counts_128 : decode cX12_counts 128 = .ok (.iload_n 2, 1) := by decide +kernel
theorem dX12_counts_129 : decode cX12_counts 129 = .ok (.laload, 1) := by decide +kernel
theorem dX12_counts_130 : decode cX12_counts 130 = .ok (.aload_n 0, 1) := by decide +kernel
theorem dX12_counts_131 : decode cX12_counts 131 = .ok (.getfield 43, 3) := by decide +kernel
theorem dX12_counts_134 : decode cX12_counts 134 = .ok (.iload_n 2, 1) := by decide +kernel
theorem dX12_counts_135 : decode cX12_counts 135 = .ok (.laload, 1) := by decide +kernel
theorem dX12_counts_136 : decode cX12_counts 136 = .ok (.invokestatic 214, 3) := by decide +kernel
theorem dX12_counts_139 : decode cX12_counts 139 = .ok (.lastore, 1) := by decide +kernel
theorem dX12_counts_140 : decode cX12_counts 140 = .ok (.aload_n 0, 1) := by decide +kernel
theorem dX12_counts_141 : decode cX12_counts 141 = .ok (.getfield 40, 3) := by decide +kernel
theorem dX12_counts_144 : decode cX12_counts 144 = .ok (.iload_n 2, 1) := by decide +kernel
theorem dX12_counts_145 : decode cX12_counts 145 = .ok (.aload_n 0, 1) := by decide +kernel
theorem dX12_counts_146 : decode cX12_counts 146 = .ok (.getfield 40, 3) := by decide +kernel
theorem dX12_counts_149 : decode cX12_counts 149 = .ok (.iload_n 2, 1) := by decide +kernel
theorem dX12_counts_150 : decode cX12_counts 150 = .ok (.laload, 1) := by decide +kernel
theorem dX12_counts_151 : decode cX12_counts 151 = .ok (.aload_n 0, 1) := by decide +kernel
theorem dX12_counts_152 : decode cX12_counts 152 = .ok (.getfield 46, 3) := by decide +kernel
theorem dX12_counts_155 : decode cX12_counts 155 = .ok (.iload_n 2, 1) := by decide +kernel
theorem dX12_counts_156 : decode cX12_counts 156 = .ok (.laload, 1) := by decide +kernel
theorem dX12_counts_157 : decode cX12_counts 157 = .ok (.invokestatic 214, 3) := by decide +kernel
theorem dX12_counts_160 : decode cX12_counts 160 = .ok (.lastore, 1) := by decide +kernel
theorem dX12_counts_161 : decode cX12_counts 161 = .ok (.iload_n 3, 1) := by decide +kernel
theorem dX12_counts_162 : decode cX12_counts 162 = .ok (.bipush 40, 2) := by decide +kernel
theorem dX12_counts_164 : decode cX12_counts 164 = .ok (.if_icmp .ne 51, 3) := by decide +kernel
theorem dX12_counts_167 : decode cX12_counts 167 = .ok (.aload_n 0, 1) := by decide +kernel
theorem dX12_counts_168 : decode cX12_counts 168 = .ok (.getfield 43, 3) := by decide +kernel
theorem dX12_counts_171 : decode cX12_counts 171 = .ok (.iload_n 2, 1) := by decide +kernel
theorem dX12_counts_172 : decode cX12_counts 172 = .ok (.lconst 0, 1) := by decide +kernel
theorem dX12_counts_173 : decode cX12_counts 173 = .ok (.lastore, 1) := by decide +kernel
theorem dX12_counts_174 : decode cX12_counts 174 = .ok (.aload_n 0, 1) := by decide +kernel
theorem dX12_counts_175 : decode cX12_counts 175 = .ok (.getfield 46, 3) := by decide +kernel
theorem dX12_counts_178 : decode cX12_counts 178 = .ok (.iload_n 2, 1) := by decide +kernel
theorem dX12_counts_179 : decode cX12_counts 179 = .ok (.lconst 0, 1) := by decide +kernel
theorem dX12_counts_180 : decode cX12_counts 180 = .ok (.lastore, 1) := by decide +kernel
theorem dX12_counts_181 : decode cX12_counts 181 = .ok (.iinc 2 1, 3) := by decide +kernel
theorem dX12_counts_184 : decode cX12_counts 184 = .ok (.aload_n 0, 1) := by decide +kernel
theorem dX12_counts_185 : decode cX12_counts 185 = .ok (.getfield 37, 3) := by decide +kernel
theorem dX12_counts_188 : decode cX12_counts 188 = .ok (.iload_n 2, 1) := by decide +kernel
theorem dX12_counts_189 : decode cX12_counts 189 = .ok (.lconst 0, 1) := by decide +kernel
theorem dX12_counts_190 : decode cX12_counts 190 = .ok (.lastore, 1) := by decide +kernel
theorem dX12_counts_191 : decode cX12_counts 191 = .ok (.aload_n 0, 1) := by decide +kernel
theorem dX12_counts_192 : decode cX12_counts 192 = .ok (.getfield 40, 3) := by decide +kernel
theorem dX12_counts_195 : decode cX12_counts 195 = .ok (.iload_n 2, 1) := by decide +kernel
theorem dX12_counts_196 : decode cX12_counts 196 = .ok (.lconst 0, 1) := by decide +kernel
theorem dX12_counts_197 : decode cX12_counts 197 = .ok (.lastore, 1) := by decide +kernel
theorem dX12_counts_198 : decode cX12_counts 198 = .ok (.aload_n 0, 1) := by decide +kernel
theorem dX12_counts_199 : decode cX12_counts 199 = .ok (.getfield 43, 3) := by decide +kernel
theorem dX12_counts_202 : decode cX12_counts 202 = .ok (.iload_n 2, 1) := by decide +kernel
theorem dX12_counts_203 : decode cX12_counts 203 = .ok (.lconst 0, 1) := by decide +kernel
theorem dX12_counts_204 : decode cX12_counts 204 = .ok (.lastore, 1) := by decide +kernel
theorem dX12_counts_205 : decode cX12_counts 205 = .ok (.aload_n 0, 1) := by decide +kernel
theorem dX12_counts_206 : decode cX12_counts 206 = .ok (.getfield 46, 3) := by decide +kernel
theorem dX12_counts_209 : decode cX12_counts 209 = .ok (.iload_n 2, 1) := by decide +kernel
theorem dX12_counts_210 : decode cX12_counts 210 = .ok (.lconst 0, 1) := by decide +kernel
theorem dX12_counts_211 : decode cX12_counts 211 = .ok (.lastore, 1) := by decide +kernel
theorem dX12_counts_212 : decode cX12_counts 212 = .ok (.goto 132, 3) := by decide +kernel
theorem dX12_counts_215 : decode cX12_counts 215 = .ok (.iload_n 3, 1) := by decide +kernel
theorem dX12_counts_216 : decode cX12_counts 216 = .ok (.bipush 41, 2) := by decide +kernel
theorem dX12_counts_218 : decode cX12_counts 218 = .ok (.if_icmp .ne 37, 3) := by decide +kernel
theorem dX12_counts_221 : decode cX12_counts 221 = .ok (.iinc 2 (-1), 3) := by decide +kernel
theorem dX12_counts_224 : decode cX12_counts 224 = .ok (.aload_n 0, 1) := by decide +kernel
theorem dX12_counts_225 : decode cX12_counts 225 = .ok (.getfield 43, 3) := by decide +kernel
theorem dX12_counts_228 : decode cX12_counts 228 = .ok (.iload_n 2, 1) := by decide +kernel
theorem dX12_counts_229 : decode cX12_counts 229 = .ok (.aload_n 0, 1) := by decide +kernel
theorem dX12_counts_230 : decode cX12_counts 230 = .ok (.getfield 37, 3) := by decide +kernel
theorem dX12_counts_233 : decode cX12_counts 233 = .ok (.iload_n 2, 1) := by decide +kernel
theorem dX12_counts_234 : decode cX12_counts 234 = .ok (.iconst 1, 1) := by decide +kernel
theorem dX12_counts_235 : decode cX12_counts 235 = .ok (.iadd, 1) := by decide +kernel
theorem dX12_counts_236 : decode cX12_counts 236 = .ok (.laload, 1) := by decide +kernel
theorem dX12_counts_237 : decode cX12_counts 237 = .ok (.lastore, 1) := by decide +kernel
theorem dX12_counts_238 : decode cX12_counts 238 = .ok (.aload_n 0, 1) := by decide +kernel
theorem dX12_counts_239 : decode cX12_counts 239 = .ok (.getfield 46, 3) := by decide +kernel
theorem dX12_counts_242 : decode cX12_counts 242 = .ok (.iload_n 2, 1) := by decide +kernel
theorem dX12_counts_243 : decode cX12_counts 243 = .ok (.aload_n 0, 1) := by decide +kernel
theorem dX12_counts_244 : decode cX12_counts 244 = .ok (.getfield 40, 3) := by decide +kernel
theorem dX12_counts_247 : decode cX12_counts 247 = .ok (.iload_n 2, 1) := by decide +kernel
theorem dX12_counts_248 : decode cX12_counts 248 = .ok (.iconst 1, 1) := by decide +kernel
theorem dX12_counts_249 : decode cX12_counts 249 = .ok (.iadd, 1) := by decide +kernel
theorem dX12_counts_250 : decode cX12_counts 250 = .ok (.laload, 1) := by decide +kernel
theorem dX12_counts_251 : decode cX12_counts 251 = .ok (.lastore, 1) := by decide +kernel
theorem dX12_counts_252 : decode cX12_counts 252 = .ok (.goto 92, 3) := by decide +kernel
theorem dX12_counts_255 : decode cX12_counts 255 = .ok (.iload_n 3, 1) := by decide +kernel
theorem dX12_counts_256 : decode cX12_counts 256 = .ok (.bipush 120, 2) := by decide +kernel
theorem dX12_counts_258 : decode cX12_counts 258 = .ok (.if_icmp .eq 9, 3) := by decide +kernel
theorem dX12_counts_261 : decode cX12_counts 261 = .ok (.iload_n 3, 1) := by decide +kernel
theorem dX12_counts_262 : decode cX12_counts 262 = .ok (.bipush 117, 2) := by decide +kernel
theorem dX12_counts_264 : decode cX12_counts 264 = .ok (.if_icmp .ne 50, 3) := by decide +kernel
theorem dX12_counts_267 : decode cX12_counts 267 = .ok (.aload_n 0, 1) := by decide +kernel
theorem dX12_counts_268 : decode cX12_counts 268 = .ok (.dup, 1) := by decide +kernel
theorem dX12_counts_269 : decode cX12_counts 269 = .ok (.getfield 198, 3) := by decide +kernel
theorem dX12_counts_272 : decode cX12_counts 272 = .ok (.iconst 1, 1) := by decide +kernel
theorem dX12_counts_273 : decode cX12_counts 273 = .ok (.iadd, 1) := by decide +kernel
theorem dX12_counts_274 : decode cX12_counts 274 = .ok (.putfield 198, 3) := by decide +kernel
theorem dX12_counts_277 : decode cX12_counts 277 = .ok (.aload_n 0, 1) := by decide +kernel
theorem dX12_counts_278 : decode cX12_counts 278 = .ok (.getfield 43, 3) := by decide +kernel
theorem dX12_counts_281 : decode cX12_counts 281 = .ok (.iload_n 2, 1) := by decide +kernel
theorem dX12_counts_282 : decode cX12_counts 282 = .ok (.iload_n 3, 1) := by decide +kernel
theorem dX12_counts_283 : decode cX12_counts 283 = .ok (.bipush 120, 2) := by decide +kernel
theorem dX12_counts_285 : decode cX12_counts 285 = .ok (.if_icmp .ne 7, 3) := by decide +kernel
theorem dX12_counts_288 : decode cX12_counts 288 = .ok (.lconst 1, 1) := by decide +kernel
theorem dX12_counts_289 : decode cX12_counts 289 = .ok (.goto 4, 3) := by decide +kernel
theorem dX12_counts_292 : decode cX12_counts 292 = .ok (.lconst 0, 1) := by decide +kernel
theorem dX12_counts_293 : decode cX12_counts 293 = .ok (.lastore, 1) := by decide +kernel
theorem dX12_counts_294 : decode cX12_counts 294 = .ok (.aload_n 0, 1) := by decide +kernel
theorem dX12_counts_295 : decode cX12_counts 295 = .ok (.getfield 46, 3) := by decide +kernel
theorem dX12_counts_298 : decode cX12_counts 298 = .ok (.iload_n 2, 1) := by decide +kernel
theorem dX12_counts_299 : decode cX12_counts 299 = .ok (.iload_n 3, 1) := by decide +kernel
theorem dX12_counts_300 : decode cX12_counts 300 = .ok (.bipush 117, 2) := by decide +kernel
theorem dX12_counts_302 : decode cX12_counts 302 = .ok (.if_icmp .ne 7, 3) := by decide +kernel
theorem dX12_counts_305 : decode cX12_counts 305 = .ok (.lconst 1, 1) := by decide +kernel
theorem dX12_counts_306 : decode cX12_counts 306 = .ok (.goto 4, 3) := by decide +kernel
theorem dX12_counts_309 : decode cX12_counts 309 = .ok (.lconst 0, 1) := by decide +kernel
theorem dX12_counts_310 : decode cX12_counts 310 = .ok (.lastore, 1) := by decide +kernel
theorem dX12_counts_311 : decode cX12_counts 311 = .ok (.goto 33, 3) := by decide +kernel
theorem dX12_counts_314 : decode cX12_counts 314 = .ok (.aload_n 0, 1) := by decide +kernel
theorem dX12_counts_315 : decode cX12_counts 315 = .ok (.getfield 43, 3) := by decide +kernel
theorem dX12_counts_318 : decode cX12_counts 318 = .ok (.iload_n 2, 1) := by decide +kernel
theorem dX12_counts_319 : decode cX12_counts 319 = .ok (.aload_n 0, 1) := by decide +kernel
theorem dX12_counts_320 : decode cX12_counts 320 = .ok (.getfield 30, 3) := by decide +kernel
theorem dX12_counts_323 : decode cX12_counts 323 = .ok (.iload_n 3, 1) := by decide +kernel
theorem dX12_counts_324 : decode cX12_counts 324 = .ok (.bipush 65, 2) := by decide +kernel
theorem dX12_counts_326 : decode cX12_counts 326 = .ok (.isub, 1) := by decide +kernel
theorem dX12_counts_327 : decode cX12_counts 327 = .ok (.laload, 1) := by decide +kernel
theorem dX12_counts_328 : decode cX12_counts 328 = .ok (.lastore, 1) := by decide +kernel
theorem dX12_counts_329 : decode cX12_counts 329 = .ok (.aload_n 0, 1) := by decide +kernel
theorem dX12_counts_330 : decode cX12_counts 330 = .ok (.getfield 46, 3) := by decide +kernel
theorem dX12_counts_333 : decode cX12_counts 333 = .ok (.iload_n 2, 1) := by decide +kernel
theorem dX12_counts_334 : decode cX12_counts 334 = .ok (.aload_n 0, 1) := by decide +kernel
theorem dX12_counts_335 : decode cX12_counts 335 = .ok (.getfield 34, 3) := by decide +kernel
theorem dX12_counts_338 : decode cX12_counts 338 = .ok (.iload_n 3, 1) := by decide +kernel
theorem dX12_counts_339 : decode cX12_counts 339 = .ok (.bipush 65, 2) := by decide +kernel
theorem dX12_counts_341 : decode cX12_counts 341 = .ok (.isub, 1) := by decide +kernel
theorem dX12_counts_342 : decode cX12_counts 342 = .ok (.laload, 1) := by decide +kernel
theorem dX12_counts_343 : decode cX12_counts 343 = .ok (.lastore, 1) := by decide +kernel
theorem dX12_counts_344 : decode cX12_counts 344 = .ok (.goto (-304), 3) := by decide +kernel
theorem dX12_counts_347 : decode cX12_counts 347 = .ok (.aload_n 0, 1) := by decide +kernel
theorem dX12_counts_348 : decode cX12_counts 348 = .ok (.getfield 30, 3) := by decide +kernel
theorem dX12_counts_351 : decode cX12_counts 351 = .ok (.iload_n 1, 1) := by decide +kernel
theorem dX12_counts_352 : decode cX12_counts 352 = .ok (.aload_n 0, 1) := by decide +kernel
theorem dX12_counts_353 : decode cX12_counts 353 = .ok (.getfield 37, 3) := by decide +kernel
theorem dX12_counts_356 : decode cX12_counts 356 = .ok (.iconst 0, 1) := by decide +kernel
theorem dX12_counts_357 : decode cX12_counts 357 = .ok (.laload, 1) := by decide +kernel
theorem dX12_counts_358 : decode cX12_counts 358 = .ok (.aload_n 0, 1) := by decide +kernel
theorem dX12_counts_359 : decode cX12_counts 359 = .ok (.getfield 43, 3) := by decide +kernel
theorem dX12_counts_362 : decode cX12_counts 362 = .ok (.iconst 0, 1) := by decide +kernel
theorem dX12_counts_363 : decode cX12_counts 363 = .ok (.laload, 1) := by decide +kernel
theorem dX12_counts_364 : decode cX12_counts 364 = .ok (.invokestatic 214, 3) := by decide +kernel
theorem dX12_counts_367 : decode cX12_counts 367 = .ok (.lastore, 1) := by decide +kernel
theorem dX12_counts_368 : decode cX12_counts 368 = .ok (.aload_n 0, 1) := by decide +kernel
theorem dX12_counts_369 : decode cX12_counts 369 = .ok (.getfield 34, 3) := by decide +kernel
theorem dX12_counts_372 : decode cX12_counts 372 = .ok (.iload_n 1, 1) := by decide +kernel
theorem dX12_counts_373 : decode cX12_counts 373 = .ok (.aload_n 0, 1) := by decide +kernel
theorem dX12_counts_374 : decode cX12_counts 374 = .ok (.getfield 40, 3) := by decide +kernel
theorem dX12_counts_377 : decode cX12_counts 377 = .ok (.iconst 0, 1) := by decide +kernel
theorem dX12_counts_378 : decode cX12_counts 378 = .ok (.laload, 1) := by decide +kernel
theorem dX12_counts_379 : decode cX12_counts 379 = .ok (.aload_n 0, 1) := by decide +kernel
theorem dX12_counts_380 : decode cX12_counts 380 = .ok (.getfield 46, 3) := by decide +kernel
theorem dX12_counts_383 : decode cX12_counts 383 = .ok (.iconst 0, 1) := by decide +kernel
theorem dX12_counts_384 : decode cX12_counts 384 = .ok (.laload, 1) := by decide +kernel
theorem dX12_counts_385 : decode cX12_counts 385 = .ok (.invokestatic 214, 3) := by decide +kernel
theorem dX12_counts_388 : decode cX12_counts 388 = .ok (.lastore, 1) := by decide +kernel
theorem dX12_counts_389 : decode cX12_counts 389 = .ok (.return_, 1) := by decide +kernel
def f_X12_counts_u344 (Q : ml_St → Prop) (K40 : ml_St → Int → Int → Prop) (σ : ml_St) (x1 : Int) (x2 : Int) : Prop :=
K40 σ x1 x2
def f_X12_counts_u310 (Q : ml_St → Prop) (K40 : ml_St → Int → Int → Prop) (σ : ml_St) (x1 : Int) (x2 : Int) (s1 : Int) (s2 : Int) : Prop :=
(0 : Int) ≤ s1 ∧ (s1 : Int) < 8 ∧
∀ σ1, σ1 = ml_up σ 226 s1 s2 →
f_X12_counts_u344 Q K40 σ1 x1 x2
def f_X12_counts_u293 (Q : ml_St → Prop) (K40 : ml_St → Int → Int → Prop) (σ : ml_St) (x1 : Int) (x2 : Int) (x3 : Int) (s1 : Int) (s2 : Int) : Prop :=
(0 : Int) ≤ s1 ∧ (s1 : Int) < 8 ∧
∀ σ1, σ1 = ml_up σ 225 s1 s2 →
(x3 ≠ 117 →
f_X12_counts_u310 Q K40 σ1 x1 x2 x2 0) ∧
(x3 = 117 →
f_X12_counts_u310 Q K40 σ1 x1 x2 x2 1)
def f_X12_counts_u267 (Q : ml_St → Prop) (K40 : ml_St → Int → Int → Prop) (σ : ml_St) (x1 : Int) (x2 : Int) (x3 : Int) : Prop :=
∀ _ : I32 (σ 215 19),
I32 ((σ 215 19) + 1) ∧
∀ σ3, σ3 = ml_up σ 215 19 ((σ 215 19) + 1) →
(x3 ≠ 120 →
f_X12_counts_u293 Q K40 σ3 x1 x2 x3 x2 0) ∧
(x3 = 120 →
f_X12_counts_u293 Q K40 σ3 x1 x2 x3 x2 1)
def f_X12_counts_u40 (Q : ml_St → Prop) (K347 : ml_St → Int → Prop) : Nat → ml_St → Int → Int → Prop
| 0, _, _, _ => False
| N + 1, σ, x1, x2 =>
∀ _ : I32 (σ 215 19),
(0 : Int) ≤ x1 ∧ (x1 : Int) < 16 ∧
∀ _ : I32 (σ 219 x1),
((σ 219 x1) ≤ ((σ 215 19) : Int) →
K347 σ x1) ∧
(¬ ((σ 219 x1) ≤ ((σ 215 19) : Int)) →
f_X12_read σ (fun r4 σ4 => ∀ _ : I32 r4,
∀ _ : I32 (σ4 215 19),
I32 ((σ4 215 19) + 1) ∧
∀ σ7, σ7 = ml_up σ4 215 19 ((σ4 215 19) + 1) →
(r4 ≠ 42 →
(0 : Int) ≤ x2 ∧ (x2 : Int) < 8 ∧
∀ _ : I64 (σ7 223 x2),
(0 : Int) ≤ x2 ∧ (x2 : Int) < 8 ∧
∀ _ : I64 (σ7 225 x2),
f_X12_plus σ7 (σ7 223 x2) (σ7 225 x2) (fun r11 σ11 => ∀ _ : I64 r11,
(0 : Int) ≤ x2 ∧ (x2 : Int) < 8 ∧
∀ σ12, σ12 = ml_up σ11 223 x2 r11 →
(0 : Int) ≤ x2 ∧ (x2 : Int) < 8 ∧
∀ _ : I64 (σ12 224 x2),
(0 : Int) ≤ x2 ∧ (x2 : Int) < 8 ∧
∀ _ : I64 (σ12 226 x2),
f_X12_plus σ12 (σ12 224 x2) (σ12 226 x2) (fun r15 σ15 => ∀ _ : I64 r15,
(0 : Int) ≤ x2 ∧ (x2 : Int) < 8 ∧
∀ σ16, σ16 = ml_up σ15 224 x2 r15 →
(r4 ≠ 40 →
(r4 ≠ 41 →
(r4 = 120 →
f_X12_counts_u267 Q (f_X12_counts_u40 Q K347 N) σ16 x1 x2 r4) ∧
(r4 ≠ 120 →
(r4 ≠ 117 →
I32 (r4 - 65) ∧
(0 : Int) ≤ (r4 - 65) ∧ ((r4 - 65) : Int) < 16 ∧
∀ _ : I64 (σ16 221 (r4 - 65)),
(0 : Int) ≤ x2 ∧ (x2 : Int) < 8 ∧
∀ σ23, σ23 = ml_up σ16 225 x2 (σ16 221 (r4 - 65)) →
I32 (r4 - 65) ∧
(0 : Int) ≤ (r4 - 65) ∧ ((r4 - 65) : Int) < 16 ∧
∀ _ : I64 (σ23 222 (r4 - 65)),
(0 : Int) ≤ x2 ∧ (x2 : Int) < 8 ∧
∀ σ26, σ26 = ml_up σ23 226 x2 (σ23 222 (r4 - 65)) →
f_X12_counts_u344 Q (f_X12_counts_u40 Q K347 N) σ26 x1 x2) ∧
(r4 = 117 →
f_X12_counts_u267 Q (f_X12_counts_u40 Q K347 N) σ16 x1 x2 r4))) ∧
(r4 = 41 →
I32 (x2 + (-1)) ∧
∀ y27 : Int, y27 = x2 + (-1) →
I32 (y27 + 1) ∧
(0 : Int) ≤ (y27 + 1) ∧ ((y27 + 1) : Int) < 8 ∧
∀ _ : I64 (σ16 223 (y27 + 1)),
(0 : Int) ≤ y27 ∧ (y27 : Int) < 8 ∧
∀ σ30, σ30 = ml_up σ16 225 y27 (σ16 223 (y27 + 1)) →
I32 (y27 + 1) ∧
(0 : Int) ≤ (y27 + 1) ∧ ((y27 + 1) : Int) < 8 ∧
∀ _ : I64 (σ30 224 (y27 + 1)),
(0 : Int) ≤ y27 ∧ (y27 : Int) < 8 ∧
∀ σ33, σ33 = ml_up σ30 226 y27 (σ30 224 (y27 + 1)) →
f_X12_counts_u344 Q (f_X12_counts_u40 Q K347 N) σ33 x1 y27)) ∧
(r4 = 40 →
(0 : Int) ≤ x2 ∧ (x2 : Int) < 8 ∧
∀ σ34, σ34 = ml_up σ16 225 x2 0 →
(0 : Int) ≤ x2 ∧ (x2 : Int) < 8 ∧
∀ σ35, σ35 = ml_up σ34 226 x2 0 →
I32 (x2 + 1) ∧
∀ y36 : Int, y36 = x2 + 1 →
(0 : Int) ≤ y36 ∧ (y36 : Int) < 8 ∧
∀ σ37, σ37 = ml_up σ35 223 y36 0 →
(0 : Int) ≤ y36 ∧ (y36 : Int) < 8 ∧
∀ σ38, σ38 = ml_up σ37 224 y36 0 →
(0 : Int) ≤ y36 ∧ (y36 : Int) < 8 ∧
∀ σ39, σ39 = ml_up σ38 225 y36 0 →
(0 : Int) ≤ y36 ∧ (y36 : Int) < 8 ∧
∀ σ40, σ40 = ml_up σ39 226 y36 0 →
f_X12_counts_u344 Q (f_X12_counts_u40 Q K347 N) σ40 x1 y36)))) ∧
(r4 = 42 →
f_X12_readNumber σ7 (fun r41 σ41 => ∀ _ : I32 r41,
(0 : Int) ≤ x2 ∧ (x2 : Int) < 8 ∧
∀ _ : I64 (σ41 225 x2),
f_X12_times σ41 (σ41 225 x2) r41 (fun r43 σ43 => ∀ _ : I64 r43,
(0 : Int) ≤ x2 ∧ (x2 : Int) < 8 ∧
∀ σ44, σ44 = ml_up σ43 225 x2 r43 →
(0 : Int) ≤ x2 ∧ (x2 : Int) < 8 ∧
∀ _ : I64 (σ44 226 x2),
f_X12_times σ44 (σ44 226 x2) r41 (fun r46 σ46 => ∀ _ : I64 r46,
(0 : Int) ≤ x2 ∧ (x2 : Int) < 8 ∧
∀ σ47, σ47 = ml_up σ46 226 x2 r46 →
f_X12_counts_u40 Q K347 N σ47 x1 x2))))))
def f_X12_counts_u347 (Q : ml_St → Prop) (σ : ml_St) (x1 : Int) : Prop :=
(0 : Int) ≤ 0 ∧ (0 : Int) < 8 ∧
∀ _ : I64 (σ 223 0),
(0 : Int) ≤ 0 ∧ (0 : Int) < 8 ∧
∀ _ : I64 (σ 225 0),
f_X12_plus σ (σ 223 0) (σ 225 0) (fun r3 σ3 => ∀ _ : I64 r3,
(0 : Int) ≤ x1 ∧ (x1 : Int) < 16 ∧
∀ σ4, σ4 = ml_up σ3 221 x1 r3 →
(0 : Int) ≤ 0 ∧ (0 : Int) < 8 ∧
∀ _ : I64 (σ4 224 0),
(0 : Int) ≤ 0 ∧ (0 : Int) < 8 ∧
∀ _ : I64 (σ4 226 0),
f_X12_plus σ4 (σ4 224 0) (σ4 226 0) (fun r7 σ7 => ∀ _ : I64 r7,
(0 : Int) ≤ x1 ∧ (x1 : Int) < 16 ∧
∀ σ8, σ8 = ml_up σ7 222 x1 r7 →
Q σ8))
def f_X12_counts_u0 (Q : ml_St → Prop) (σ : ml_St) (x1 : Int) : Prop :=
∀ σ1, σ1 = ml_up σ 215 20 x1 →
∀ σ2, σ2 = ml_up σ1 215 19 0 →
(0 : Int) ≤ 0 ∧ (0 : Int) < 8 ∧
∀ σ3, σ3 = ml_up σ2 223 0 0 →
(0 : Int) ≤ 0 ∧ (0 : Int) < 8 ∧
∀ σ4, σ4 = ml_up σ3 224 0 0 →
(0 : Int) ≤ 0 ∧ (0 : Int) < 8 ∧
∀ σ5, σ5 = ml_up σ4 225 0 0 →
(0 : Int) ≤ 0 ∧ (0 : Int) < 8 ∧
∀ σ6, σ6 = ml_up σ5 226 0 0 →
∃ N1, f_X12_counts_u40 Q (f_X12_counts_u347 Q) N1 σ6 x1 0
def f_X12_counts (σ : ml_St) (x1 : Int) (Q : ml_St → Prop) : Prop := f_X12_counts_u0 Q σ x1
def rm_X12_counts : Room := { frames := 2, cells := 0, slots := 0, locals := 41 }
set_option maxRecDepth 100000 in
set_option maxHeartbeats 4000000 in
theorem u_X12_counts_344 {p : Program} {e : Env} {s : State} {m : MethodId} {args : Array Value} {below : List Frame} {meth : Method} {c : Code} {base : Nat} {D : va_G} {cA : Nat → ClassId} {n : Nat} {l : Launch} {Q : ml_St → Prop} {K40 : ml_St → Int → Int → Prop} (X : ml_X p s m c meth args D cA cX12_counts 5 RX12 none) (hn : 256 ≤ n) (hK40 : ∀ (σ : ml_St) (x1 : Int) (x2 : Int) (h_x1 : I32 x1) (h_x2 : I32 x2) (ls : Array Slot), lv_has ls 5 [(0, .ref (base + (215 : Int).toNat)), (1, .int (Int32.ofInt x1)), (2, .int (Int32.ofInt x2))] → K40 σ x1 x2 → ml_V p l e rm_X12_counts s m args below meth c (MQ below (ml_Qv base D cA n Q) args s 0 0 (ml_A base)) base D cA 0 0 n n σ (F0 m 40 ls [])) (σ : ml_St) (x1 : Int) (x2 : Int) (h_x1 : I32 x1) (h_x2 : I32 x2) (ls : Array Slot) (hl : lv_has ls 5 [(0, .ref (base + (215 : Int).toNat)), (1, .int (Int32.ofInt x1)), (2, .int (Int32.ofInt x2))]) (hw : f_X12_counts_u344 Q K40 σ x1 x2) : ml_V p l e rm_X12_counts s m args below meth c (MQ below (ml_Qv base D cA n Q) args s 0 0 (ml_A base)) base D cA 0 0 n n σ (F0 m 344 ls []) := by
  unfold f_X12_counts_u344 at hw
  refine ml_goto (pc := 344) (tgt := 40) X dX12_counts_344 (by decide) ?_
  exact hK40 σ x1 x2 h_x1 h_x2 _ (lv_sub hl [0, 1, 2] rfl) hw
set_option maxRecDepth 100000 in
set_option maxHeartbeats 4000000 in
theorem u_X12_counts_310 {p : Program} {e : Env} {s : State} {m : MethodId} {args : Array Value} {below : List Frame} {meth : Method} {c : Code} {base : Nat} {D : va_G} {cA : Nat → ClassId} {n : Nat} {l : Launch} {Q : ml_St → Prop} {K40 : ml_St → Int → Int → Prop} (X : ml_X p s m c meth args D cA cX12_counts 5 RX12 none) (hn : 256 ≤ n) (hK40 : ∀ (σ : ml_St) (x1 : Int) (x2 : Int) (h_x1 : I32 x1) (h_x2 : I32 x2) (ls : Array Slot), lv_has ls 5 [(0, .ref (base + (215 : Int).toNat)), (1, .int (Int32.ofInt x1)), (2, .int (Int32.ofInt x2))] → K40 σ x1 x2 → ml_V p l e rm_X12_counts s m args below meth c (MQ below (ml_Qv base D cA n Q) args s 0 0 (ml_A base)) base D cA 0 0 n n σ (F0 m 40 ls [])) (σ : ml_St) (x1 : Int) (x2 : Int) (s1 : Int) (s2 : Int) (h_x1 : I32 x1) (h_x2 : I32 x2) (h_s1 : I32 s1) (h_s2 : I64 s2) (ls : Array Slot) (hl : lv_has ls 5 [(0, .ref (base + (215 : Int).toNat)), (1, .int (Int32.ofInt x1)), (2, .int (Int32.ofInt x2))]) (hw : f_X12_counts_u310 Q K40 σ x1 x2 s1 s2) : ml_V p l e rm_X12_counts s m args below meth c (MQ below (ml_Qv base D cA n Q) args s 0 0 (ml_A base)) base D cA 0 0 n n σ (F0 m 310 ls [.long (Int64.ofInt s2), .int (Int32.ofInt s1), .ref (base + (226 : Int).toNat)]) := by
  unfold f_X12_counts_u310 at hw
  obtain ⟨a1, b1, hw⟩ := hw
  refine ml_last (pc := 310) (N := 8) X (ml_c226 hn) a1 b1 h_s2 dX12_counts_310 (fun σ1 g1 => ?_)
  have hw := hw σ1 g1
  refine ml_goto (pc := 311) (tgt := 344) X dX12_counts_311 (by decide) ?_
  exact u_X12_counts_344 X hn hK40 σ1 x1 x2 h_x1 h_x2 _ (lv_sub hl [0, 1, 2] rfl) hw
set_option maxRecDepth 100000 in
set_option maxHeartbeats 4000000 in
theorem u_X12_counts_293 {p : Program} {e : Env} {s : State} {m : MethodId} {args : Array Value} {below : List Frame} {meth : Method} {c : Code} {base : Nat} {D : va_G} {cA : Nat → ClassId} {n : Nat} {l : Launch} {Q : ml_St → Prop} {K40 : ml_St → Int → Int → Prop} (X : ml_X p s m c meth args D cA cX12_counts 5 RX12 none) (hn : 256 ≤ n) (hK40 : ∀ (σ : ml_St) (x1 : Int) (x2 : Int) (h_x1 : I32 x1) (h_x2 : I32 x2) (ls : Array Slot), lv_has ls 5 [(0, .ref (base + (215 : Int).toNat)), (1, .int (Int32.ofInt x1)), (2, .int (Int32.ofInt x2))] → K40 σ x1 x2 → ml_V p l e rm_X12_counts s m args below meth c (MQ below (ml_Qv base D cA n Q) args s 0 0 (ml_A base)) base D cA 0 0 n n σ (F0 m 40 ls [])) (σ : ml_St) (x1 : Int) (x2 : Int) (x3 : Int) (s1 : Int) (s2 : Int) (h_x1 : I32 x1) (h_x2 : I32 x2) (h_x3 : I32 x3) (h_s1 : I32 s1) (h_s2 : I64 s2) (ls : Array Slot) (hl : lv_has ls 5 [(0, .ref (base + (215 : Int).toNat)), (1, .int (Int32.ofInt x1)), (2, .int (Int32.ofInt x2)), (3, .int (Int32.ofInt x3))]) (hw : f_X12_counts_u293 Q K40 σ x1 x2 x3 s1 s2) : ml_V p l e rm_X12_counts s m args below meth c (MQ below (ml_Qv base D cA n Q) args s 0 0 (ml_A base)) base D cA 0 0 n n σ (F0 m 293 ls [.long (Int64.ofInt s2), .int (Int32.ofInt s1), .ref (base + (225 : Int).toNat)]) := by
  unfold f_X12_counts_u293 at hw
  obtain ⟨a1, b1, hw⟩ := hw
  refine ml_last (pc := 293) (N := 8) X (ml_c225 hn) a1 b1 h_s2 dX12_counts_293 (fun σ1 g1 => ?_)
  have hw := hw σ1 g1
  refine ml_aload_n (pc := 294) X hl 0 rfl rfl dX12_counts_294 ?_
  refine gf_X12_46 (pc := 295) X (ml_c215 hn) dX12_counts_295 ?_
  refine ml_iload_n (pc := 298) X hl 2 rfl rfl dX12_counts_298 ?_
  refine ml_iload_n (pc := 299) X hl 3 rfl rfl dX12_counts_299 ?_
  refine ml_bipush (pc := 300) X dX12_counts_300 (by decide) ?_
  refine ml_icmp_ne (pc := 302) (tgt := 309) X h_x3 ⟨by decide, by decide⟩ dX12_counts_302 (by decide) (fun c2 => ?_) (fun c2 => ?_)
  · have hw := hw.1 c2
    refine ml_lconst0 (pc := 309) X dX12_counts_309 ?_
    exact u_X12_counts_310 X hn hK40 σ1 x1 x2 x2 0 h_x1 h_x2 h_x2 ⟨by decide, by decide⟩ _ (lv_sub hl [0, 1, 2] rfl) hw
  · have hw := hw.2 c2
    refine ml_lconst1 (pc := 305) X dX12_counts_305 ?_
    refine ml_goto (pc := 306) (tgt := 310) X dX12_counts_306 (by decide) ?_
    exact u_X12_counts_310 X hn hK40 σ1 x1 x2 x2 1 h_x1 h_x2 h_x2 ⟨by decide, by decide⟩ _ (lv_sub hl [0, 1, 2] rfl) hw
set_option maxRecDepth 100000 in
set_option maxHeartbeats 4000000 in
theorem u_X12_counts_267 {p : Program} {e : Env} {s : State} {m : MethodId} {args : Array Value} {below : List Frame} {meth : Method} {c : Code} {base : Nat} {D : va_G} {cA : Nat → ClassId} {n : Nat} {l : Launch} {Q : ml_St → Prop} {K40 : ml_St → Int → Int → Prop} (X : ml_X p s m c meth args D cA cX12_counts 5 RX12 none) (hn : 256 ≤ n) (hK40 : ∀ (σ : ml_St) (x1 : Int) (x2 : Int) (h_x1 : I32 x1) (h_x2 : I32 x2) (ls : Array Slot), lv_has ls 5 [(0, .ref (base + (215 : Int).toNat)), (1, .int (Int32.ofInt x1)), (2, .int (Int32.ofInt x2))] → K40 σ x1 x2 → ml_V p l e rm_X12_counts s m args below meth c (MQ below (ml_Qv base D cA n Q) args s 0 0 (ml_A base)) base D cA 0 0 n n σ (F0 m 40 ls [])) (σ : ml_St) (x1 : Int) (x2 : Int) (x3 : Int) (h_x1 : I32 x1) (h_x2 : I32 x2) (h_x3 : I32 x3) (ls : Array Slot) (hl : lv_has ls 5 [(0, .ref (base + (215 : Int).toNat)), (1, .int (Int32.ofInt x1)), (2, .int (Int32.ofInt x2)), (3, .int (Int32.ofInt x3))]) (hw : f_X12_counts_u267 Q K40 σ x1 x2 x3) : ml_V p l e rm_X12_counts s m args below meth c (MQ below (ml_Qv base D cA n Q) args s 0 0 (ml_A base)) base D cA 0 0 n n σ (F0 m 267 ls []) := by
  unfold f_X12_counts_u267 at hw
  refine ml_aload_n (pc := 267) X hl 0 rfl rfl dX12_counts_267 ?_
  refine ml_dup (pc := 268) X dX12_counts_268 rfl ?_
  refine gf_X12_198 (pc := 269) X (ml_c215 hn) dX12_counts_269 (fun r1 => ?_)
  have hw := hw r1
  refine ml_iconst (pc := 272) X dX12_counts_272 ?_
  obtain ⟨v2, hw⟩ := hw
  refine ml_iadd (pc := 273) X dX12_counts_273 ?_
  refine pf_X12_198 (pc := 274) X (ml_c215 hn) v2 dX12_counts_274 (fun σ3 g3 => ?_)
  have hw := hw σ3 g3
  refine ml_aload_n (pc := 277) X hl 0 rfl rfl dX12_counts_277 ?_
  refine gf_X12_43 (pc := 278) X (ml_c215 hn) dX12_counts_278 ?_
  refine ml_iload_n (pc := 281) X hl 2 rfl rfl dX12_counts_281 ?_
  refine ml_iload_n (pc := 282) X hl 3 rfl rfl dX12_counts_282 ?_
  refine ml_bipush (pc := 283) X dX12_counts_283 (by decide) ?_
  refine ml_icmp_ne (pc := 285) (tgt := 292) X h_x3 ⟨by decide, by decide⟩ dX12_counts_285 (by decide) (fun c4 => ?_) (fun c4 => ?_)
  · have hw := hw.1 c4
    refine ml_lconst0 (pc := 292) X dX12_counts_292 ?_
    exact u_X12_counts_293 X hn hK40 σ3 x1 x2 x3 x2 0 h_x1 h_x2 h_x3 h_x2 ⟨by decide, by decide⟩ _ (lv_sub hl [0, 1, 2, 3] rfl) hw
  · have hw := hw.2 c4
    refine ml_lconst1 (pc := 288) X dX12_counts_288 ?_
    refine ml_goto (pc := 289) (tgt := 293) X dX12_counts_289 (by decide) ?_
    exact u_X12_counts_293 X hn hK40 σ3 x1 x2 x3 x2 1 h_x1 h_x2 h_x3 h_x2 ⟨by decide, by decide⟩ _ (lv_sub hl [0, 1, 2, 3] rfl) hw
set_option maxRecDepth 100000 in
set_option maxHeartbeats 4000000 in
theorem u_X12_counts_40 {p : Program} {e : Env} {s : State} {m : MethodId} {args : Array Value} {below : List Frame} {meth : Method} {c : Code} {base : Nat} {D : va_G} {cA : Nat → ClassId} {n : Nat} {l : Launch} {Q : ml_St → Prop} {K347 : ml_St → Int → Prop} (X : ml_X p s m c meth args D cA cX12_counts 5 RX12 none) (hn : 256 ≤ n) (hK347 : ∀ (σ : ml_St) (x1 : Int) (h_x1 : I32 x1) (ls : Array Slot), lv_has ls 5 [(0, .ref (base + (215 : Int).toNat)), (1, .int (Int32.ofInt x1))] → K347 σ x1 → ml_V p l e rm_X12_counts s m args below meth c (MQ below (ml_Qv base D cA n Q) args s 0 0 (ml_A base)) base D cA 0 0 n n σ (F0 m 347 ls [])) : ∀ (N : Nat) (σ : ml_St) (x1 : Int) (x2 : Int) (h_x1 : I32 x1) (h_x2 : I32 x2) (ls : Array Slot), lv_has ls 5 [(0, .ref (base + (215 : Int).toNat)), (1, .int (Int32.ofInt x1)), (2, .int (Int32.ofInt x2))] → f_X12_counts_u40 Q K347 N σ x1 x2 → ml_V p l e rm_X12_counts s m args below meth c (MQ below (ml_Qv base D cA n Q) args s 0 0 (ml_A base)) base D cA 0 0 n n σ (F0 m 40 ls []) := by
  intro N
  induction N with
  | zero => intro σ x1 x2 h_x1 h_x2 ls hl hw; exact False.elim hw
  | succ N ih =>
    intro σ x1 x2 h_x1 h_x2 ls hl hw
    unfold f_X12_counts_u40 at hw
    refine ml_aload_n (pc := 40) X hl 0 rfl rfl dX12_counts_40 ?_
    refine gf_X12_198 (pc := 41) X (ml_c215 hn) dX12_counts_41 (fun r1 => ?_)
    have hw := hw r1
    refine ml_aload_n (pc := 44) X hl 0 rfl rfl dX12_counts_44 ?_
    refine gf_X12_24 (pc := 45) X (ml_c215 hn) dX12_counts_45 ?_
    refine ml_iload_n (pc := 48) X hl 1 rfl rfl dX12_counts_48 ?_
    obtain ⟨a2, b2, hw⟩ := hw
    refine ml_iald (pc := 49) (N := 16) X (ml_c219 hn) a2 b2 dX12_counts_49 (fun r2 => ?_)
    have hw := hw r2
    refine ml_icmp_ge (pc := 50) (tgt := 347) X r1 r2 dX12_counts_50 (by decide) (fun c3 => ?_) (fun c3 => ?_)
    · have hw := hw.1 c3
      exact hK347 σ x1 h_x1 _ (lv_sub hl [0, 1] rfl) hw
    · have hw := hw.2 c3
      refine ml_aload_n (pc := 53) X hl 0 rfl rfl dX12_counts_53 ?_
      refine ml_calliV (pc := 54) (rest := []) X [] (by decide) rfl (ml_c215 hn) (c_X12_read l base D cA n hn σ _ hw) cv_X12_204 ⟨rfl, rfl⟩ ⟨by decide, by decide⟩ rfl rfl hl (Nat.le_of_ble_eq_true rfl) ⟨Nat.zero_le _, Nat.zero_le _⟩ dX12_counts_54 (fun r4 σ4 t4 hw => ?_)
      have hw := hw t4
      refine ml_istore_n (pc := 57) X rfl hl (by decide) (lst' := [(3, .int (Int32.ofInt r4)), (0, .ref (base + (215 : Int).toNat)), (1, .int (Int32.ofInt x1)), (2, .int (Int32.ofInt x2))]) rfl dX12_counts_57 (fun ls hl => ?_)
      refine ml_aload_n (pc := 58) X hl 1 rfl rfl dX12_counts_58 ?_
      refine ml_dup (pc := 59) X dX12_counts_59 rfl ?_
      refine gf_X12_198 (pc := 60) X (ml_c215 hn) dX12_counts_60 (fun r5 => ?_)
      have hw := hw r5
      refine ml_iconst (pc := 63) X dX12_counts_63 ?_
      obtain ⟨v6, hw⟩ := hw
      refine ml_iadd (pc := 64) X dX12_counts_64 ?_
      refine pf_X12_198 (pc := 65) X (ml_c215 hn) v6 dX12_counts_65 (fun σ7 g7 => ?_)
      have hw := hw σ7 g7
      refine ml_iload_n (pc := 68) X hl 0 rfl rfl dX12_counts_68 ?_
      refine ml_bipush (pc := 69) X dX12_counts_69 (by decide) ?_
      refine ml_icmp_ne (pc := 71) (tgt := 119) X t4 ⟨by decide, by decide⟩ dX12_counts_71 (by decide) (fun c8 => ?_) (fun c8 => ?_)
      · have hw := hw.1 c8
        refine ml_aload_n (pc := 119) X hl 1 rfl rfl dX12_counts_119 ?_
        refine gf_X12_37 (pc := 120) X (ml_c215 hn) dX12_counts_120 ?_
        refine ml_iload_n (pc := 123) X hl 3 rfl rfl dX12_counts_123 ?_
        refine ml_aload_n (pc := 124) X hl 1 rfl rfl dX12_counts_124 ?_
        refine gf_X12_37 (pc := 125) X (ml_c215 hn) dX12_counts_125 ?_
        refine ml_iload_n (pc := 128) X hl 3 rfl rfl dX12_counts_128 ?_
        obtain ⟨a9, b9, hw⟩ := hw
        refine ml_lald (pc := 129) (N := 8) X (ml_c223 hn) a9 b9 dX12_counts_129 (fun r9 => ?_)
        have hw := hw r9
        refine ml_aload_n (pc := 130) X hl 1 rfl rfl dX12_counts_130 ?_
        refine gf_X12_43 (pc := 131) X (ml_c215 hn) dX12_counts_131 ?_
        refine ml_iload_n (pc := 134) X hl 3 rfl rfl dX12_counts_134 ?_
        obtain ⟨a10, b10, hw⟩ := hw
        refine ml_lald (pc := 135) (N := 8) X (ml_c225 hn) a10 b10 dX12_counts_135 (fun r10 => ?_)
        have hw := hw r10
        refine ml_calllS (pc := 136) (rest := [.int (Int32.ofInt x2), .ref (base + (223 : Int).toNat)]) X [.long (Int64.ofInt (σ7 223 x2)), .long (Int64.ofInt (σ7 225 x2))] (c_X12_plus l base D cA n hn σ7 (σ7 223 x2) (σ7 225 x2) r9 r10 _ hw) cv_X12_214 ⟨rfl, rfl⟩ ⟨by decide, by decide⟩ rfl rfl hl (Nat.le_of_ble_eq_true rfl) ⟨Nat.zero_le _, Nat.zero_le _⟩ dX12_counts_136 (fun r11 σ11 t11 hw => ?_)
        have hw := hw t11
        obtain ⟨a12, b12, hw⟩ := hw
        refine ml_last (pc := 139) (N := 8) X (ml_c223 hn) a12 b12 t11 dX12_counts_139 (fun σ12 g12 => ?_)
        have hw := hw σ12 g12
        refine ml_aload_n (pc := 140) X hl 1 rfl rfl dX12_counts_140 ?_
        refine gf_X12_40 (pc := 141) X (ml_c215 hn) dX12_counts_141 ?_
        refine ml_iload_n (pc := 144) X hl 3 rfl rfl dX12_counts_144 ?_
        refine ml_aload_n (pc := 145) X hl 1 rfl rfl dX12_counts_145 ?_
        refine gf_X12_40 (pc := 146) X (ml_c215 hn) dX12_counts_146 ?_
        refine ml_iload_n (pc := 149) X hl 3 rfl rfl dX12_counts_149 ?_
        obtain ⟨a13, b13, hw⟩ := hw
        refine ml_lald (pc := 150) (N := 8) X (ml_c224 hn) a13 b13 dX12_counts_150 (fun r13 => ?_)
        have hw := hw r13
        refine ml_aload_n (pc := 151) X hl 1 rfl rfl dX12_counts_151 ?_
        refine gf_X12_46 (pc := 152) X (ml_c215 hn) dX12_counts_152 ?_
        refine ml_iload_n (pc := 155) X hl 3 rfl rfl dX12_counts_155 ?_
        obtain ⟨a14, b14, hw⟩ := hw
        refine ml_lald (pc := 156) (N := 8) X (ml_c226 hn) a14 b14 dX12_counts_156 (fun r14 => ?_)
        have hw := hw r14
        refine ml_calllS (pc := 157) (rest := [.int (Int32.ofInt x2), .ref (base + (224 : Int).toNat)]) X [.long (Int64.ofInt (σ12 224 x2)), .long (Int64.ofInt (σ12 226 x2))] (c_X12_plus l base D cA n hn σ12 (σ12 224 x2) (σ12 226 x2) r13 r14 _ hw) cv_X12_214 ⟨rfl, rfl⟩ ⟨by decide, by decide⟩ rfl rfl hl (Nat.le_of_ble_eq_true rfl) ⟨Nat.zero_le _, Nat.zero_le _⟩ dX12_counts_157 (fun r15 σ15 t15 hw => ?_)
        have hw := hw t15
        obtain ⟨a16, b16, hw⟩ := hw
        refine ml_last (pc := 160) (N := 8) X (ml_c224 hn) a16 b16 t15 dX12_counts_160 (fun σ16 g16 => ?_)
        have hw := hw σ16 g16
        refine ml_iload_n (pc := 161) X hl 0 rfl rfl dX12_counts_161 ?_
        refine ml_bipush (pc := 162) X dX12_counts_162 (by decide) ?_
        refine ml_icmp_ne (pc := 164) (tgt := 215) X t4 ⟨by decide, by decide⟩ dX12_counts_164 (by decide) (fun c17 => ?_) (fun c17 => ?_)
        · have hw := hw.1 c17
          refine ml_iload_n (pc := 215) X hl 0 rfl rfl dX12_counts_215 ?_
          refine ml_bipush (pc := 216) X dX12_counts_216 (by decide) ?_
          refine ml_icmp_ne (pc := 218) (tgt := 255) X t4 ⟨by decide, by decide⟩ dX12_counts_218 (by decide) (fun c18 => ?_) (fun c18 => ?_)
          · have hw := hw.1 c18
            refine ml_iload_n (pc := 255) X hl 0 rfl rfl dX12_counts_255 ?_
            refine ml_bipush (pc := 256) X dX12_counts_256 (by decide) ?_
            refine ml_icmp_eq (pc := 258) (tgt := 267) X t4 ⟨by decide, by decide⟩ dX12_counts_258 (by decide) (fun c19 => ?_) (fun c19 => ?_)
            · have hw := hw.1 c19
              exact u_X12_counts_267 X hn ih σ16 x1 x2 r4 h_x1 h_x2 t4 _ (lv_sub hl [1, 2, 3, 0] rfl) hw
            · have hw := hw.2 c19
              refine ml_iload_n (pc := 261) X hl 0 rfl rfl dX12_counts_261 ?_
              refine ml_bipush (pc := 262) X dX12_counts_262 (by decide) ?_
              refine ml_icmp_ne (pc := 264) (tgt := 314) X t4 ⟨by decide, by decide⟩ dX12_counts_264 (by decide) (fun c20 => ?_) (fun c20 => ?_)
              · have hw := hw.1 c20
                refine ml_aload_n (pc := 314) X hl 1 rfl rfl dX12_counts_314 ?_
                refine gf_X12_43 (pc := 315) X (ml_c215 hn) dX12_counts_315 ?_
                refine ml_iload_n (pc := 318) X hl 3 rfl rfl dX12_counts_318 ?_
                refine ml_aload_n (pc := 319) X hl 1 rfl rfl dX12_counts_319 ?_
                refine gf_X12_30 (pc := 320) X (ml_c215 hn) dX12_counts_320 ?_
                refine ml_iload_n (pc := 323) X hl 0 rfl rfl dX12_counts_323 ?_
                refine ml_bipush (pc := 324) X dX12_counts_324 (by decide) ?_
                obtain ⟨v21, hw⟩ := hw
                refine ml_isub (pc := 326) X dX12_counts_326 ?_
                obtain ⟨a22, b22, hw⟩ := hw
                refine ml_lald (pc := 327) (N := 16) X (ml_c221 hn) a22 b22 dX12_counts_327 (fun r22 => ?_)
                have hw := hw r22
                obtain ⟨a23, b23, hw⟩ := hw
                refine ml_last (pc := 328) (N := 8) X (ml_c225 hn) a23 b23 r22 dX12_counts_328 (fun σ23 g23 => ?_)
                have hw := hw σ23 g23
                refine ml_aload_n (pc := 329) X hl 1 rfl rfl dX12_counts_329 ?_
                refine gf_X12_46 (pc := 330) X (ml_c215 hn) dX12_counts_330 ?_
                refine ml_iload_n (pc := 333) X hl 3 rfl rfl dX12_counts_333 ?_
                refine ml_aload_n (pc := 334) X hl 1 rfl rfl dX12_counts_334 ?_
                refine gf_X12_34 (pc := 335) X (ml_c215 hn) dX12_counts_335 ?_
                refine ml_iload_n (pc := 338) X hl 0 rfl rfl dX12_counts_338 ?_
                refine ml_bipush (pc := 339) X dX12_counts_339 (by decide) ?_
                obtain ⟨v24, hw⟩ := hw
                refine ml_isub (pc := 341) X dX12_counts_341 ?_
                obtain ⟨a25, b25, hw⟩ := hw
                refine ml_lald (pc := 342) (N := 16) X (ml_c222 hn) a25 b25 dX12_counts_342 (fun r25 => ?_)
                have hw := hw r25
                obtain ⟨a26, b26, hw⟩ := hw
                refine ml_last (pc := 343) (N := 8) X (ml_c226 hn) a26 b26 r25 dX12_counts_343 (fun σ26 g26 => ?_)
                have hw := hw σ26 g26
                exact u_X12_counts_344 X hn ih σ26 x1 x2 h_x1 h_x2 _ (lv_sub hl [1, 2, 3] rfl) hw
              · have hw := hw.2 c20
                exact u_X12_counts_267 X hn ih σ16 x1 x2 r4 h_x1 h_x2 t4 _ (lv_sub hl [1, 2, 3, 0] rfl) hw
          · have hw := hw.2 c18
            obtain ⟨v27, hw⟩ := hw
            obtain ⟨y27, e27⟩ : ∃ y : Int, y = x2 + (-1) := ⟨_, rfl⟩
            have hw := hw y27 e27
            rw [← e27] at v27
            refine ml_iinc (pc := 221) X e27 hl 3 rfl (by decide) (lst' := [(2, .int (Int32.ofInt y27)), (3, .int (Int32.ofInt r4)), (0, .ref (base + (215 : Int).toNat)), (1, .int (Int32.ofInt x1))]) rfl dX12_counts_221 (fun ls hl => ?_)
            refine ml_aload_n (pc := 224) X hl 2 rfl rfl dX12_counts_224 ?_
            refine gf_X12_43 (pc := 225) X (ml_c215 hn) dX12_counts_225 ?_
            refine ml_iload_n (pc := 228) X hl 0 rfl rfl dX12_counts_228 ?_
            refine ml_aload_n (pc := 229) X hl 2 rfl rfl dX12_counts_229 ?_
            refine gf_X12_37 (pc := 230) X (ml_c215 hn) dX12_counts_230 ?_
            refine ml_iload_n (pc := 233) X hl 0 rfl rfl dX12_counts_233 ?_
            refine ml_iconst (pc := 234) X dX12_counts_234 ?_
            obtain ⟨v28, hw⟩ := hw
            refine ml_iadd (pc := 235) X dX12_counts_235 ?_
            obtain ⟨a29, b29, hw⟩ := hw
            refine ml_lald (pc := 236) (N := 8) X (ml_c223 hn) a29 b29 dX12_counts_236 (fun r29 => ?_)
            have hw := hw r29
            obtain ⟨a30, b30, hw⟩ := hw
            refine ml_last (pc := 237) (N := 8) X (ml_c225 hn) a30 b30 r29 dX12_counts_237 (fun σ30 g30 => ?_)
            have hw := hw σ30 g30
            refine ml_aload_n (pc := 238) X hl 2 rfl rfl dX12_counts_238 ?_
            refine gf_X12_46 (pc := 239) X (ml_c215 hn) dX12_counts_239 ?_
            refine ml_iload_n (pc := 242) X hl 0 rfl rfl dX12_counts_242 ?_
            refine ml_aload_n (pc := 243) X hl 2 rfl rfl dX12_counts_243 ?_
            refine gf_X12_40 (pc := 244) X (ml_c215 hn) dX12_counts_244 ?_
            refine ml_iload_n (pc := 247) X hl 0 rfl rfl dX12_counts_247 ?_
            refine ml_iconst (pc := 248) X dX12_counts_248 ?_
            obtain ⟨v31, hw⟩ := hw
            refine ml_iadd (pc := 249) X dX12_counts_249 ?_
            obtain ⟨a32, b32, hw⟩ := hw
            refine ml_lald (pc := 250) (N := 8) X (ml_c224 hn) a32 b32 dX12_counts_250 (fun r32 => ?_)
            have hw := hw r32
            obtain ⟨a33, b33, hw⟩ := hw
            refine ml_last (pc := 251) (N := 8) X (ml_c226 hn) a33 b33 r32 dX12_counts_251 (fun σ33 g33 => ?_)
            have hw := hw σ33 g33
            refine ml_goto (pc := 252) (tgt := 344) X dX12_counts_252 (by decide) ?_
            exact u_X12_counts_344 X hn ih σ33 x1 y27 h_x1 v27 _ (lv_sub hl [2, 3, 0] rfl) hw
        · have hw := hw.2 c17
          refine ml_aload_n (pc := 167) X hl 1 rfl rfl dX12_counts_167 ?_
          refine gf_X12_43 (pc := 168) X (ml_c215 hn) dX12_counts_168 ?_
          refine ml_iload_n (pc := 171) X hl 3 rfl rfl dX12_counts_171 ?_
          refine ml_lconst0 (pc := 172) X dX12_counts_172 ?_
          obtain ⟨a34, b34, hw⟩ := hw
          refine ml_last (pc := 173) (N := 8) X (ml_c225 hn) a34 b34 ⟨by decide, by decide⟩ dX12_counts_173 (fun σ34 g34 => ?_)
          have hw := hw σ34 g34
          refine ml_aload_n (pc := 174) X hl 1 rfl rfl dX12_counts_174 ?_
          refine gf_X12_46 (pc := 175) X (ml_c215 hn) dX12_counts_175 ?_
          refine ml_iload_n (pc := 178) X hl 3 rfl rfl dX12_counts_178 ?_
          refine ml_lconst0 (pc := 179) X dX12_counts_179 ?_
          obtain ⟨a35, b35, hw⟩ := hw
          refine ml_last (pc := 180) (N := 8) X (ml_c226 hn) a35 b35 ⟨by decide, by decide⟩ dX12_counts_180 (fun σ35 g35 => ?_)
          have hw := hw σ35 g35
          obtain ⟨v36, hw⟩ := hw
          obtain ⟨y36, e36⟩ : ∃ y : Int, y = x2 + 1 := ⟨_, rfl⟩
          have hw := hw y36 e36
          rw [← e36] at v36
          refine ml_iinc (pc := 181) X e36 hl 3 rfl (by decide) (lst' := [(2, .int (Int32.ofInt y36)), (3, .int (Int32.ofInt r4)), (0, .ref (base + (215 : Int).toNat)), (1, .int (Int32.ofInt x1))]) rfl dX12_counts_181 (fun ls hl => ?_)
          refine ml_aload_n (pc := 184) X hl 2 rfl rfl dX12_counts_184 ?_
          refine gf_X12_37 (pc := 185) X (ml_c215 hn) dX12_counts_185 ?_
          refine ml_iload_n (pc := 188) X hl 0 rfl rfl dX12_counts_188 ?_
          refine ml_lconst0 (pc := 189) X dX12_counts_189 ?_
          obtain ⟨a37, b37, hw⟩ := hw
          refine ml_last (pc := 190) (N := 8) X (ml_c223 hn) a37 b37 ⟨by decide, by decide⟩ dX12_counts_190 (fun σ37 g37 => ?_)
          have hw := hw σ37 g37
          refine ml_aload_n (pc := 191) X hl 2 rfl rfl dX12_counts_191 ?_
          refine gf_X12_40 (pc := 192) X (ml_c215 hn) dX12_counts_192 ?_
          refine ml_iload_n (pc := 195) X hl 0 rfl rfl dX12_counts_195 ?_
          refine ml_lconst0 (pc := 196) X dX12_counts_196 ?_
          obtain ⟨a38, b38, hw⟩ := hw
          refine ml_last (pc := 197) (N := 8) X (ml_c224 hn) a38 b38 ⟨by decide, by decide⟩ dX12_counts_197 (fun σ38 g38 => ?_)
          have hw := hw σ38 g38
          refine ml_aload_n (pc := 198) X hl 2 rfl rfl dX12_counts_198 ?_
          refine gf_X12_43 (pc := 199) X (ml_c215 hn) dX12_counts_199 ?_
          refine ml_iload_n (pc := 202) X hl 0 rfl rfl dX12_counts_202 ?_
          refine ml_lconst0 (pc := 203) X dX12_counts_203 ?_
          obtain ⟨a39, b39, hw⟩ := hw
          refine ml_last (pc := 204) (N := 8) X (ml_c225 hn) a39 b39 ⟨by decide, by decide⟩ dX12_counts_204 (fun σ39 g39 => ?_)
          have hw := hw σ39 g39
          refine ml_aload_n (pc := 205) X hl 2 rfl rfl dX12_counts_205 ?_
          refine gf_X12_46 (pc := 206) X (ml_c215 hn) dX12_counts_206 ?_
          refine ml_iload_n (pc := 209) X hl 0 rfl rfl dX12_counts_209 ?_
          refine ml_lconst0 (pc := 210) X dX12_counts_210 ?_
          obtain ⟨a40, b40, hw⟩ := hw
          refine ml_last (pc := 211) (N := 8) X (ml_c226 hn) a40 b40 ⟨by decide, by decide⟩ dX12_counts_211 (fun σ40 g40 => ?_)
          have hw := hw σ40 g40
          refine ml_goto (pc := 212) (tgt := 344) X dX12_counts_212 (by decide) ?_
          exact u_X12_counts_344 X hn ih σ40 x1 y36 h_x1 v36 _ (lv_sub hl [2, 3, 0] rfl) hw
      · have hw := hw.2 c8
        refine ml_aload_n (pc := 74) X hl 1 rfl rfl dX12_counts_74 ?_
        refine ml_calliV (pc := 75) (rest := []) X [] (by decide) rfl (ml_c215 hn) (c_X12_readNumber l base D cA n hn σ7 _ hw) cv_X12_207 ⟨rfl, rfl⟩ ⟨by decide, by decide⟩ rfl rfl hl (Nat.le_of_ble_eq_true rfl) ⟨Nat.zero_le _, Nat.zero_le _⟩ dX12_counts_75 (fun r41 σ41 t41 hw => ?_)
        have hw := hw t41
        refine ml_istore (pc := 78) X hl (by decide) (lst' := [(4, .int (Int32.ofInt r41)), (3, .int (Int32.ofInt r4)), (0, .ref (base + (215 : Int).toNat)), (1, .int (Int32.ofInt x1)), (2, .int (Int32.ofInt x2))]) rfl dX12_counts_78 (fun ls hl => ?_)
        refine ml_aload_n (pc := 80) X hl 2 rfl rfl dX12_counts_80 ?_
        refine gf_X12_43 (pc := 81) X (ml_c215 hn) dX12_counts_81 ?_
        refine ml_iload_n (pc := 84) X hl 4 rfl rfl dX12_counts_84 ?_
        refine ml_aload_n (pc := 85) X hl 2 rfl rfl dX12_counts_85 ?_
        refine gf_X12_43 (pc := 86) X (ml_c215 hn) dX12_counts_86 ?_
        refine ml_iload_n (pc := 89) X hl 4 rfl rfl dX12_counts_89 ?_
        obtain ⟨a42, b42, hw⟩ := hw
        refine ml_lald (pc := 90) (N := 8) X (ml_c225 hn) a42 b42 dX12_counts_90 (fun r42 => ?_)
        have hw := hw r42
        refine ml_iload (pc := 91) X hl 0 rfl dX12_counts_91 ?_
        refine ml_i2l (pc := 93) X t41 dX12_counts_93 ?_
        refine ml_calllS (pc := 94) (rest := [.int (Int32.ofInt x2), .ref (base + (225 : Int).toNat)]) X [.long (Int64.ofInt (σ41 225 x2)), .long (Int64.ofInt r41)] (c_X12_times l base D cA n hn σ41 (σ41 225 x2) r41 r42 (t41).l _ hw) cv_X12_210 ⟨rfl, rfl⟩ ⟨by decide, by decide⟩ rfl rfl hl (Nat.le_of_ble_eq_true rfl) ⟨Nat.zero_le _, Nat.zero_le _⟩ dX12_counts_94 (fun r43 σ43 t43 hw => ?_)
        have hw := hw t43
        obtain ⟨a44, b44, hw⟩ := hw
        refine ml_last (pc := 97) (N := 8) X (ml_c225 hn) a44 b44 t43 dX12_counts_97 (fun σ44 g44 => ?_)
        have hw := hw σ44 g44
        refine ml_aload_n (pc := 98) X hl 2 rfl rfl dX12_counts_98 ?_
        refine gf_X12_46 (pc := 99) X (ml_c215 hn) dX12_counts_99 ?_
        refine ml_iload_n (pc := 102) X hl 4 rfl rfl dX12_counts_102 ?_
        refine ml_aload_n (pc := 103) X hl 2 rfl rfl dX12_counts_103 ?_
        refine gf_X12_46 (pc := 104) X (ml_c215 hn) dX12_counts_104 ?_
        refine ml_iload_n (pc := 107) X hl 4 rfl rfl dX12_counts_107 ?_
        obtain ⟨a45, b45, hw⟩ := hw
        refine ml_lald (pc := 108) (N := 8) X (ml_c226 hn) a45 b45 dX12_counts_108 (fun r45 => ?_)
        have hw := hw r45
        refine ml_iload (pc := 109) X hl 0 rfl dX12_counts_109 ?_
        refine ml_i2l (pc := 111) X t41 dX12_counts_111 ?_
        refine ml_calllS (pc := 112) (rest := [.int (Int32.ofInt x2), .ref (base + (226 : Int).toNat)]) X [.long (Int64.ofInt (σ44 226 x2)), .long (Int64.ofInt r41)] (c_X12_times l base D cA n hn σ44 (σ44 226 x2) r41 r45 (t41).l _ hw) cv_X12_210 ⟨rfl, rfl⟩ ⟨by decide, by decide⟩ rfl rfl hl (Nat.le_of_ble_eq_true rfl) ⟨Nat.zero_le _, Nat.zero_le _⟩ dX12_counts_112 (fun r46 σ46 t46 hw => ?_)
        have hw := hw t46
        obtain ⟨a47, b47, hw⟩ := hw
        refine ml_last (pc := 115) (N := 8) X (ml_c226 hn) a47 b47 t46 dX12_counts_115 (fun σ47 g47 => ?_)
        have hw := hw σ47 g47
        refine ml_goto (pc := 116) (tgt := 40) X dX12_counts_116 (by decide) ?_
        exact ih σ47 x1 x2 h_x1 h_x2 _ (lv_sub hl [2, 3, 4] rfl) hw
set_option maxRecDepth 100000 in
set_option maxHeartbeats 4000000 in
theorem u_X12_counts_347 {p : Program} {e : Env} {s : State} {m : MethodId} {args : Array Value} {below : List Frame} {meth : Method} {c : Code} {base : Nat} {D : va_G} {cA : Nat → ClassId} {n : Nat} {l : Launch} {Q : ml_St → Prop} (X : ml_X p s m c meth args D cA cX12_counts 5 RX12 none) (hn : 256 ≤ n) (σ : ml_St) (x1 : Int) (h_x1 : I32 x1) (ls : Array Slot) (hl : lv_has ls 5 [(0, .ref (base + (215 : Int).toNat)), (1, .int (Int32.ofInt x1))]) (hw : f_X12_counts_u347 Q σ x1) : ml_V p l e rm_X12_counts s m args below meth c (MQ below (ml_Qv base D cA n Q) args s 0 0 (ml_A base)) base D cA 0 0 n n σ (F0 m 347 ls []) := by
  unfold f_X12_counts_u347 at hw
  refine ml_aload_n (pc := 347) X hl 0 rfl rfl dX12_counts_347 ?_
  refine gf_X12_30 (pc := 348) X (ml_c215 hn) dX12_counts_348 ?_
  refine ml_iload_n (pc := 351) X hl 1 rfl rfl dX12_counts_351 ?_
  refine ml_aload_n (pc := 352) X hl 0 rfl rfl dX12_counts_352 ?_
  refine gf_X12_37 (pc := 353) X (ml_c215 hn) dX12_counts_353 ?_
  refine ml_iconst (pc := 356) X dX12_counts_356 ?_
  obtain ⟨a1, b1, hw⟩ := hw
  refine ml_lald (pc := 357) (N := 8) X (ml_c223 hn) a1 b1 dX12_counts_357 (fun r1 => ?_)
  have hw := hw r1
  refine ml_aload_n (pc := 358) X hl 0 rfl rfl dX12_counts_358 ?_
  refine gf_X12_43 (pc := 359) X (ml_c215 hn) dX12_counts_359 ?_
  refine ml_iconst (pc := 362) X dX12_counts_362 ?_
  obtain ⟨a2, b2, hw⟩ := hw
  refine ml_lald (pc := 363) (N := 8) X (ml_c225 hn) a2 b2 dX12_counts_363 (fun r2 => ?_)
  have hw := hw r2
  refine ml_calllS (pc := 364) (rest := [.int (Int32.ofInt x1), .ref (base + (221 : Int).toNat)]) X [.long (Int64.ofInt (σ 223 0)), .long (Int64.ofInt (σ 225 0))] (c_X12_plus l base D cA n hn σ (σ 223 0) (σ 225 0) r1 r2 _ hw) cv_X12_214 ⟨rfl, rfl⟩ ⟨by decide, by decide⟩ rfl rfl hl (Nat.le_of_ble_eq_true rfl) ⟨Nat.zero_le _, Nat.zero_le _⟩ dX12_counts_364 (fun r3 σ3 t3 hw => ?_)
  have hw := hw t3
  obtain ⟨a4, b4, hw⟩ := hw
  refine ml_last (pc := 367) (N := 16) X (ml_c221 hn) a4 b4 t3 dX12_counts_367 (fun σ4 g4 => ?_)
  have hw := hw σ4 g4
  refine ml_aload_n (pc := 368) X hl 0 rfl rfl dX12_counts_368 ?_
  refine gf_X12_34 (pc := 369) X (ml_c215 hn) dX12_counts_369 ?_
  refine ml_iload_n (pc := 372) X hl 1 rfl rfl dX12_counts_372 ?_
  refine ml_aload_n (pc := 373) X hl 0 rfl rfl dX12_counts_373 ?_
  refine gf_X12_40 (pc := 374) X (ml_c215 hn) dX12_counts_374 ?_
  refine ml_iconst (pc := 377) X dX12_counts_377 ?_
  obtain ⟨a5, b5, hw⟩ := hw
  refine ml_lald (pc := 378) (N := 8) X (ml_c224 hn) a5 b5 dX12_counts_378 (fun r5 => ?_)
  have hw := hw r5
  refine ml_aload_n (pc := 379) X hl 0 rfl rfl dX12_counts_379 ?_
  refine gf_X12_46 (pc := 380) X (ml_c215 hn) dX12_counts_380 ?_
  refine ml_iconst (pc := 383) X dX12_counts_383 ?_
  obtain ⟨a6, b6, hw⟩ := hw
  refine ml_lald (pc := 384) (N := 8) X (ml_c226 hn) a6 b6 dX12_counts_384 (fun r6 => ?_)
  have hw := hw r6
  refine ml_calllS (pc := 385) (rest := [.int (Int32.ofInt x1), .ref (base + (222 : Int).toNat)]) X [.long (Int64.ofInt (σ4 224 0)), .long (Int64.ofInt (σ4 226 0))] (c_X12_plus l base D cA n hn σ4 (σ4 224 0) (σ4 226 0) r5 r6 _ hw) cv_X12_214 ⟨rfl, rfl⟩ ⟨by decide, by decide⟩ rfl rfl hl (Nat.le_of_ble_eq_true rfl) ⟨Nat.zero_le _, Nat.zero_le _⟩ dX12_counts_385 (fun r7 σ7 t7 hw => ?_)
  have hw := hw t7
  obtain ⟨a8, b8, hw⟩ := hw
  refine ml_last (pc := 388) (N := 16) X (ml_c222 hn) a8 b8 t7 dX12_counts_388 (fun σ8 g8 => ?_)
  have hw := hw σ8 g8
  exact ml_vret (pc := 389) X hw dX12_counts_389
set_option maxRecDepth 100000 in
set_option maxHeartbeats 4000000 in
theorem u_X12_counts_0 {p : Program} {e : Env} {s : State} {m : MethodId} {args : Array Value} {below : List Frame} {meth : Method} {c : Code} {base : Nat} {D : va_G} {cA : Nat → ClassId} {n : Nat} {l : Launch} {Q : ml_St → Prop} (X : ml_X p s m c meth args D cA cX12_counts 5 RX12 none) (hn : 256 ≤ n) (σ : ml_St) (x1 : Int) (h_x1 : I32 x1) (ls : Array Slot) (hl : lv_has ls 5 [(0, .ref (base + (215 : Int).toNat)), (1, .int (Int32.ofInt x1))]) (hw : f_X12_counts_u0 Q σ x1) : ml_V p l e rm_X12_counts s m args below meth c (MQ below (ml_Qv base D cA n Q) args s 0 0 (ml_A base)) base D cA 0 0 n n σ (F0 m 0 ls []) := by
  unfold f_X12_counts_u0 at hw
  refine ml_iconst (pc := 0) X dX12_counts_0 ?_
  refine ml_istore_n (pc := 1) X rfl hl (by decide) (lst' := [(2, .int (Int32.ofInt 0)), (0, .ref (base + (215 : Int).toNat)), (1, .int (Int32.ofInt x1))]) rfl dX12_counts_1 (fun ls hl => ?_)
  refine ml_aload_n (pc := 2) X hl 1 rfl rfl dX12_counts_2 ?_
  refine ml_iload_n (pc := 3) X hl 2 rfl rfl dX12_counts_3 ?_
  refine pf_X12_201 (pc := 4) X (ml_c215 hn) h_x1 dX12_counts_4 (fun σ1 g1 => ?_)
  have hw := hw σ1 g1
  refine ml_aload_n (pc := 7) X hl 1 rfl rfl dX12_counts_7 ?_
  refine ml_iconst (pc := 8) X dX12_counts_8 ?_
  refine pf_X12_198 (pc := 9) X (ml_c215 hn) ⟨by decide, by decide⟩ dX12_counts_9 (fun σ2 g2 => ?_)
  have hw := hw σ2 g2
  refine ml_aload_n (pc := 12) X hl 1 rfl rfl dX12_counts_12 ?_
  refine gf_X12_37 (pc := 13) X (ml_c215 hn) dX12_counts_13 ?_
  refine ml_iconst (pc := 16) X dX12_counts_16 ?_
  refine ml_lconst0 (pc := 17) X dX12_counts_17 ?_
  obtain ⟨a3, b3, hw⟩ := hw
  refine ml_last (pc := 18) (N := 8) X (ml_c223 hn) a3 b3 ⟨by decide, by decide⟩ dX12_counts_18 (fun σ3 g3 => ?_)
  have hw := hw σ3 g3
  refine ml_aload_n (pc := 19) X hl 1 rfl rfl dX12_counts_19 ?_
  refine gf_X12_40 (pc := 20) X (ml_c215 hn) dX12_counts_20 ?_
  refine ml_iconst (pc := 23) X dX12_counts_23 ?_
  refine ml_lconst0 (pc := 24) X dX12_counts_24 ?_
  obtain ⟨a4, b4, hw⟩ := hw
  refine ml_last (pc := 25) (N := 8) X (ml_c224 hn) a4 b4 ⟨by decide, by decide⟩ dX12_counts_25 (fun σ4 g4 => ?_)
  have hw := hw σ4 g4
  refine ml_aload_n (pc := 26) X hl 1 rfl rfl dX12_counts_26 ?_
  refine gf_X12_43 (pc := 27) X (ml_c215 hn) dX12_counts_27 ?_
  refine ml_iconst (pc := 30) X dX12_counts_30 ?_
  refine ml_lconst0 (pc := 31) X dX12_counts_31 ?_
  obtain ⟨a5, b5, hw⟩ := hw
  refine ml_last (pc := 32) (N := 8) X (ml_c225 hn) a5 b5 ⟨by decide, by decide⟩ dX12_counts_32 (fun σ5 g5 => ?_)
  have hw := hw σ5 g5
  refine ml_aload_n (pc := 33) X hl 1 rfl rfl dX12_counts_33 ?_
  refine gf_X12_46 (pc := 34) X (ml_c215 hn) dX12_counts_34 ?_
  refine ml_iconst (pc := 37) X dX12_counts_37 ?_
  refine ml_lconst0 (pc := 38) X dX12_counts_38 ?_
  obtain ⟨a6, b6, hw⟩ := hw
  refine ml_last (pc := 39) (N := 8) X (ml_c226 hn) a6 b6 ⟨by decide, by decide⟩ dX12_counts_39 (fun σ6 g6 => ?_)
  have hw := hw σ6 g6
  obtain ⟨N0, hw⟩ := hw
  exact u_X12_counts_40 X hn (fun σ x1 h_x1 ls hl hw => u_X12_counts_347 X hn σ x1 h_x1 ls hl hw) N0 σ6 x1 0 h_x1 ⟨by decide, by decide⟩ _ (lv_sub hl [1, 2, 0] rfl) hw
set_option maxRecDepth 100000 in
theorem c_X12_counts (l : Launch) (base : Nat) (D : va_G) (cA : Nat → ClassId) (n : Nat) (hn : 256 ≤ n) (σ : ml_St) (x1 : Int) (h_x1 : I32 x1) (Q : ml_St → Prop) (hw : f_X12_counts σ x1 Q) : Met l yX12_counts (Cond.code yX12_counts cX12_counts 5 none :: ml_T) rm_X12_counts (va_Pc [.ref (base + (215 : Int).toNat), .int (Int32.ofInt x1)] (ml_U base D cA n σ)) (ml_Qv base D cA n Q) 0 0 (ml_A base) := by
  refine Met.ofW (cc := cX12_counts) (maxL := 5) (ret := none) (by decide) rfl ?_
  intro p e s m args below meth c s₁ B hml hv
  obtain ⟨rfl, hP, hK, hok, hro⟩ := hv
  have X : ml_X p s m c meth _ D cA cX12_counts 5 RX12 none := ⟨B.exec, B.bytes, hml, findClass_of_methodNamed B.named, fun w hw => atoms_spec (ws := Cond.code yX12_counts cX12_counts 5 none :: ml_T) B.pre w (List.mem_cons_of_mem _ hw), hK, B.notSynchronized, B.returns⟩
  have hl := lv_entry [.ref (base + (215 : Int).toNat), .int (Int32.ofInt x1)] (n := 5) (Nat.le_of_ble_eq_true rfl)
  rw [lg_entry_eq]
  generalize (lg_sl [.ref (base + (215 : Int).toNat), .int (Int32.ofInt x1)] ++ List.replicate (5 - (lg_sl [.ref (base + (215 : Int).toNat), .int (Int32.ofInt x1)]).length) Slot.unset).toArray = ls at hl ⊢
  have hl : lv_has ls 5 [(0, .ref (base + (215 : Int).toNat)), (1, .int (Int32.ofInt x1))] := hl
  unfold f_X12_counts at hw
  exact u_X12_counts_0 X hn σ x1 h_x1 _ (lv_sub hl [0, 1] rfl) hw s.heap [] hP va_S.rf hok hro
theorem dX12_signsOf_0 : decode cX12_signsOf 0 = .ok (.aload_n 0, 1) := by decide +kernel
theorem dX12_signsOf_1 : decode cX12_signsOf 1 = .ok (.getfield 30, 3) := by decide +kernel
theorem dX12_signsOf_4 : decode cX12_signsOf 4 = .ok (.iload_n 1, 1) := by decide +kernel
theorem dX12_signsOf_5 : decode cX12_signsOf 5 = .ok (.laload, 1) := by decide +kernel
theorem dX12_signsOf_6 : decode cX12_signsOf 6 = .ok (.aload_n 0, 1) := by decide +kernel
theorem dX12_signsOf_7 : decode cX12_signsOf 7 = .ok (.getfield 34, 3) := by decide +kernel
theorem dX12_signsOf_10 : decode cX12_signsOf 10 = .ok (.iload_n 1, 1) := by decide +kernel
theorem dX12_signsOf_11 : decode cX12_signsOf 11 = .ok (.laload, 1) := by decide +kernel
theorem dX12_signsOf_12 : decode cX12_signsOf 12 = .ok (.invokestatic 214, 3) := by decide +kernel
theorem dX12_signsOf_15 : decode cX12_signsOf 15 = .ok (.lreturn, 1) := by decide +kernel
def f_X12_signsOf_u0 (Q : Int → ml_St → Prop) (σ : ml_St) (x1 : Int) : Prop :=
(0 : Int) ≤ x1 ∧ (x1 : Int) < 16 ∧
∀ _ : I64 (σ 221 x1),
(0 : Int) ≤ x1 ∧ (x1 : Int) < 16 ∧
∀ _ : I64 (σ 222 x1),
f_X12_plus σ (σ 221 x1) (σ 222 x1) (fun r3 σ3 => ∀ _ : I64 r3,
Q r3 σ3)
def f_X12_signsOf (σ : ml_St) (x1 : Int) (Q : Int → ml_St → Prop) : Prop := f_X12_signsOf_u0 Q σ x1
def rm_X12_signsOf : Room := { frames := 1, cells := 0, slots := 0, locals := 23 }
set_option maxRecDepth 100000 in
set_option maxHeartbeats 4000000 in
theorem u_X12_signsOf_0 {p : Program} {e : Env} {s : State} {m : MethodId} {args : Array Value} {below : List Frame} {meth : Method} {c : Code} {base : Nat} {D : va_G} {cA : Nat → ClassId} {n : Nat} {l : Launch} {Q : Int → ml_St → Prop} (X : ml_X p s m c meth args D cA cX12_signsOf 2 RX12 (some .long)) (hn : 256 ≤ n) (σ : ml_St) (x1 : Int) (h_x1 : I32 x1) (ls : Array Slot) (hl : lv_has ls 2 [(0, .ref (base + (215 : Int).toNat)), (1, .int (Int32.ofInt x1))]) (hw : f_X12_signsOf_u0 Q σ x1) : ml_V p l e rm_X12_signsOf s m args below meth c (MQ below (ml_Ql base D cA n Q) args s 0 0 (ml_A base)) base D cA 0 0 n n σ (F0 m 0 ls []) := by
  unfold f_X12_signsOf_u0 at hw
  refine ml_aload_n (pc := 0) X hl 0 rfl rfl dX12_signsOf_0 ?_
  refine gf_X12_30 (pc := 1) X (ml_c215 hn) dX12_signsOf_1 ?_
  refine ml_iload_n (pc := 4) X hl 1 rfl rfl dX12_signsOf_4 ?_
  obtain ⟨a1, b1, hw⟩ := hw
  refine ml_lald (pc := 5) (N := 16) X (ml_c221 hn) a1 b1 dX12_signsOf_5 (fun r1 => ?_)
  have hw := hw r1
  refine ml_aload_n (pc := 6) X hl 0 rfl rfl dX12_signsOf_6 ?_
  refine gf_X12_34 (pc := 7) X (ml_c215 hn) dX12_signsOf_7 ?_
  refine ml_iload_n (pc := 10) X hl 1 rfl rfl dX12_signsOf_10 ?_
  obtain ⟨a2, b2, hw⟩ := hw
  refine ml_lald (pc := 11) (N := 16) X (ml_c222 hn) a2 b2 dX12_signsOf_11 (fun r2 => ?_)
  have hw := hw r2
  refine ml_calllS (pc := 12) (rest := []) X [.long (Int64.ofInt (σ 221 x1)), .long (Int64.ofInt (σ 222 x1))] (c_X12_plus l base D cA n hn σ (σ 221 x1) (σ 222 x1) r1 r2 _ hw) cv_X12_214 ⟨rfl, rfl⟩ ⟨by decide, by decide⟩ rfl rfl hl (Nat.le_of_ble_eq_true rfl) ⟨Nat.zero_le _, Nat.zero_le _⟩ dX12_signsOf_12 (fun r3 σ3 t3 hw => ?_)
  have hw := hw t3
  exact ml_lret (pc := 15) X t3 hw dX12_signsOf_15
set_option maxRecDepth 100000 in
theorem c_X12_signsOf (l : Launch) (base : Nat) (D : va_G) (cA : Nat → ClassId) (n : Nat) (hn : 256 ≤ n) (σ : ml_St) (x1 : Int) (h_x1 : I32 x1) (Q : Int → ml_St → Prop) (hw : f_X12_signsOf σ x1 Q) : Met l yX12_signsOf (Cond.code yX12_signsOf cX12_signsOf 2 (some .long) :: ml_T) rm_X12_signsOf (va_Pc [.ref (base + (215 : Int).toNat), .int (Int32.ofInt x1)] (ml_U base D cA n σ)) (ml_Ql base D cA n Q) 0 0 (ml_A base) := by
  refine Met.ofW (cc := cX12_signsOf) (maxL := 2) (ret := (some .long)) (by decide) rfl ?_
  intro p e s m args below meth c s₁ B hml hv
  obtain ⟨rfl, hP, hK, hok, hro⟩ := hv
  have X : ml_X p s m c meth _ D cA cX12_signsOf 2 RX12 (some .long) := ⟨B.exec, B.bytes, hml, findClass_of_methodNamed B.named, fun w hw => atoms_spec (ws := Cond.code yX12_signsOf cX12_signsOf 2 (some .long) :: ml_T) B.pre w (List.mem_cons_of_mem _ hw), hK, B.notSynchronized, B.returns⟩
  have hl := lv_entry [.ref (base + (215 : Int).toNat), .int (Int32.ofInt x1)] (n := 2) (Nat.le_of_ble_eq_true rfl)
  rw [lg_entry_eq]
  generalize (lg_sl [.ref (base + (215 : Int).toNat), .int (Int32.ofInt x1)] ++ List.replicate (2 - (lg_sl [.ref (base + (215 : Int).toNat), .int (Int32.ofInt x1)]).length) Slot.unset).toArray = ls at hl ⊢
  have hl : lv_has ls 2 [(0, .ref (base + (215 : Int).toNat)), (1, .int (Int32.ofInt x1))] := hl
  unfold f_X12_signsOf at hw
  exact u_X12_signsOf_0 X hn σ x1 h_x1 _ (lv_sub hl [0, 1] rfl) hw s.heap [] hP va_S.rf hok hro
theorem dX12_isTooLong_0 : decode cX12_isTooLong 0 = .ok (.aload_n 0, 1) := by decide +kernel
theorem dX12_isTooLong_1 : decode cX12_isTooLong 1 = .ok (.iload_n 1, 1) := by decide +kernel
theorem dX12_isTooLong_2 : decode cX12_isTooLong 2 = .ok (.invokevirtual 217, 3) := by decide +kernel
theorem dX12_isTooLong_5 : decode cX12_isTooLong 5 = .ok (.ldc2_w 221, 3) := by decide +kernel
theorem dX12_isTooLong_8 : decode cX12_isTooLong 8 = .ok (.lcmp, 1) := by decide +kernel
theorem dX12_isTooLong_9 : decode cX12_isTooLong 9 = .ok (.ifCond .le 7, 3) := by decide +kernel
theorem dX12_isTooLong_12 : decode cX12_isTooLong 12 = .ok (.iconst 1, 1) := by decide +kernel
theorem dX12_isTooLong_13 : decode cX12_isTooLong 13 = .ok (.goto 4, 3) := by decide +kernel
theorem dX12_isTooLong_16 : decode cX12_isTooLong 16 = .ok (.iconst 0, 1) := by decide +kernel
theorem dX12_isTooLong_17 : decode cX12_isTooLong 17 = .ok (.ireturn, 1) := by decide +kernel
def f_X12_isTooLong_u17 (Q : Int → ml_St → Prop) (σ : ml_St) (s0 : Int) : Prop :=
Q s0 σ
def f_X12_isTooLong_u0 (Q : Int → ml_St → Prop) (σ : ml_St) (x1 : Int) : Prop :=
f_X12_signsOf σ x1 (fun r1 σ1 => ∀ _ : I64 r1,
(r1 ≤ 1000000000000 →
f_X12_isTooLong_u17 Q σ1 0) ∧
(¬ (r1 ≤ 1000000000000) →
f_X12_isTooLong_u17 Q σ1 1))
def f_X12_isTooLong (σ : ml_St) (x1 : Int) (Q : Int → ml_St → Prop) : Prop := f_X12_isTooLong_u0 Q σ x1
def rm_X12_isTooLong : Room := { frames := 2, cells := 0, slots := 0, locals := 44 }
set_option maxRecDepth 100000 in
set_option maxHeartbeats 4000000 in
theorem u_X12_isTooLong_17 {p : Program} {e : Env} {s : State} {m : MethodId} {args : Array Value} {below : List Frame} {meth : Method} {c : Code} {base : Nat} {D : va_G} {cA : Nat → ClassId} {n : Nat} {l : Launch} {Q : Int → ml_St → Prop} (X : ml_X p s m c meth args D cA cX12_isTooLong 2 RX12 (some .boolean)) (hn : 256 ≤ n) (σ : ml_St) (s0 : Int) (h_s0 : ml_B s0) (ls : Array Slot) (hl : lv_has ls 2 []) (hw : f_X12_isTooLong_u17 Q σ s0) : ml_V p l e rm_X12_isTooLong s m args below meth c (MQ below (ml_Qi ml_B base D cA n Q) args s 0 0 (ml_A base)) base D cA 0 0 n n σ (F0 m 17 ls [.int (Int32.ofInt s0)]) := by
  unfold f_X12_isTooLong_u17 at hw
  exact ml_zret (pc := 17) X h_s0 hw dX12_isTooLong_17
set_option maxRecDepth 100000 in
set_option maxHeartbeats 4000000 in
theorem u_X12_isTooLong_0 {p : Program} {e : Env} {s : State} {m : MethodId} {args : Array Value} {below : List Frame} {meth : Method} {c : Code} {base : Nat} {D : va_G} {cA : Nat → ClassId} {n : Nat} {l : Launch} {Q : Int → ml_St → Prop} (X : ml_X p s m c meth args D cA cX12_isTooLong 2 RX12 (some .boolean)) (hn : 256 ≤ n) (σ : ml_St) (x1 : Int) (h_x1 : I32 x1) (ls : Array Slot) (hl : lv_has ls 2 [(0, .ref (base + (215 : Int).toNat)), (1, .int (Int32.ofInt x1))]) (hw : f_X12_isTooLong_u0 Q σ x1) : ml_V p l e rm_X12_isTooLong s m args below meth c (MQ below (ml_Qi ml_B base D cA n Q) args s 0 0 (ml_A base)) base D cA 0 0 n n σ (F0 m 0 ls []) := by
  unfold f_X12_isTooLong_u0 at hw
  refine ml_aload_n (pc := 0) X hl 0 rfl rfl dX12_isTooLong_0 ?_
  refine ml_iload_n (pc := 1) X hl 1 rfl rfl dX12_isTooLong_1 ?_
  refine ml_calllV (pc := 2) (rest := []) X [.int (Int32.ofInt x1)] (by decide) rfl (ml_c215 hn) (c_X12_signsOf l base D cA n hn σ x1 h_x1 _ hw) cv_X12_217 ⟨rfl, rfl⟩ ⟨by decide, by decide⟩ rfl rfl hl (Nat.le_of_ble_eq_true rfl) ⟨Nat.zero_le _, Nat.zero_le _⟩ dX12_isTooLong_2 (fun r1 σ1 t1 hw => ?_)
  have hw := hw t1
  refine ml_ldc2 (pc := 5) (v := 1000000000000) X dX12_isTooLong_5 tc_5_227 ?_
  refine ml_lcmp_le (pc := 8) (tgt := 16) X t1 ⟨by decide, by decide⟩ dX12_isTooLong_8 dX12_isTooLong_9 (by decide) (fun c2 => ?_) (fun c2 => ?_)
  · have hw := hw.1 c2
    refine ml_iconst (pc := 16) X dX12_isTooLong_16 ?_
    exact u_X12_isTooLong_17 X hn σ1 0 ⟨by decide, by decide⟩ _ (lv_sub hl [] rfl) hw
  · have hw := hw.2 c2
    refine ml_iconst (pc := 12) X dX12_isTooLong_12 ?_
    refine ml_goto (pc := 13) (tgt := 17) X dX12_isTooLong_13 (by decide) ?_
    exact u_X12_isTooLong_17 X hn σ1 1 ⟨by decide, by decide⟩ _ (lv_sub hl [] rfl) hw
set_option maxRecDepth 100000 in
theorem c_X12_isTooLong (l : Launch) (base : Nat) (D : va_G) (cA : Nat → ClassId) (n : Nat) (hn : 256 ≤ n) (σ : ml_St) (x1 : Int) (h_x1 : I32 x1) (Q : Int → ml_St → Prop) (hw : f_X12_isTooLong σ x1 Q) : Met l yX12_isTooLong (Cond.code yX12_isTooLong cX12_isTooLong 2 (some .boolean) :: ml_T) rm_X12_isTooLong (va_Pc [.ref (base + (215 : Int).toNat), .int (Int32.ofInt x1)] (ml_U base D cA n σ)) (ml_Qi ml_B base D cA n Q) 0 0 (ml_A base) := by
  refine Met.ofW (cc := cX12_isTooLong) (maxL := 2) (ret := (some .boolean)) (by decide) rfl ?_
  intro p e s m args below meth c s₁ B hml hv
  obtain ⟨rfl, hP, hK, hok, hro⟩ := hv
  have X : ml_X p s m c meth _ D cA cX12_isTooLong 2 RX12 (some .boolean) := ⟨B.exec, B.bytes, hml, findClass_of_methodNamed B.named, fun w hw => atoms_spec (ws := Cond.code yX12_isTooLong cX12_isTooLong 2 (some .boolean) :: ml_T) B.pre w (List.mem_cons_of_mem _ hw), hK, B.notSynchronized, B.returns⟩
  have hl := lv_entry [.ref (base + (215 : Int).toNat), .int (Int32.ofInt x1)] (n := 2) (Nat.le_of_ble_eq_true rfl)
  rw [lg_entry_eq]
  generalize (lg_sl [.ref (base + (215 : Int).toNat), .int (Int32.ofInt x1)] ++ List.replicate (2 - (lg_sl [.ref (base + (215 : Int).toNat), .int (Int32.ofInt x1)]).length) Slot.unset).toArray = ls at hl ⊢
  have hl : lv_has ls 2 [(0, .ref (base + (215 : Int).toNat)), (1, .int (Int32.ofInt x1))] := hl
  unfold f_X12_isTooLong at hw
  exact u_X12_isTooLong_0 X hn σ x1 h_x1 _ (lv_sub hl [0, 1] rfl) hw s.heap [] hP va_S.rf hok hro
theorem dX12_copies_0 : decode cX12_copies 0 = .ok (.iconst 0, 1) := by decide +kernel
theorem dX12_copies_1 : decode cX12_copies 1 = .ok (.istore_n 3, 1) := by decide +kernel
theorem dX12_copies_2 : decode cX12_copies 2 = .ok (.iload_n 3, 1) := by decide +kernel
theorem dX12_copies_3 : decode cX12_copies 3 = .ok (.iconst 2, 1) := by decide +kernel
theorem dX12_copies_4 : decode cX12_copies 4 = .ok (.aload_n 0, 1) := by decide +kernel
theorem dX12_copies_5 : decode cX12_copies 5 = .ok (.getfield 13, 3) := by decide +kernel
theorem dX12_copies_8 : decode cX12_copies 8 = .ok (.imul, 1) := by decide +kernel
theorem dX12_copies_9 : decode cX12_copies 9 = .ok (.if_icmp .ge 53, 3) := by decide +kernel
theorem dX12_copies_12 : decode cX12_copies 12 = .ok (.aload_n 0, 1) := by decide +kernel
theorem dX12_copies_13 : decode cX12_copies 13 = .ok (.getfield 49, 3) := by decide +kernel
theorem dX12_copies_16 : decode cX12_copies 16 = .ok (.bipush 10, 2) := by decide +kernel
theorem dX12_copies_18 : decode cX12_copies 18 = .ok (.iload_n 2, 1) := by decide +kernel
theorem dX12_copies_19 : decode cX12_copies 19 = .ok (.imul, 1) := by decide +kernel
theorem dX12_copies_20 : decode cX12_copies 20 = .ok (.iload_n 3, 1) := by decide +kernel
theorem dX12_copies_21 : decode cX12_copies 21 = .ok (.iadd, 1) := by decide +kernel
theorem dX12_copies_22 : decode cX12_copies 22 = .ok (.aload_n 0, 1) := by decide +kernel
theorem dX12_copies_23 : decode cX12_copies 23 = .ok (.getfield 49, 3) := by decide +kernel
theorem dX12_copies_26 : decode cX12_copies 26 = .ok (.bipush 10, 2) := by decide +kernel
theorem dX12_copies_28 : decode cX12_copies 28 = .ok (.iload_n 1, 1) := by decide +kernel
theorem dX12_copies_29 : decode cX12_copies 29 = .ok (.imul, 1) := by decide +kernel
theorem dX12_copies_30 : decode cX12_copies 30 = .ok (.iload_n 3, 1) := by decide +kernel
theorem dX12_copies_31 : decode cX12_copies 31 = .ok (.iadd, 1) := by decide +kernel
theorem dX12_copies_32 : decode cX12_copies 32 = .ok (.iaload, 1) := by decide +kernel
theorem dX12_copies_33 : decode cX12_copies 33 = .ok (.iastore, 1) := by decide +kernel
theorem dX12_copies_34 : decode cX12_copies 34 = .ok (.aload_n 0, 1) := by decide +kernel
theorem dX12_copies_35 : decode cX12_copies 35 = .ok (.getfield 52, 3) := by decide +kernel
theorem dX12_copies_38 : decode cX12_copies 38 = .ok (.bipush 10, 2) := by decide +kernel
theorem dX12_copies_40 : decode cX12_copies 40 = .ok (.iload_n 2, 1) := by decide +kernel
theorem dX12_copies_41 : decode cX12_copies 41 = .ok (.imul, 1) := by decide +kernel
theorem dX12_copies_42 : decode cX12_copies 42 = .ok (.iload_n 3, 1) := by decide +kernel
theorem dX12_copies_43 : decode cX12_copies 43 = .ok (.iadd, 1) := by decide +kernel
theorem dX12_copies_44 : decode cX12_copies 44 = .ok (.aload_n 0, 1) := by decide +kernel
theorem dX12_copies_45 : decode cX12_copies 45 = .ok (.getfield 52, 3) := by decide +kernel
theorem dX12_copies_48 : decode cX12_copies 48 = .ok (.bipush 10, 2) := by decide +kernel
theorem dX12_copies_50 : decode cX12_copies 50 = .ok (.iload_n 1, 1) := by decide +kernel
theorem dX12_copies_51 : decode cX12_copies 51 = .ok (.imul, 1) := by decide +kernel
theorem dX12_copies_52 : decode cX12_copies 52 = .ok (.iload_n 3, 1) := by decide +kernel
theorem dX12_copies_53 : decode cX12_copies 53 = .ok (.iadd, 1) := by decide +kernel
theorem dX12_copies_54 : decode cX12_copies 54 = .ok (.laload, 1) := by decide +kernel
theorem dX12_copies_55 : decode cX12_copies 55 = .ok (.lastore, 1) := by decide +kernel
theorem dX12_copies_56 : decode cX12_copies 56 = .ok (.iinc 3 1, 3) := by decide +kernel
theorem dX12_copies_59 : decode cX12_copies 59 = .ok (.goto (-57), 3) := by decide +kernel
theorem dX12_copies_62 : decode cX12_copies 62 = .ok (.aload_n 0, 1) := by decide +kernel
theorem dX12_copies_63 : decode cX12_copies 63 = .ok (.getfield 55, 3) := by decide +kernel
theorem dX12_copies_66 : decode cX12_copies 66 = .ok (.iload_n 2, 1) := by decide +kernel
theorem dX12_copies_67 : decode cX12_copies 67 = .ok (.aload_n 0, 1) := by decide +kernel
theorem dX12_copies_68 : decode cX12_copies 68 = .ok (.getfield 55, 3) := by decide +kernel
theorem dX12_copies_71 : decode cX12_copies 71 = .ok (.iload_n 1, 1) := by decide +kernel
theorem dX12_copies_72 : decode cX12_copies 72 = .ok (.laload, 1) := by decide +kernel
theorem dX12_copies_73 : decode cX12_copies 73 = .ok (.lastore, 1) := by decide +kernel
theorem dX12_copies_74 : decode cX12_copies 74 = .ok (.aload_n 0, 1) := by decide +kernel
theorem dX12_copies_75 : decode cX12_copies 75 = .ok (.getfield 58, 3) := by decide +kernel
theorem dX12_copies_78 : decode cX12_copies 78 = .ok (.iload_n 2, 1) := by decide +kernel
theorem dX12_copies_79 : decode cX12_copies 79 = .ok (.aload_n 0, 1) := by decide +kernel
theorem dX12_copies_80 : decode cX12_copies 80 = .ok (.getfield 58, 3) := by decide +kernel
theorem dX12_copies_83 : decode cX12_copies 83 = .ok (.iload_n 1, 1) := by decide +kernel
theorem dX12_copies_84 : decode cX12_copies 84 = .ok (.laload, 1) := by decide +kernel
theorem dX12_copies_85 : decode cX12_copies 85 = .ok (.lastore, 1) := by decide +kernel
theorem dX12_copies_86 : decode cX12_copies 86 = .ok (.aload_n 0, 1) := by decide +kernel
theorem dX12_copies_87 : decode cX12_copies 87 = .ok (.getfield 61, 3) := by decide +kernel
theorem dX12_copies_90 : decode cX12_copies 90 = .ok (.iload_n 2, 1) := by decide +kernel
theorem dX12_copies_91 : decode cX12_copies 91 = .ok (.aload_n 0, 1) := by decide +kernel
theorem dX12_copies_92 : decode cX12_copies 92 = .ok (.getfield 61, 3) := by decide +kernel
theorem dX12_copies_95 : decode cX12_copies 95 = .ok (.iload_n 1, 1) := by decide +kernel
theorem dX12_copies_96 : decode cX12_copies 96 = .ok (.laload, 1) := by decide +kernel
theorem dX12_copies_97 : decode cX12_copies 97 = .ok (.lastore, 1) := by decide +kernel
theorem dX12_copies_98 : decode cX12_copies 98 = .ok (.return_, 1) := by decide +kernel
def f_X12_copies_u2 (Q : ml_St → Prop) (K62 : ml_St → Int → Int → Prop) : Nat → ml_St → Int → Int → Int → Prop
| 0, _, _, _, _ => False
| N + 1, σ, x1, x2, x3 =>
∀ _ : I32 (σ 215 2),
I32 (2 * (σ 215 2)) ∧
((2 * (σ 215 2)) ≤ x3 →
K62 σ x1 x2) ∧
(¬ ((2 * (σ 215 2)) ≤ x3) →
I32 (10 * x2) ∧
I32 ((10 * x2) + x3) ∧
I32 (10 * x1) ∧
I32 ((10 * x1) + x3) ∧
(0 : Int) ≤ ((10 * x1) + x3) ∧ (((10 * x1) + x3) : Int) < 640 ∧
∀ _ : I32 (σ 227 ((10 * x1) + x3)),
(0 : Int) ≤ ((10 * x2) + x3) ∧ (((10 * x2) + x3) : Int) < 640 ∧
∀ σ9, σ9 = ml_up σ 227 ((10 * x2) + x3) (σ 227 ((10 * x1) + x3)) →
I32 (10 * x2) ∧
I32 ((10 * x2) + x3) ∧
I32 (10 * x1) ∧
I32 ((10 * x1) + x3) ∧
(0 : Int) ≤ ((10 * x1) + x3) ∧ (((10 * x1) + x3) : Int) < 640 ∧
∀ _ : I64 (σ9 228 ((10 * x1) + x3)),
(0 : Int) ≤ ((10 * x2) + x3) ∧ (((10 * x2) + x3) : Int) < 640 ∧
∀ σ15, σ15 = ml_up σ9 228 ((10 * x2) + x3) (σ9 228 ((10 * x1) + x3)) →
I32 (x3 + 1) ∧
∀ y16 : Int, y16 = x3 + 1 →
f_X12_copies_u2 Q K62 N σ15 x1 x2 y16)
def f_X12_copies_u62 (Q : ml_St → Prop) (σ : ml_St) (x1 : Int) (x2 : Int) : Prop :=
(0 : Int) ≤ x1 ∧ (x1 : Int) < 64 ∧
∀ _ : I64 (σ 229 x1),
(0 : Int) ≤ x2 ∧ (x2 : Int) < 64 ∧
∀ σ2, σ2 = ml_up σ 229 x2 (σ 229 x1) →
(0 : Int) ≤ x1 ∧ (x1 : Int) < 64 ∧
∀ _ : I64 (σ2 230 x1),
(0 : Int) ≤ x2 ∧ (x2 : Int) < 64 ∧
∀ σ4, σ4 = ml_up σ2 230 x2 (σ2 230 x1) →
(0 : Int) ≤ x1 ∧ (x1 : Int) < 64 ∧
∀ _ : I64 (σ4 231 x1),
(0 : Int) ≤ x2 ∧ (x2 : Int) < 64 ∧
∀ σ6, σ6 = ml_up σ4 231 x2 (σ4 231 x1) →
Q σ6
def f_X12_copies_u0 (Q : ml_St → Prop) (σ : ml_St) (x1 : Int) (x2 : Int) : Prop :=
∃ N1, f_X12_copies_u2 Q (f_X12_copies_u62 Q) N1 σ x1 x2 0
def f_X12_copies (σ : ml_St) (x1 : Int) (x2 : Int) (Q : ml_St → Prop) : Prop := f_X12_copies_u0 Q σ x1 x2
def rm_X12_copies : Room := { frames := 0, cells := 0, slots := 0, locals := 0 }
set_option maxRecDepth 100000 in
set_option maxHeartbeats 4000000 in
theorem u_X12_copies_2 {p : Program} {e : Env} {s : State} {m : MethodId} {args : Array Value} {below : List Frame} {meth : Method} {c : Code} {base : Nat} {D : va_G} {cA : Nat → ClassId} {n : Nat} {l : Launch} {Q : ml_St → Prop} {K62 : ml_St → Int → Int → Prop} (X : ml_X p s m c meth args D cA cX12_copies 4 RX12 none) (hn : 256 ≤ n) (hK62 : ∀ (σ : ml_St) (x1 : Int) (x2 : Int) (h_x1 : I32 x1) (h_x2 : I32 x2) (ls : Array Slot), lv_has ls 4 [(0, .ref (base + (215 : Int).toNat)), (1, .int (Int32.ofInt x1)), (2, .int (Int32.ofInt x2))] → K62 σ x1 x2 → ml_V p l e rm_X12_copies s m args below meth c (MQ below (ml_Qv base D cA n Q) args s 0 0 (ml_A base)) base D cA 0 0 n n σ (F0 m 62 ls [])) : ∀ (N : Nat) (σ : ml_St) (x1 : Int) (x2 : Int) (x3 : Int) (h_x1 : I32 x1) (h_x2 : I32 x2) (h_x3 : I32 x3) (ls : Array Slot), lv_has ls 4 [(0, .ref (base + (215 : Int).toNat)), (1, .int (Int32.ofInt x1)), (2, .int (Int32.ofInt x2)), (3, .int (Int32.ofInt x3))] → f_X12_copies_u2 Q K62 N σ x1 x2 x3 → ml_V p l e rm_X12_copies s m args below meth c (MQ below (ml_Qv base D cA n Q) args s 0 0 (ml_A base)) base D cA 0 0 n n σ (F0 m 2 ls []) := by
  intro N
  induction N with
  | zero => intro σ x1 x2 x3 h_x1 h_x2 h_x3 ls hl hw; exact False.elim hw
  | succ N ih =>
    intro σ x1 x2 x3 h_x1 h_x2 h_x3 ls hl hw
    unfold f_X12_copies_u2 at hw
    refine ml_iload_n (pc := 2) X hl 3 rfl rfl dX12_copies_2 ?_
    refine ml_iconst (pc := 3) X dX12_copies_3 ?_
    refine ml_aload_n (pc := 4) X hl 0 rfl rfl dX12_copies_4 ?_
    refine gf_X12_13 (pc := 5) X (ml_c215 hn) dX12_copies_5 (fun r1 => ?_)
    have hw := hw r1
    obtain ⟨v2, hw⟩ := hw
    refine ml_imul (pc := 8) X dX12_copies_8 ?_
    refine ml_icmp_ge (pc := 9) (tgt := 62) X h_x3 v2 dX12_copies_9 (by decide) (fun c3 => ?_) (fun c3 => ?_)
    · have hw := hw.1 c3
      exact hK62 σ x1 x2 h_x1 h_x2 _ (lv_sub hl [0, 1, 2] rfl) hw
    · have hw := hw.2 c3
      refine ml_aload_n (pc := 12) X hl 0 rfl rfl dX12_copies_12 ?_
      refine gf_X12_49 (pc := 13) X (ml_c215 hn) dX12_copies_13 ?_
      refine ml_bipush (pc := 16) X dX12_copies_16 (by decide) ?_
      refine ml_iload_n (pc := 18) X hl 2 rfl rfl dX12_copies_18 ?_
      obtain ⟨v4, hw⟩ := hw
      refine ml_imul (pc := 19) X dX12_copies_19 ?_
      refine ml_iload_n (pc := 20) X hl 3 rfl rfl dX12_copies_20 ?_
      obtain ⟨v5, hw⟩ := hw
      refine ml_iadd (pc := 21) X dX12_copies_21 ?_
      refine ml_aload_n (pc := 22) X hl 0 rfl rfl dX12_copies_22 ?_
      refine gf_X12_49 (pc := 23) X (ml_c215 hn) dX12_copies_23 ?_
      refine ml_bipush (pc := 26) X dX12_copies_26 (by decide) ?_
      refine ml_iload_n (pc := 28) X hl 1 rfl rfl dX12_copies_28 ?_
      obtain ⟨v6, hw⟩ := hw
      refine ml_imul (pc := 29) X dX12_copies_29 ?_
      refine ml_iload_n (pc := 30) X hl 3 rfl rfl dX12_copies_30 ?_
      obtain ⟨v7, hw⟩ := hw
      refine ml_iadd (pc := 31) X dX12_copies_31 ?_
      obtain ⟨a8, b8, hw⟩ := hw
      refine ml_iald (pc := 32) (N := 640) X (ml_c227 hn) a8 b8 dX12_copies_32 (fun r8 => ?_)
      have hw := hw r8
      obtain ⟨a9, b9, hw⟩ := hw
      refine ml_iast (pc := 33) (N := 640) X (ml_c227 hn) a9 b9 r8 dX12_copies_33 (fun σ9 g9 => ?_)
      have hw := hw σ9 g9
      refine ml_aload_n (pc := 34) X hl 0 rfl rfl dX12_copies_34 ?_
      refine gf_X12_52 (pc := 35) X (ml_c215 hn) dX12_copies_35 ?_
      refine ml_bipush (pc := 38) X dX12_copies_38 (by decide) ?_
      refine ml_iload_n (pc := 40) X hl 2 rfl rfl dX12_copies_40 ?_
      obtain ⟨v10, hw⟩ := hw
      refine ml_imul (pc := 41) X dX12_copies_41 ?_
      refine ml_iload_n (pc := 42) X hl 3 rfl rfl dX12_copies_42 ?_
      obtain ⟨v11, hw⟩ := hw
      refine ml_iadd (pc := 43) X dX12_copies_43 ?_
      refine ml_aload_n (pc := 44) X hl 0 rfl rfl dX12_copies_44 ?_
      refine gf_X12_52 (pc := 45) X (ml_c215 hn) dX12_copies_45 ?_
      refine ml_bipush (pc := 48) X dX12_copies_48 (by decide) ?_
      refine ml_iload_n (pc := 50) X hl 1 rfl rfl dX12_copies_50 ?_
      obtain ⟨v12, hw⟩ := hw
      refine ml_imul (pc := 51) X dX12_copies_51 ?_
      refine ml_iload_n (pc := 52) X hl 3 rfl rfl dX12_copies_52 ?_
      obtain ⟨v13, hw⟩ := hw
      refine ml_iadd (pc := 53) X dX12_copies_53 ?_
      obtain ⟨a14, b14, hw⟩ := hw
      refine ml_lald (pc := 54) (N := 640) X (ml_c228 hn) a14 b14 dX12_copies_54 (fun r14 => ?_)
      have hw := hw r14
      obtain ⟨a15, b15, hw⟩ := hw
      refine ml_last (pc := 55) (N := 640) X (ml_c228 hn) a15 b15 r14 dX12_copies_55 (fun σ15 g15 => ?_)
      have hw := hw σ15 g15
      obtain ⟨v16, hw⟩ := hw
      obtain ⟨y16, e16⟩ : ∃ y : Int, y = x3 + 1 := ⟨_, rfl⟩
      have hw := hw y16 e16
      rw [← e16] at v16
      refine ml_iinc (pc := 56) X e16 hl 3 rfl (by decide) (lst' := [(3, .int (Int32.ofInt y16)), (0, .ref (base + (215 : Int).toNat)), (1, .int (Int32.ofInt x1)), (2, .int (Int32.ofInt x2))]) rfl dX12_copies_56 (fun ls hl => ?_)
      refine ml_goto (pc := 59) (tgt := 2) X dX12_copies_59 (by decide) ?_
      exact ih σ15 x1 x2 y16 h_x1 h_x2 v16 _ (lv_sub hl [1, 2, 3, 0] rfl) hw
set_option maxRecDepth 100000 in
set_option maxHeartbeats 4000000 in
theorem u_X12_copies_62 {p : Program} {e : Env} {s : State} {m : MethodId} {args : Array Value} {below : List Frame} {meth : Method} {c : Code} {base : Nat} {D : va_G} {cA : Nat → ClassId} {n : Nat} {l : Launch} {Q : ml_St → Prop} (X : ml_X p s m c meth args D cA cX12_copies 4 RX12 none) (hn : 256 ≤ n) (σ : ml_St) (x1 : Int) (x2 : Int) (h_x1 : I32 x1) (h_x2 : I32 x2) (ls : Array Slot) (hl : lv_has ls 4 [(0, .ref (base + (215 : Int).toNat)), (1, .int (Int32.ofInt x1)), (2, .int (Int32.ofInt x2))]) (hw : f_X12_copies_u62 Q σ x1 x2) : ml_V p l e rm_X12_copies s m args below meth c (MQ below (ml_Qv base D cA n Q) args s 0 0 (ml_A base)) base D cA 0 0 n n σ (F0 m 62 ls []) := by
  unfold f_X12_copies_u62 at hw
  refine ml_aload_n (pc := 62) X hl 0 rfl rfl dX12_copies_62 ?_
  refine gf_X12_55 (pc := 63) X (ml_c215 hn) dX12_copies_63 ?_
  refine ml_iload_n (pc := 66) X hl 2 rfl rfl dX12_copies_66 ?_
  refine ml_aload_n (pc := 67) X hl 0 rfl rfl dX12_copies_67 ?_
  refine gf_X12_55 (pc := 68) X (ml_c215 hn) dX12_copies_68 ?_
  refine ml_iload_n (pc := 71) X hl 1 rfl rfl dX12_copies_71 ?_
  obtain ⟨a1, b1, hw⟩ := hw
  refine ml_lald (pc := 72) (N := 64) X (ml_c229 hn) a1 b1 dX12_copies_72 (fun r1 => ?_)
  have hw := hw r1
  obtain ⟨a2, b2, hw⟩ := hw
  refine ml_last (pc := 73) (N := 64) X (ml_c229 hn) a2 b2 r1 dX12_copies_73 (fun σ2 g2 => ?_)
  have hw := hw σ2 g2
  refine ml_aload_n (pc := 74) X hl 0 rfl rfl dX12_copies_74 ?_
  refine gf_X12_58 (pc := 75) X (ml_c215 hn) dX12_copies_75 ?_
  refine ml_iload_n (pc := 78) X hl 2 rfl rfl dX12_copies_78 ?_
  refine ml_aload_n (pc := 79) X hl 0 rfl rfl dX12_copies_79 ?_
  refine gf_X12_58 (pc := 80) X (ml_c215 hn) dX12_copies_80 ?_
  refine ml_iload_n (pc := 83) X hl 1 rfl rfl dX12_copies_83 ?_
  obtain ⟨a3, b3, hw⟩ := hw
  refine ml_lald (pc := 84) (N := 64) X (ml_c230 hn) a3 b3 dX12_copies_84 (fun r3 => ?_)
  have hw := hw r3
  obtain ⟨a4, b4, hw⟩ := hw
  refine ml_last (pc := 85) (N := 64) X (ml_c230 hn) a4 b4 r3 dX12_copies_85 (fun σ4 g4 => ?_)
  have hw := hw σ4 g4
  refine ml_aload_n (pc := 86) X hl 0 rfl rfl dX12_copies_86 ?_
  refine gf_X12_61 (pc := 87) X (ml_c215 hn) dX12_copies_87 ?_
  refine ml_iload_n (pc := 90) X hl 2 rfl rfl dX12_copies_90 ?_
  refine ml_aload_n (pc := 91) X hl 0 rfl rfl dX12_copies_91 ?_
  refine gf_X12_61 (pc := 92) X (ml_c215 hn) dX12_copies_92 ?_
  refine ml_iload_n (pc := 95) X hl 1 rfl rfl dX12_copies_95 ?_
  obtain ⟨a5, b5, hw⟩ := hw
  refine ml_lald (pc := 96) (N := 64) X (ml_c231 hn) a5 b5 dX12_copies_96 (fun r5 => ?_)
  have hw := hw r5
  obtain ⟨a6, b6, hw⟩ := hw
  refine ml_last (pc := 97) (N := 64) X (ml_c231 hn) a6 b6 r5 dX12_copies_97 (fun σ6 g6 => ?_)
  have hw := hw σ6 g6
  exact ml_vret (pc := 98) X hw dX12_copies_98
set_option maxRecDepth 100000 in
set_option maxHeartbeats 4000000 in
theorem u_X12_copies_0 {p : Program} {e : Env} {s : State} {m : MethodId} {args : Array Value} {below : List Frame} {meth : Method} {c : Code} {base : Nat} {D : va_G} {cA : Nat → ClassId} {n : Nat} {l : Launch} {Q : ml_St → Prop} (X : ml_X p s m c meth args D cA cX12_copies 4 RX12 none) (hn : 256 ≤ n) (σ : ml_St) (x1 : Int) (x2 : Int) (h_x1 : I32 x1) (h_x2 : I32 x2) (ls : Array Slot) (hl : lv_has ls 4 [(0, .ref (base + (215 : Int).toNat)), (1, .int (Int32.ofInt x1)), (2, .int (Int32.ofInt x2))]) (hw : f_X12_copies_u0 Q σ x1 x2) : ml_V p l e rm_X12_copies s m args below meth c (MQ below (ml_Qv base D cA n Q) args s 0 0 (ml_A base)) base D cA 0 0 n n σ (F0 m 0 ls []) := by
  unfold f_X12_copies_u0 at hw
  refine ml_iconst (pc := 0) X dX12_copies_0 ?_
  refine ml_istore_n (pc := 1) X rfl hl (by decide) (lst' := [(3, .int (Int32.ofInt 0)), (0, .ref (base + (215 : Int).toNat)), (1, .int (Int32.ofInt x1)), (2, .int (Int32.ofInt x2))]) rfl dX12_copies_1 (fun ls hl => ?_)
  obtain ⟨N0, hw⟩ := hw
  exact u_X12_copies_2 X hn (fun σ x1 x2 h_x1 h_x2 ls hl hw => u_X12_copies_62 X hn σ x1 x2 h_x1 h_x2 ls hl hw) N0 σ x1 x2 0 h_x1 h_x2 ⟨by decide, by decide⟩ _ (lv_sub hl [1, 2, 3, 0] rfl) hw
set_option maxRecDepth 100000 in
theorem c_X12_copies (l : Launch) (base : Nat) (D : va_G) (cA : Nat → ClassId) (n : Nat) (hn : 256 ≤ n) (σ : ml_St) (x1 : Int) (x2 : Int) (h_x1 : I32 x1) (h_x2 : I32 x2) (Q : ml_St → Prop) (hw : f_X12_copies σ x1 x2 Q) : Met l yX12_copies (Cond.code yX12_copies cX12_copies 4 none :: ml_T) rm_X12_copies (va_Pc [.ref (base + (215 : Int).toNat), .int (Int32.ofInt x1), .int (Int32.ofInt x2)] (ml_U base D cA n σ)) (ml_Qv base D cA n Q) 0 0 (ml_A base) := by
  refine Met.ofW (cc := cX12_copies) (maxL := 4) (ret := none) (by decide) rfl ?_
  intro p e s m args below meth c s₁ B hml hv
  obtain ⟨rfl, hP, hK, hok, hro⟩ := hv
  have X : ml_X p s m c meth _ D cA cX12_copies 4 RX12 none := ⟨B.exec, B.bytes, hml, findClass_of_methodNamed B.named, fun w hw => atoms_spec (ws := Cond.code yX12_copies cX12_copies 4 none :: ml_T) B.pre w (List.mem_cons_of_mem _ hw), hK, B.notSynchronized, B.returns⟩
  have hl := lv_entry [.ref (base + (215 : Int).toNat), .int (Int32.ofInt x1), .int (Int32.ofInt x2)] (n := 4) (Nat.le_of_ble_eq_true rfl)
  rw [lg_entry_eq]
  generalize (lg_sl [.ref (base + (215 : Int).toNat), .int (Int32.ofInt x1), .int (Int32.ofInt x2)] ++ List.replicate (4 - (lg_sl [.ref (base + (215 : Int).toNat), .int (Int32.ofInt x1), .int (Int32.ofInt x2)]).length) Slot.unset).toArray = ls at hl ⊢
  have hl : lv_has ls 4 [(0, .ref (base + (215 : Int).toNat)), (1, .int (Int32.ofInt x1)), (2, .int (Int32.ofInt x2))] := hl
  unfold f_X12_copies at hw
  exact u_X12_copies_0 X hn σ x1 x2 h_x1 h_x2 _ (lv_sub hl [0, 1, 2] rfl) hw s.heap [] hP va_S.rf hok hro
theorem dX12_leads_0 : decode cX12_leads 0 = .ok (.iload 4, 2) := by decide +kernel
theorem dX12_leads_2 : decode cX12_leads 2 = .ok (.istore 5, 2) := by decide +kernel
theorem dX12_leads_4 : decode cX12_leads 4 = .ok (.iload_n 3, 1) := by decide +kernel
theorem dX12_leads_5 : decode cX12_leads 5 = .ok (.istore 6, 2) := by decide +kernel
theorem dX12_leads_7 : decode cX12_leads 7 = .ok (.aload_n 0, 1) := by decide +kernel
theorem dX12_leads_8 : decode cX12_leads 8 = .ok (.lconst 0, 1) := by decide +kernel
theorem dX12_leads_9 : decode cX12_leads 9 = .ok (.putfield 230, 3) := by decide +kernel
theorem dX12_leads_12 : decode cX12_leads 12 = .ok (.iload 6, 2) := by decide +kernel
theorem dX12_leads_14 : decode cX12_leads 14 = .ok (.ifCond .eq 7, 3) := by decide +kernel
theorem dX12_leads_17 : decode cX12_leads 17 = .ok (.iload_n 1, 1) := by decide +kernel
theorem dX12_leads_18 : decode cX12_leads 18 = .ok (.goto 4, 3) := by decide +kernel
theorem dX12_leads_21 : decode cX12_leads 21 = .ok (.iload_n 2, 1) := by decide +kernel
theorem dX12_leads_22 : decode cX12_leads 22 = .ok (.istore 7, 2) := by decide +kernel
theorem dX12_leads_24 : decode cX12_leads 24 = .ok (.aload_n 0, 1) := by decide +kernel
theorem dX12_leads_25 : decode cX12_leads 25 = .ok (.dup, 1) := by decide +kernel
theorem dX12_leads_26 : decode cX12_leads 26 = .ok (.getfield 230, 3) := by decide +kernel
theorem dX12_leads_29 : decode cX12_leads 29 = .ok (.aload_n 0, 1) := by decide +kernel
theorem dX12_leads_30 : decode cX12_leads 30 = .ok (.getfield 52, 3) := by decide +kernel
theorem dX12_leads_33 : decode cX12_leads 33 = .ok (.bipush 10, 2) := by decide +kernel
theorem dX12_leads_35 : decode cX12_leads 35 = .ok (.iload 7, 2) := by decide +kernel
theorem dX12_leads_37 : decode cX12_leads 37 = .ok (.imul, 1) := by decide +kernel
theorem dX12_leads_38 : decode cX12_leads 38 = .ok (.iload 5, 2) := by decide +kernel
theorem dX12_leads_40 : decode cX12_leads 40 = .ok (.iadd, 1) := by decide +kernel
theorem dX12_leads_41 : decode cX12_leads 41 = .ok (.laload, 1) := by decide +kernel
theorem dX12_leads_42 : decode cX12_leads 42 = .ok (.ladd, 1) := by decide +kernel
theorem dX12_leads_43 : decode cX12_leads 43 = .ok (.putfield 230, 3) := by decide +kernel
theorem dX12_leads_46 : decode cX12_leads 46 = .ok (.aload_n 0, 1) := by decide +kernel
theorem dX12_leads_47 : decode cX12_leads 47 = .ok (.getfield 49, 3) := by decide +kernel
theorem dX12_leads_50 : decode cX12_leads 50 = .ok (.bipush 10, 2) := by decide +kernel
theorem dX12_leads_52 : decode cX12_leads 52 = .ok (.iload 7, 2) := by decide +kernel
theorem dX12_leads_54 : decode cX12_leads 54 = .ok (.imul, 1) := by decide +kernel
theorem dX12_leads_55 : decode cX12_leads 55 = .ok (.iload 5, 2) := by decide +kernel
theorem dX12_leads_57 : decode cX12_leads 57 = .ok (.iadd, 1) := by decide +kernel
theorem dX12_leads_58 : decode cX12_leads 58 = .ok (.iaload, 1) := by decide +kernel
theorem dX12_leads_59 : decode cX12_leads 59 = .ok (.istore 5, 2) := by decide +kernel
theorem dX12_leads_61 : decode cX12_leads 61 = .ok (.iload 6, 2) := by decide +kernel
theorem dX12_leads_63 : decode cX12_leads 63 = .ok (.iload 5, 2) := by decide +kernel
theorem dX12_leads_65 : decode cX12_leads 65 = .ok (.aload_n 0, 1) := by decide +kernel
theorem dX12_leads_66 : decode cX12_leads 66 = .ok (.getfield 13, 3) := by decide +kernel
theorem dX12_leads_69 : decode cX12_leads 69 = .ok (.if_icmp .ge 7, 3) := by decide +kernel
theorem dX12_leads_72 : decode cX12_leads 72 = .ok (.iconst 1, 1) := by decide +kernel
theorem dX12_leads_73 : decode cX12_leads 73 = .ok (.goto 4, 3) := by decide +kernel
theorem dX12_leads_76 : decode cX12_leads 76 = .ok (.iconst 0, 1) := by decide +kernel
theorem dX12_leads_77 : decode cX12_leads 77 = .ok (.if_icmp .ne 6, 3) := by decide +kernel
theorem dX12_leads_80 : decode cX12_leads 80 = .ok (.iload 5, 2) := by decide +kernel
theorem dX12_leads_82 : decode cX12_leads 82 = .ok (.ireturn, 1) := by decide +kernel
theorem dX12_leads_83 : decode cX12_leads 83 = .ok (.iload 6, 2) := by decide +kernel
theorem dX12_leads_85 : decode cX12_leads 85 = .ok (.ifCond .eq 13, 3) := by decide +kernel
theorem dX12_leads_88 : decode cX12_leads 88 = .ok (.iload 5, 2) := by decide +kernel
theorem dX12_leads_90 : decode cX12_leads 90 = .ok (.aload_n 0, 1) := by decide +kernel
theorem dX12_leads_91 : decode cX12_leads 91 = .ok (.getfield 13, 3) := by decide +kernel
theorem dX12_leads_94 : decode cX12_leads 94 = .ok (.isub, 1) := by decide +kernel
theorem dX12_leads_95 : decode cX12_leads 95 = .ok (.goto 5, 3) := by decide +kernel
theorem dX12_leads_98 : decode cX12_leads 98 = .ok (.iload 5, 2) := by decide +kernel
theorem dX12_leads_100 : decode cX12_leads 100 = .ok (.istore 8, 2) := by decide +kernel
theorem dX12_leads_102 : decode cX12_leads 102 = .ok (.aload_n 0, 1) := by decide +kernel
theorem dX12_leads_103 : decode cX12_leads 103 = .ok (.getfield 64, 3) := by decide +kernel
theorem dX12_leads_106 : decode cX12_leads 106 = .ok (.iload 8, 2) := by decide +kernel
theorem dX12_leads_108 : decode cX12_leads 108 = .ok (.iconst 1, 1) := by decide +kernel
theorem dX12_leads_109 : decode cX12_leads 109 = .ok (.bastore, 1) := by decide +kernel
theorem dX12_leads_110 : decode cX12_leads 110 = .ok (.iload 6, 2) := by decide +kernel
theorem dX12_leads_112 : decode cX12_leads 112 = .ok (.ifCond .eq 8, 3) := by decide +kernel
theorem dX12_leads_115 : decode cX12_leads 115 = .ok (.iload 8, 2) := by decide +kernel
theorem dX12_leads_117 : decode cX12_leads 117 = .ok (.goto 10, 3) := by decide +kernel
theorem dX12_leads_120 : decode cX12_leads 120 = .ok (.iload 8, 2) := by decide +kernel
theorem dX12_leads_122 : decode cX12_leads 122 = .ok (.aload_n 0, 1) := by decide +kernel
theorem dX12_leads_123 : decode cX12_leads 123 = .ok (.getfield 13, 3) := by decide +kernel
theorem dX12_leads_126 : decode cX12_leads 126 = .ok (.iadd, 1) := by decide +kernel
theorem dX12_leads_127 : decode cX12_leads 127 = .ok (.istore 5, 2) := by decide +kernel
theorem dX12_leads_129 : decode cX12_leads 129 = .ok (.iload 6, 2) := by decide +kernel
theorem dX12_leads_131 : decode cX12_leads 131 = .ok (.ifCond .ne 7, 3) := by decide +kernel
theorem dX12_leads_134 : decode cX12_leads 134 = .ok (.iconst 1, 1) := by decide +kernel
theorem dX12_leads_135 : decode cX12_leads 135 = .ok (.goto 4, 3) := by decide +kernel
theorem dX12_leads_138 : decode cX12_leads 138 = .ok (.iconst 0, 1) := by decide +kernel
theorem dX12_leads_139 : decode cX12_leads 139 = .ok (.istore 6, 2) := by decide +kernel
theorem dX12_leads_141 : decode cX12_leads 141 = .ok (.goto (-129), 3) := by decide +kernel
def f_X12_leads_u139 (Q : Int → ml_St → Prop) (K12 : ml_St → Int → Int → Int → Int → Prop) (σ : ml_St) (x1 : Int) (x2 : Int) (x5 : Int) (s0 : Int) : Prop :=
K12 σ x1 x2 x5 s0
def f_X12_leads_u127 (Q : Int → ml_St → Prop) (K12 : ml_St → Int → Int → Int → Int → Prop) (σ : ml_St) (x1 : Int) (x2 : Int) (x6 : Int) (s0 : Int) : Prop :=
(x6 ≠ 0 →
f_X12_leads_u139 Q K12 σ x1 x2 s0 0) ∧
(x6 = 0 →
f_X12_leads_u139 Q K12 σ x1 x2 s0 1)
def f_X12_leads_u100 (Q : Int → ml_St → Prop) (K12 : ml_St → Int → Int → Int → Int → Prop) (σ : ml_St) (x1 : Int) (x2 : Int) (x6 : Int) (s0 : Int) : Prop :=
(0 : Int) ≤ s0 ∧ (s0 : Int) < 5 ∧
∀ σ1, σ1 = ml_up σ 232 s0 1 →
(x6 = 0 →
∀ _ : I32 (σ1 215 2),
I32 (s0 + (σ1 215 2)) ∧
f_X12_leads_u127 Q K12 σ1 x1 x2 x6 (s0 + (σ1 215 2))) ∧
(x6 ≠ 0 →
f_X12_leads_u127 Q K12 σ1 x1 x2 x6 s0)
def f_X12_leads_u77 (Q : Int → ml_St → Prop) (K12 : ml_St → Int → Int → Int → Int → Prop) (K80 : ml_St → Int → Prop) (σ : ml_St) (x1 : Int) (x2 : Int) (x5 : Int) (x6 : Int) (s0 : Int) (s1 : Int) : Prop :=
(s0 ≠ s1 →
(x6 = 0 →
f_X12_leads_u100 Q K12 σ x1 x2 x6 x5) ∧
(x6 ≠ 0 →
∀ _ : I32 (σ 215 2),
I32 (x5 - (σ 215 2)) ∧
f_X12_leads_u100 Q K12 σ x1 x2 x6 (x5 - (σ 215 2)))) ∧
(s0 = s1 →
K80 σ x5)
def f_X12_leads_u22 (Q : Int → ml_St → Prop) (K12 : ml_St → Int → Int → Int → Int → Prop) (K80 : ml_St → Int → Prop) (σ : ml_St) (x1 : Int) (x2 : Int) (x5 : Int) (x6 : Int) (s0 : Int) : Prop :=
∀ _ : I64 (σ 215 27),
I32 (10 * s0) ∧
I32 ((10 * s0) + x5) ∧
(0 : Int) ≤ ((10 * s0) + x5) ∧ (((10 * s0) + x5) : Int) < 640 ∧
∀ _ : I64 (σ 228 ((10 * s0) + x5)),
∀ σ6, σ6 = ml_up σ 215 27 (w64 ((σ 215 27) + (σ 228 ((10 * s0) + x5)))) →
I32 (10 * s0) ∧
I32 ((10 * s0) + x5) ∧
(0 : Int) ≤ ((10 * s0) + x5) ∧ (((10 * s0) + x5) : Int) < 640 ∧
∀ _ : I32 (σ6 227 ((10 * s0) + x5)),
∀ y10 : Int, y10 = σ6 227 ((10 * s0) + x5) →
∀ _ : I32 (σ6 215 2),
((σ6 215 2) ≤ y10 →
f_X12_leads_u77 Q K12 K80 σ6 x1 x2 y10 x6 x6 0) ∧
(¬ ((σ6 215 2) ≤ y10) →
f_X12_leads_u77 Q K12 K80 σ6 x1 x2 y10 x6 x6 1)
def f_X12_leads_u12 (Q : Int → ml_St → Prop) (K80 : ml_St → Int → Prop) : Nat → ml_St → Int → Int → Int → Int → Prop
| 0, _, _, _, _, _ => False
| N + 1, σ, x1, x2, x5, x6 =>
(x6 = 0 →
f_X12_leads_u22 Q (f_X12_leads_u12 Q K80 N) K80 σ x1 x2 x5 x6 x2) ∧
(x6 ≠ 0 →
f_X12_leads_u22 Q (f_X12_leads_u12 Q K80 N) K80 σ x1 x2 x5 x6 x1)
def f_X12_leads_u80 (Q : Int → ml_St → Prop) (σ : ml_St) (x5 : Int) : Prop :=
Q x5 σ
def f_X12_leads_u0 (Q : Int → ml_St → Prop) (σ : ml_St) (x1 : Int) (x2 : Int) (x3 : Int) (x4 : Int) : Prop :=
∀ σ1, σ1 = ml_up σ 215 27 0 →
∃ N1, f_X12_leads_u12 Q (f_X12_leads_u80 Q) N1 σ1 x1 x2 x4 x3
def f_X12_leads (σ : ml_St) (x1 : Int) (x2 : Int) (x3 : Int) (x4 : Int) (Q : Int → ml_St → Prop) : Prop := f_X12_leads_u0 Q σ x1 x2 x3 x4
def rm_X12_leads : Room := { frames := 0, cells := 0, slots := 0, locals := 0 }
set_option maxRecDepth 100000 in
set_option maxHeartbeats 4000000 in
theorem u_X12_leads_139 {p : Program} {e : Env} {s : State} {m : MethodId} {args : Array Value} {below : List Frame} {meth : Method} {c : Code} {base : Nat} {D : va_G} {cA : Nat → ClassId} {n : Nat} {l : Launch} {Q : Int → ml_St → Prop} {K12 : ml_St → Int → Int → Int → Int → Prop} (X : ml_X p s m c meth args D cA cX12_leads 9 RX12 (some .int)) (hn : 256 ≤ n) (hK12 : ∀ (σ : ml_St) (x1 : Int) (x2 : Int) (x5 : Int) (x6 : Int) (h_x1 : I32 x1) (h_x2 : I32 x2) (h_x5 : I32 x5) (h_x6 : ml_B x6) (ls : Array Slot), lv_has ls 9 [(0, .ref (base + (215 : Int).toNat)), (1, .int (Int32.ofInt x1)), (2, .int (Int32.ofInt x2)), (5, .int (Int32.ofInt x5)), (6, .int (Int32.ofInt x6))] → K12 σ x1 x2 x5 x6 → ml_V p l e rm_X12_leads s m args below meth c (MQ below (ml_Qi I32 base D cA n Q) args s 0 0 (ml_A base)) base D cA 0 0 n n σ (F0 m 12 ls [])) (σ : ml_St) (x1 : Int) (x2 : Int) (x5 : Int) (s0 : Int) (h_x1 : I32 x1) (h_x2 : I32 x2) (h_x5 : I32 x5) (h_s0 : ml_B s0) (ls : Array Slot) (hl : lv_has ls 9 [(0, .ref (base + (215 : Int).toNat)), (1, .int (Int32.ofInt x1)), (2, .int (Int32.ofInt x2)), (5, .int (Int32.ofInt x5))]) (hw : f_X12_leads_u139 Q K12 σ x1 x2 x5 s0) : ml_V p l e rm_X12_leads s m args below meth c (MQ below (ml_Qi I32 base D cA n Q) args s 0 0 (ml_A base)) base D cA 0 0 n n σ (F0 m 139 ls [.int (Int32.ofInt s0)]) := by
  unfold f_X12_leads_u139 at hw
  refine ml_istore (pc := 139) X hl (by decide) (lst' := [(6, .int (Int32.ofInt s0)), (0, .ref (base + (215 : Int).toNat)), (1, .int (Int32.ofInt x1)), (2, .int (Int32.ofInt x2)), (5, .int (Int32.ofInt x5))]) rfl dX12_leads_139 (fun ls hl => ?_)
  refine ml_goto (pc := 141) (tgt := 12) X dX12_leads_141 (by decide) ?_
  exact hK12 σ x1 x2 x5 s0 h_x1 h_x2 h_x5 h_s0 _ (lv_sub hl [1, 2, 3, 4, 0] rfl) hw
set_option maxRecDepth 100000 in
set_option maxHeartbeats 4000000 in
theorem u_X12_leads_127 {p : Program} {e : Env} {s : State} {m : MethodId} {args : Array Value} {below : List Frame} {meth : Method} {c : Code} {base : Nat} {D : va_G} {cA : Nat → ClassId} {n : Nat} {l : Launch} {Q : Int → ml_St → Prop} {K12 : ml_St → Int → Int → Int → Int → Prop} (X : ml_X p s m c meth args D cA cX12_leads 9 RX12 (some .int)) (hn : 256 ≤ n) (hK12 : ∀ (σ : ml_St) (x1 : Int) (x2 : Int) (x5 : Int) (x6 : Int) (h_x1 : I32 x1) (h_x2 : I32 x2) (h_x5 : I32 x5) (h_x6 : ml_B x6) (ls : Array Slot), lv_has ls 9 [(0, .ref (base + (215 : Int).toNat)), (1, .int (Int32.ofInt x1)), (2, .int (Int32.ofInt x2)), (5, .int (Int32.ofInt x5)), (6, .int (Int32.ofInt x6))] → K12 σ x1 x2 x5 x6 → ml_V p l e rm_X12_leads s m args below meth c (MQ below (ml_Qi I32 base D cA n Q) args s 0 0 (ml_A base)) base D cA 0 0 n n σ (F0 m 12 ls [])) (σ : ml_St) (x1 : Int) (x2 : Int) (x6 : Int) (s0 : Int) (h_x1 : I32 x1) (h_x2 : I32 x2) (h_x6 : ml_B x6) (h_s0 : I32 s0) (ls : Array Slot) (hl : lv_has ls 9 [(0, .ref (base + (215 : Int).toNat)), (1, .int (Int32.ofInt x1)), (2, .int (Int32.ofInt x2)), (6, .int (Int32.ofInt x6))]) (hw : f_X12_leads_u127 Q K12 σ x1 x2 x6 s0) : ml_V p l e rm_X12_leads s m args below meth c (MQ below (ml_Qi I32 base D cA n Q) args s 0 0 (ml_A base)) base D cA 0 0 n n σ (F0 m 127 ls [.int (Int32.ofInt s0)]) := by
  unfold f_X12_leads_u127 at hw
  refine ml_istore (pc := 127) X hl (by decide) (lst' := [(5, .int (Int32.ofInt s0)), (0, .ref (base + (215 : Int).toNat)), (1, .int (Int32.ofInt x1)), (2, .int (Int32.ofInt x2)), (6, .int (Int32.ofInt x6))]) rfl dX12_leads_127 (fun ls hl => ?_)
  refine ml_iload (pc := 129) X hl 4 rfl dX12_leads_129 ?_
  refine ml_if_ne (pc := 131) (tgt := 138) X h_x6.i dX12_leads_131 (by decide) (fun c1 => ?_) (fun c1 => ?_)
  · have hw := hw.1 c1
    refine ml_iconst (pc := 138) X dX12_leads_138 ?_
    exact u_X12_leads_139 X hn hK12 σ x1 x2 s0 0 h_x1 h_x2 h_s0 ⟨by decide, by decide⟩ _ (lv_sub hl [1, 2, 3, 0] rfl) hw
  · have hw := hw.2 c1
    refine ml_iconst (pc := 134) X dX12_leads_134 ?_
    refine ml_goto (pc := 135) (tgt := 139) X dX12_leads_135 (by decide) ?_
    exact u_X12_leads_139 X hn hK12 σ x1 x2 s0 1 h_x1 h_x2 h_s0 ⟨by decide, by decide⟩ _ (lv_sub hl [1, 2, 3, 0] rfl) hw
set_option maxRecDepth 100000 in
set_option maxHeartbeats 4000000 in
theorem u_X12_leads_100 {p : Program} {e : Env} {s : State} {m : MethodId} {args : Array Value} {below : List Frame} {meth : Method} {c : Code} {base : Nat} {D : va_G} {cA : Nat → ClassId} {n : Nat} {l : Launch} {Q : Int → ml_St → Prop} {K12 : ml_St → Int → Int → Int → Int → Prop} (X : ml_X p s m c meth args D cA cX12_leads 9 RX12 (some .int)) (hn : 256 ≤ n) (hK12 : ∀ (σ : ml_St) (x1 : Int) (x2 : Int) (x5 : Int) (x6 : Int) (h_x1 : I32 x1) (h_x2 : I32 x2) (h_x5 : I32 x5) (h_x6 : ml_B x6) (ls : Array Slot), lv_has ls 9 [(0, .ref (base + (215 : Int).toNat)), (1, .int (Int32.ofInt x1)), (2, .int (Int32.ofInt x2)), (5, .int (Int32.ofInt x5)), (6, .int (Int32.ofInt x6))] → K12 σ x1 x2 x5 x6 → ml_V p l e rm_X12_leads s m args below meth c (MQ below (ml_Qi I32 base D cA n Q) args s 0 0 (ml_A base)) base D cA 0 0 n n σ (F0 m 12 ls [])) (σ : ml_St) (x1 : Int) (x2 : Int) (x6 : Int) (s0 : Int) (h_x1 : I32 x1) (h_x2 : I32 x2) (h_x6 : ml_B x6) (h_s0 : I32 s0) (ls : Array Slot) (hl : lv_has ls 9 [(0, .ref (base + (215 : Int).toNat)), (1, .int (Int32.ofInt x1)), (2, .int (Int32.ofInt x2)), (6, .int (Int32.ofInt x6))]) (hw : f_X12_leads_u100 Q K12 σ x1 x2 x6 s0) : ml_V p l e rm_X12_leads s m args below meth c (MQ below (ml_Qi I32 base D cA n Q) args s 0 0 (ml_A base)) base D cA 0 0 n n σ (F0 m 100 ls [.int (Int32.ofInt s0)]) := by
  unfold f_X12_leads_u100 at hw
  refine ml_istore (pc := 100) X hl (by decide) (lst' := [(8, .int (Int32.ofInt s0)), (0, .ref (base + (215 : Int).toNat)), (1, .int (Int32.ofInt x1)), (2, .int (Int32.ofInt x2)), (6, .int (Int32.ofInt x6))]) rfl dX12_leads_100 (fun ls hl => ?_)
  refine ml_aload_n (pc := 102) X hl 1 rfl rfl dX12_leads_102 ?_
  refine gf_X12_64 (pc := 103) X (ml_c215 hn) dX12_leads_103 ?_
  refine ml_iload (pc := 106) X hl 0 rfl dX12_leads_106 ?_
  refine ml_iconst (pc := 108) X dX12_leads_108 ?_
  obtain ⟨a1, b1, hw⟩ := hw
  refine ml_zast (pc := 109) (N := 5) X (ml_c232 hn) a1 b1 ⟨by decide, by decide⟩ dX12_leads_109 (fun σ1 g1 => ?_)
  have hw := hw σ1 g1
  refine ml_iload (pc := 110) X hl 4 rfl dX12_leads_110 ?_
  refine ml_if_eq (pc := 112) (tgt := 120) X h_x6.i dX12_leads_112 (by decide) (fun c2 => ?_) (fun c2 => ?_)
  · have hw := hw.1 c2
    refine ml_iload (pc := 120) X hl 0 rfl dX12_leads_120 ?_
    refine ml_aload_n (pc := 122) X hl 1 rfl rfl dX12_leads_122 ?_
    refine gf_X12_13 (pc := 123) X (ml_c215 hn) dX12_leads_123 (fun r3 => ?_)
    have hw := hw r3
    obtain ⟨v4, hw⟩ := hw
    refine ml_iadd (pc := 126) X dX12_leads_126 ?_
    exact u_X12_leads_127 X hn hK12 σ1 x1 x2 x6 (s0 + (σ1 215 2)) h_x1 h_x2 h_x6 v4 _ (lv_sub hl [1, 2, 3, 4] rfl) hw
  · have hw := hw.2 c2
    refine ml_iload (pc := 115) X hl 0 rfl dX12_leads_115 ?_
    refine ml_goto (pc := 117) (tgt := 127) X dX12_leads_117 (by decide) ?_
    exact u_X12_leads_127 X hn hK12 σ1 x1 x2 x6 s0 h_x1 h_x2 h_x6 h_s0 _ (lv_sub hl [1, 2, 3, 4] rfl) hw
set_option maxRecDepth 100000 in
set_option maxHeartbeats 4000000 in
theorem u_X12_leads_77 {p : Program} {e : Env} {s : State} {m : MethodId} {args : Array Value} {below : List Frame} {meth : Method} {c : Code} {base : Nat} {D : va_G} {cA : Nat → ClassId} {n : Nat} {l : Launch} {Q : Int → ml_St → Prop} {K12 : ml_St → Int → Int → Int → Int → Prop} {K80 : ml_St → Int → Prop} (X : ml_X p s m c meth args D cA cX12_leads 9 RX12 (some .int)) (hn : 256 ≤ n) (hK12 : ∀ (σ : ml_St) (x1 : Int) (x2 : Int) (x5 : Int) (x6 : Int) (h_x1 : I32 x1) (h_x2 : I32 x2) (h_x5 : I32 x5) (h_x6 : ml_B x6) (ls : Array Slot), lv_has ls 9 [(0, .ref (base + (215 : Int).toNat)), (1, .int (Int32.ofInt x1)), (2, .int (Int32.ofInt x2)), (5, .int (Int32.ofInt x5)), (6, .int (Int32.ofInt x6))] → K12 σ x1 x2 x5 x6 → ml_V p l e rm_X12_leads s m args below meth c (MQ below (ml_Qi I32 base D cA n Q) args s 0 0 (ml_A base)) base D cA 0 0 n n σ (F0 m 12 ls [])) (hK80 : ∀ (σ : ml_St) (x5 : Int) (h_x5 : I32 x5) (ls : Array Slot), lv_has ls 9 [(5, .int (Int32.ofInt x5))] → K80 σ x5 → ml_V p l e rm_X12_leads s m args below meth c (MQ below (ml_Qi I32 base D cA n Q) args s 0 0 (ml_A base)) base D cA 0 0 n n σ (F0 m 80 ls [])) (σ : ml_St) (x1 : Int) (x2 : Int) (x5 : Int) (x6 : Int) (s0 : Int) (s1 : Int) (h_x1 : I32 x1) (h_x2 : I32 x2) (h_x5 : I32 x5) (h_x6 : ml_B x6) (h_s0 : ml_B s0) (h_s1 : ml_B s1) (ls : Array Slot) (hl : lv_has ls 9 [(0, .ref (base + (215 : Int).toNat)), (1, .int (Int32.ofInt x1)), (2, .int (Int32.ofInt x2)), (5, .int (Int32.ofInt x5)), (6, .int (Int32.ofInt x6))]) (hw : f_X12_leads_u77 Q K12 K80 σ x1 x2 x5 x6 s0 s1) : ml_V p l e rm_X12_leads s m args below meth c (MQ below (ml_Qi I32 base D cA n Q) args s 0 0 (ml_A base)) base D cA 0 0 n n σ (F0 m 77 ls [.int (Int32.ofInt s1), .int (Int32.ofInt s0)]) := by
  unfold f_X12_leads_u77 at hw
  refine ml_icmp_ne (pc := 77) (tgt := 83) X h_s0.i h_s1.i dX12_leads_77 (by decide) (fun c1 => ?_) (fun c1 => ?_)
  · have hw := hw.1 c1
    refine ml_iload (pc := 83) X hl 4 rfl dX12_leads_83 ?_
    refine ml_if_eq (pc := 85) (tgt := 98) X h_x6.i dX12_leads_85 (by decide) (fun c2 => ?_) (fun c2 => ?_)
    · have hw := hw.1 c2
      refine ml_iload (pc := 98) X hl 3 rfl dX12_leads_98 ?_
      exact u_X12_leads_100 X hn hK12 σ x1 x2 x6 x5 h_x1 h_x2 h_x6 h_x5 _ (lv_sub hl [0, 1, 2, 4] rfl) hw
    · have hw := hw.2 c2
      refine ml_iload (pc := 88) X hl 3 rfl dX12_leads_88 ?_
      refine ml_aload_n (pc := 90) X hl 0 rfl rfl dX12_leads_90 ?_
      refine gf_X12_13 (pc := 91) X (ml_c215 hn) dX12_leads_91 (fun r3 => ?_)
      have hw := hw r3
      obtain ⟨v4, hw⟩ := hw
      refine ml_isub (pc := 94) X dX12_leads_94 ?_
      refine ml_goto (pc := 95) (tgt := 100) X dX12_leads_95 (by decide) ?_
      exact u_X12_leads_100 X hn hK12 σ x1 x2 x6 (x5 - (σ 215 2)) h_x1 h_x2 h_x6 v4 _ (lv_sub hl [0, 1, 2, 4] rfl) hw
  · have hw := hw.2 c1
    exact hK80 σ x5 h_x5 _ (lv_sub hl [3] rfl) hw
set_option maxRecDepth 100000 in
set_option maxHeartbeats 4000000 in
theorem u_X12_leads_22 {p : Program} {e : Env} {s : State} {m : MethodId} {args : Array Value} {below : List Frame} {meth : Method} {c : Code} {base : Nat} {D : va_G} {cA : Nat → ClassId} {n : Nat} {l : Launch} {Q : Int → ml_St → Prop} {K12 : ml_St → Int → Int → Int → Int → Prop} {K80 : ml_St → Int → Prop} (X : ml_X p s m c meth args D cA cX12_leads 9 RX12 (some .int)) (hn : 256 ≤ n) (hK12 : ∀ (σ : ml_St) (x1 : Int) (x2 : Int) (x5 : Int) (x6 : Int) (h_x1 : I32 x1) (h_x2 : I32 x2) (h_x5 : I32 x5) (h_x6 : ml_B x6) (ls : Array Slot), lv_has ls 9 [(0, .ref (base + (215 : Int).toNat)), (1, .int (Int32.ofInt x1)), (2, .int (Int32.ofInt x2)), (5, .int (Int32.ofInt x5)), (6, .int (Int32.ofInt x6))] → K12 σ x1 x2 x5 x6 → ml_V p l e rm_X12_leads s m args below meth c (MQ below (ml_Qi I32 base D cA n Q) args s 0 0 (ml_A base)) base D cA 0 0 n n σ (F0 m 12 ls [])) (hK80 : ∀ (σ : ml_St) (x5 : Int) (h_x5 : I32 x5) (ls : Array Slot), lv_has ls 9 [(5, .int (Int32.ofInt x5))] → K80 σ x5 → ml_V p l e rm_X12_leads s m args below meth c (MQ below (ml_Qi I32 base D cA n Q) args s 0 0 (ml_A base)) base D cA 0 0 n n σ (F0 m 80 ls [])) (σ : ml_St) (x1 : Int) (x2 : Int) (x5 : Int) (x6 : Int) (s0 : Int) (h_x1 : I32 x1) (h_x2 : I32 x2) (h_x5 : I32 x5) (h_x6 : ml_B x6) (h_s0 : I32 s0) (ls : Array Slot) (hl : lv_has ls 9 [(0, .ref (base + (215 : Int).toNat)), (1, .int (Int32.ofInt x1)), (2, .int (Int32.ofInt x2)), (5, .int (Int32.ofInt x5)), (6, .int (Int32.ofInt x6))]) (hw : f_X12_leads_u22 Q K12 K80 σ x1 x2 x5 x6 s0) : ml_V p l e rm_X12_leads s m args below meth c (MQ below (ml_Qi I32 base D cA n Q) args s 0 0 (ml_A base)) base D cA 0 0 n n σ (F0 m 22 ls [.int (Int32.ofInt s0)]) := by
  unfold f_X12_leads_u22 at hw
  refine ml_istore (pc := 22) X hl (by decide) (lst' := [(7, .int (Int32.ofInt s0)), (0, .ref (base + (215 : Int).toNat)), (1, .int (Int32.ofInt x1)), (2, .int (Int32.ofInt x2)), (5, .int (Int32.ofInt x5)), (6, .int (Int32.ofInt x6))]) rfl dX12_leads_22 (fun ls hl => ?_)
  refine ml_aload_n (pc := 24) X hl 1 rfl rfl dX12_leads_24 ?_
  refine ml_dup (pc := 25) X dX12_leads_25 rfl ?_
  refine gf_X12_230 (pc := 26) X (ml_c215 hn) dX12_leads_26 (fun r1 => ?_)
  have hw := hw r1
  refine ml_aload_n (pc := 29) X hl 1 rfl rfl dX12_leads_29 ?_
  refine gf_X12_52 (pc := 30) X (ml_c215 hn) dX12_leads_30 ?_
  refine ml_bipush (pc := 33) X dX12_leads_33 (by decide) ?_
  refine ml_iload (pc := 35) X hl 0 rfl dX12_leads_35 ?_
  obtain ⟨v2, hw⟩ := hw
  refine ml_imul (pc := 37) X dX12_leads_37 ?_
  refine ml_iload (pc := 38) X hl 4 rfl dX12_leads_38 ?_
  obtain ⟨v3, hw⟩ := hw
  refine ml_iadd (pc := 40) X dX12_leads_40 ?_
  obtain ⟨a4, b4, hw⟩ := hw
  refine ml_lald (pc := 41) (N := 640) X (ml_c228 hn) a4 b4 dX12_leads_41 (fun r4 => ?_)
  have hw := hw r4
  refine ml_laddW (pc := 42) X dX12_leads_42 ?_
  refine pf_X12_230 (pc := 43) X (ml_c215 hn) (w64_r _) dX12_leads_43 (fun σ6 g6 => ?_)
  have hw := hw σ6 g6
  refine ml_aload_n (pc := 46) X hl 1 rfl rfl dX12_leads_46 ?_
  refine gf_X12_49 (pc := 47) X (ml_c215 hn) dX12_leads_47 ?_
  refine ml_bipush (pc := 50) X dX12_leads_50 (by decide) ?_
  refine ml_iload (pc := 52) X hl 0 rfl dX12_leads_52 ?_
  obtain ⟨v7, hw⟩ := hw
  refine ml_imul (pc := 54) X dX12_leads_54 ?_
  refine ml_iload (pc := 55) X hl 4 rfl dX12_leads_55 ?_
  obtain ⟨v8, hw⟩ := hw
  refine ml_iadd (pc := 57) X dX12_leads_57 ?_
  obtain ⟨a9, b9, hw⟩ := hw
  refine ml_iald (pc := 58) (N := 640) X (ml_c227 hn) a9 b9 dX12_leads_58 (fun r9 => ?_)
  have hw := hw r9
  refine ml_topI (pc := 59) (fun y10 e10 => ?_)
  have hw := hw y10 e10
  have q10 : I32 y10 := by rw [e10]; exact r9
  refine ml_istore (pc := 59) X hl (by decide) (lst' := [(5, .int (Int32.ofInt y10)), (7, .int (Int32.ofInt s0)), (0, .ref (base + (215 : Int).toNat)), (1, .int (Int32.ofInt x1)), (2, .int (Int32.ofInt x2)), (6, .int (Int32.ofInt x6))]) rfl dX12_leads_59 (fun ls hl => ?_)
  refine ml_iload (pc := 61) X hl 5 rfl dX12_leads_61 ?_
  refine ml_iload (pc := 63) X hl 0 rfl dX12_leads_63 ?_
  refine ml_aload_n (pc := 65) X hl 2 rfl rfl dX12_leads_65 ?_
  refine gf_X12_13 (pc := 66) X (ml_c215 hn) dX12_leads_66 (fun r11 => ?_)
  have hw := hw r11
  refine ml_icmp_ge (pc := 69) (tgt := 76) X q10 r11 dX12_leads_69 (by decide) (fun c12 => ?_) (fun c12 => ?_)
  · have hw := hw.1 c12
    refine ml_iconst (pc := 76) X dX12_leads_76 ?_
    exact u_X12_leads_77 X hn hK12 hK80 σ6 x1 x2 y10 x6 x6 0 h_x1 h_x2 q10 h_x6 h_x6 ⟨by decide, by decide⟩ _ (lv_sub hl [2, 3, 4, 0, 5] rfl) hw
  · have hw := hw.2 c12
    refine ml_iconst (pc := 72) X dX12_leads_72 ?_
    refine ml_goto (pc := 73) (tgt := 77) X dX12_leads_73 (by decide) ?_
    exact u_X12_leads_77 X hn hK12 hK80 σ6 x1 x2 y10 x6 x6 1 h_x1 h_x2 q10 h_x6 h_x6 ⟨by decide, by decide⟩ _ (lv_sub hl [2, 3, 4, 0, 5] rfl) hw
set_option maxRecDepth 100000 in
set_option maxHeartbeats 4000000 in
theorem u_X12_leads_12 {p : Program} {e : Env} {s : State} {m : MethodId} {args : Array Value} {below : List Frame} {meth : Method} {c : Code} {base : Nat} {D : va_G} {cA : Nat → ClassId} {n : Nat} {l : Launch} {Q : Int → ml_St → Prop} {K80 : ml_St → Int → Prop} (X : ml_X p s m c meth args D cA cX12_leads 9 RX12 (some .int)) (hn : 256 ≤ n) (hK80 : ∀ (σ : ml_St) (x5 : Int) (h_x5 : I32 x5) (ls : Array Slot), lv_has ls 9 [(5, .int (Int32.ofInt x5))] → K80 σ x5 → ml_V p l e rm_X12_leads s m args below meth c (MQ below (ml_Qi I32 base D cA n Q) args s 0 0 (ml_A base)) base D cA 0 0 n n σ (F0 m 80 ls [])) : ∀ (N : Nat) (σ : ml_St) (x1 : Int) (x2 : Int) (x5 : Int) (x6 : Int) (h_x1 : I32 x1) (h_x2 : I32 x2) (h_x5 : I32 x5) (h_x6 : ml_B x6) (ls : Array Slot), lv_has ls 9 [(0, .ref (base + (215 : Int).toNat)), (1, .int (Int32.ofInt x1)), (2, .int (Int32.ofInt x2)), (5, .int (Int32.ofInt x5)), (6, .int (Int32.ofInt x6))] → f_X12_leads_u12 Q K80 N σ x1 x2 x5 x6 → ml_V p l e rm_X12_leads s m args below meth c (MQ below (ml_Qi I32 base D cA n Q) args s 0 0 (ml_A base)) base D cA 0 0 n n σ (F0 m 12 ls []) := by
  intro N
  induction N with
  | zero => intro σ x1 x2 x5 x6 h_x1 h_x2 h_x5 h_x6 ls hl hw; exact False.elim hw
  | succ N ih =>
    intro σ x1 x2 x5 x6 h_x1 h_x2 h_x5 h_x6 ls hl hw
    unfold f_X12_leads_u12 at hw
    refine ml_iload (pc := 12) X hl 4 rfl dX12_leads_12 ?_
    refine ml_if_eq (pc := 14) (tgt := 21) X h_x6.i dX12_leads_14 (by decide) (fun c1 => ?_) (fun c1 => ?_)
    · have hw := hw.1 c1
      refine ml_iload_n (pc := 21) X hl 2 rfl rfl dX12_leads_21 ?_
      exact u_X12_leads_22 X hn ih hK80 σ x1 x2 x5 x6 x2 h_x1 h_x2 h_x5 h_x6 h_x2 _ (lv_sub hl [0, 1, 2, 3, 4] rfl) hw
    · have hw := hw.2 c1
      refine ml_iload_n (pc := 17) X hl 1 rfl rfl dX12_leads_17 ?_
      refine ml_goto (pc := 18) (tgt := 22) X dX12_leads_18 (by decide) ?_
      exact u_X12_leads_22 X hn ih hK80 σ x1 x2 x5 x6 x1 h_x1 h_x2 h_x5 h_x6 h_x1 _ (lv_sub hl [0, 1, 2, 3, 4] rfl) hw
set_option maxRecDepth 100000 in
set_option maxHeartbeats 4000000 in
theorem u_X12_leads_80 {p : Program} {e : Env} {s : State} {m : MethodId} {args : Array Value} {below : List Frame} {meth : Method} {c : Code} {base : Nat} {D : va_G} {cA : Nat → ClassId} {n : Nat} {l : Launch} {Q : Int → ml_St → Prop} (X : ml_X p s m c meth args D cA cX12_leads 9 RX12 (some .int)) (hn : 256 ≤ n) (σ : ml_St) (x5 : Int) (h_x5 : I32 x5) (ls : Array Slot) (hl : lv_has ls 9 [(5, .int (Int32.ofInt x5))]) (hw : f_X12_leads_u80 Q σ x5) : ml_V p l e rm_X12_leads s m args below meth c (MQ below (ml_Qi I32 base D cA n Q) args s 0 0 (ml_A base)) base D cA 0 0 n n σ (F0 m 80 ls []) := by
  unfold f_X12_leads_u80 at hw
  refine ml_iload (pc := 80) X hl 0 rfl dX12_leads_80 ?_
  exact ml_iret (pc := 82) X h_x5 hw dX12_leads_82
set_option maxRecDepth 100000 in
set_option maxHeartbeats 4000000 in
theorem u_X12_leads_0 {p : Program} {e : Env} {s : State} {m : MethodId} {args : Array Value} {below : List Frame} {meth : Method} {c : Code} {base : Nat} {D : va_G} {cA : Nat → ClassId} {n : Nat} {l : Launch} {Q : Int → ml_St → Prop} (X : ml_X p s m c meth args D cA cX12_leads 9 RX12 (some .int)) (hn : 256 ≤ n) (σ : ml_St) (x1 : Int) (x2 : Int) (x3 : Int) (x4 : Int) (h_x1 : I32 x1) (h_x2 : I32 x2) (h_x3 : ml_B x3) (h_x4 : I32 x4) (ls : Array Slot) (hl : lv_has ls 9 [(0, .ref (base + (215 : Int).toNat)), (1, .int (Int32.ofInt x1)), (2, .int (Int32.ofInt x2)), (3, .int (Int32.ofInt x3)), (4, .int (Int32.ofInt x4))]) (hw : f_X12_leads_u0 Q σ x1 x2 x3 x4) : ml_V p l e rm_X12_leads s m args below meth c (MQ below (ml_Qi I32 base D cA n Q) args s 0 0 (ml_A base)) base D cA 0 0 n n σ (F0 m 0 ls []) := by
  unfold f_X12_leads_u0 at hw
  refine ml_iload (pc := 0) X hl 4 rfl dX12_leads_0 ?_
  refine ml_istore (pc := 2) X hl (by decide) (lst' := [(5, .int (Int32.ofInt x4)), (0, .ref (base + (215 : Int).toNat)), (1, .int (Int32.ofInt x1)), (2, .int (Int32.ofInt x2)), (3, .int (Int32.ofInt x3)), (4, .int (Int32.ofInt x4))]) rfl dX12_leads_2 (fun ls hl => ?_)
  refine ml_iload_n (pc := 4) X hl 4 rfl rfl dX12_leads_4 ?_
  refine ml_istore (pc := 5) X hl (by decide) (lst' := [(6, .int (Int32.ofInt x3)), (5, .int (Int32.ofInt x4)), (0, .ref (base + (215 : Int).toNat)), (1, .int (Int32.ofInt x1)), (2, .int (Int32.ofInt x2)), (3, .int (Int32.ofInt x3)), (4, .int (Int32.ofInt x4))]) rfl dX12_leads_5 (fun ls hl => ?_)
  refine ml_aload_n (pc := 7) X hl 2 rfl rfl dX12_leads_7 ?_
  refine ml_lconst0 (pc := 8) X dX12_leads_8 ?_
  refine pf_X12_230 (pc := 9) X (ml_c215 hn) ⟨by decide, by decide⟩ dX12_leads_9 (fun σ1 g1 => ?_)
  have hw := hw σ1 g1
  obtain ⟨N0, hw⟩ := hw
  exact u_X12_leads_12 X hn (fun σ x5 h_x5 ls hl hw => u_X12_leads_80 X hn σ x5 h_x5 ls hl hw) N0 σ1 x1 x2 x4 x3 h_x1 h_x2 h_x4 h_x3 _ (lv_sub hl [2, 3, 4, 1, 0] rfl) hw
set_option maxRecDepth 100000 in
theorem c_X12_leads (l : Launch) (base : Nat) (D : va_G) (cA : Nat → ClassId) (n : Nat) (hn : 256 ≤ n) (σ : ml_St) (x1 : Int) (x2 : Int) (x3 : Int) (x4 : Int) (h_x1 : I32 x1) (h_x2 : I32 x2) (h_x3 : ml_B x3) (h_x4 : I32 x4) (Q : Int → ml_St → Prop) (hw : f_X12_leads σ x1 x2 x3 x4 Q) : Met l yX12_leads (Cond.code yX12_leads cX12_leads 9 (some .int) :: ml_T) rm_X12_leads (va_Pc [.ref (base + (215 : Int).toNat), .int (Int32.ofInt x1), .int (Int32.ofInt x2), .int (Int32.ofInt x3), .int (Int32.ofInt x4)] (ml_U base D cA n σ)) (ml_Qi I32 base D cA n Q) 0 0 (ml_A base) := by
  refine Met.ofW (cc := cX12_leads) (maxL := 9) (ret := (some .int)) (by decide) rfl ?_
  intro p e s m args below meth c s₁ B hml hv
  obtain ⟨rfl, hP, hK, hok, hro⟩ := hv
  have X : ml_X p s m c meth _ D cA cX12_leads 9 RX12 (some .int) := ⟨B.exec, B.bytes, hml, findClass_of_methodNamed B.named, fun w hw => atoms_spec (ws := Cond.code yX12_leads cX12_leads 9 (some .int) :: ml_T) B.pre w (List.mem_cons_of_mem _ hw), hK, B.notSynchronized, B.returns⟩
  have hl := lv_entry [.ref (base + (215 : Int).toNat), .int (Int32.ofInt x1), .int (Int32.ofInt x2), .int (Int32.ofInt x3), .int (Int32.ofInt x4)] (n := 9) (Nat.le_of_ble_eq_true rfl)
  rw [lg_entry_eq]
  generalize (lg_sl [.ref (base + (215 : Int).toNat), .int (Int32.ofInt x1), .int (Int32.ofInt x2), .int (Int32.ofInt x3), .int (Int32.ofInt x4)] ++ List.replicate (9 - (lg_sl [.ref (base + (215 : Int).toNat), .int (Int32.ofInt x1), .int (Int32.ofInt x2), .int (Int32.ofInt x3), .int (Int32.ofInt x4)]).length) Slot.unset).toArray = ls at hl ⊢
  have hl : lv_has ls 9 [(0, .ref (base + (215 : Int).toNat)), (1, .int (Int32.ofInt x1)), (2, .int (Int32.ofInt x2)), (3, .int (Int32.ofInt x3)), (4, .int (Int32.ofInt x4))] := hl
  unfold f_X12_leads at hw
  exact u_X12_leads_0 X hn σ x1 x2 x3 x4 h_x1 h_x2 h_x3 h_x4 _ (lv_sub hl [0, 1, 2, 3, 4] rfl) hw s.heap [] hP va_S.rf hok hro
theorem dX12_ring_0 : decode cX12_ring 0 = .ok (.lconst 0, 1) := by decide +kernel
theorem dX12_ring_1 : decode cX12_ring 1 = .ok (.lstore 5, 2) := by decide +kernel
theorem dX12_ring_3 : decode cX12_ring 3 = .ok (.iload 4, 2) := by decide +kernel
theorem dX12_ring_5 : decode cX12_ring 5 = .ok (.istore 7, 2) := by decide +kernel
theorem dX12_ring_7 : decode cX12_ring 7 = .ok (.iconst 1, 1) := by decide +kernel
theorem dX12_ring_8 : decode cX12_ring 8 = .ok (.istore 8, 2) := by decide +kernel
theorem dX12_ring_10 : decode cX12_ring 10 = .ok (.iload 8, 2) := by decide +kernel
theorem dX12_ring_12 : decode cX12_ring 12 = .ok (.ifCond .eq 113, 3) := by decide +kernel
theorem dX12_ring_15 : decode cX12_ring 15 = .ok (.aload_n 0, 1) := by decide +kernel
theorem dX12_ring_16 : decode cX12_ring 16 = .ok (.getfield 64, 3) := by decide +kernel
theorem dX12_ring_19 : decode cX12_ring 19 = .ok (.iload 7, 2) := by decide +kernel
theorem dX12_ring_21 : decode cX12_ring 21 = .ok (.iconst 1, 1) := by decide +kernel
theorem dX12_ring_22 : decode cX12_ring 22 = .ok (.bastore, 1) := by decide +kernel
theorem dX12_ring_23 : decode cX12_ring 23 = .ok (.lload 5, 2) := by decide +kernel
theorem dX12_ring_25 : decode cX12_ring 25 = .ok (.aload_n 0, 1) := by decide +kernel
theorem dX12_ring_26 : decode cX12_ring 26 = .ok (.getfield 52, 3) := by decide +kernel
theorem dX12_ring_29 : decode cX12_ring 29 = .ok (.bipush 10, 2) := by decide +kernel
theorem dX12_ring_31 : decode cX12_ring 31 = .ok (.iload_n 2, 1) := by decide +kernel
theorem dX12_ring_32 : decode cX12_ring 32 = .ok (.imul, 1) := by decide +kernel
theorem dX12_ring_33 : decode cX12_ring 33 = .ok (.iload 7, 2) := by decide +kernel
theorem dX12_ring_35 : decode cX12_ring 35 = .ok (.iadd, 1) := by decide +kernel
theorem dX12_ring_36 : decode cX12_ring 36 = .ok (.laload, 1) := by decide +kernel
theorem dX12_ring_37 : decode cX12_ring 37 = .ok (.ladd, 1) := by decide +kernel
theorem dX12_ring_38 : decode cX12_ring 38 = .ok (.lstore 5, 2) := by decide +kernel
theorem dX12_ring_40 : decode cX12_ring 40 = .ok (.aload_n 0, 1) := by decide +kernel
theorem dX12_ring_41 : decode cX12_ring 41 = .ok (.getfield 49, 3) := by decide +kernel
theorem dX12_ring_44 : decode cX12_ring 44 = .ok (.bipush 10, 2) := by decide +kernel
theorem dX12_ring_46 : decode cX12_ring 46 = .ok (.iload_n 2, 1) := by decide +kernel
theorem dX12_ring_47 : decode cX12_ring 47 = .ok (.imul, 1) := by decide +kernel
theorem dX12_ring_48 : decode cX12_ring 48 = .ok (.iload 7, 2) := by decide +kernel
theorem dX12_ring_50 : decode cX12_ring 50 = .ok (.iadd, 1) := by decide +kernel
theorem dX12_ring_51 : decode cX12_ring 51 = .ok (.iaload, 1) := by decide +kernel
theorem dX12_ring_52 : decode cX12_ring 52 = .ok (.istore 7, 2) := by decide +kernel
theorem dX12_ring_54 : decode cX12_ring 54 = .ok (.aload_n 0, 1) := by decide +kernel
theorem dX12_ring_55 : decode cX12_ring 55 = .ok (.getfield 64, 3) := by decide +kernel
theorem dX12_ring_58 : decode cX12_ring 58 = .ok (.iload 7, 2) := by decide +kernel
theorem dX12_ring_60 : decode cX12_ring 60 = .ok (.iconst 1, 1) := by decide +kernel
theorem dX12_ring_61 : decode cX12_ring 61 = .ok (.bastore, 1) := by decide +kernel
theorem dX12_ring_62 : decode cX12_ring 62 = .ok (.lload 5, 2) := by decide +kernel
theorem dX12_ring_64 : decode cX12_ring 64 = .ok (.aload_n 0, 1) := by decide +kernel
theorem dX12_ring_65 : decode cX12_ring 65 = .ok (.getfield 52, 3) := by decide +kernel
theorem dX12_ring_68 : decode cX12_ring 68 = .ok (.bipush 10, 2) := by decide +kernel
theorem dX12_ring_70 : decode cX12_ring 70 = .ok (.iload_n 1, 1) := by decide +kernel
theorem dX12_ring_71 : decode cX12_ring 71 = .ok (.imul, 1) := by decide +kernel
theorem dX12_ring_72 : decode cX12_ring 72 = .ok (.aload_n 0, 1) := by decide +kernel
theorem dX12_ring_73 : decode cX12_ring 73 = .ok (.getfield 13, 3) := by decide +kernel
theorem dX12_ring_76 : decode cX12_ring 76 = .ok (.iadd, 1) := by decide +kernel
theorem dX12_ring_77 : decode cX12_ring 77 = .ok (.iload 7, 2) := by decide +kernel
theorem dX12_ring_79 : decode cX12_ring 79 = .ok (.iadd, 1) := by decide +kernel
theorem dX12_ring_80 : decode cX12_ring 80 = .ok (.laload, 1) := by decide +kernel
theorem dX12_ring_81 : decode cX12_ring 81 = .ok (.ladd, 1) := by decide +kernel
theorem dX12_ring_82 : decode cX12_ring 82 = .ok (.lstore 5, 2) := by decide +kernel
theorem dX12_ring_84 : decode cX12_ring 84 = .ok (.aload_n 0, 1) := by decide +kernel
theorem dX12_ring_85 : decode cX12_ring 85 = .ok (.getfield 49, 3) := by decide +kernel
theorem dX12_ring_88 : decode cX12_ring 88 = .ok (.bipush 10, 2) := by decide +kernel
theorem dX12_ring_90 : decode cX12_ring 90 = .ok (.iload_n 1, 1) := by decide +kernel
theorem dX12_ring_91 : decode cX12_ring 91 = .ok (.imul, 1) := by decide +kernel
theorem dX12_ring_92 : decode cX12_ring 92 = .ok (.aload_n 0, 1) := by decide +kernel
theorem dX12_ring_93 : decode cX12_ring 93 = .ok (.getfield 13, 3) := by decide +kernel
theorem dX12_ring_96 : decode cX12_ring 96 = .ok (.iadd, 1) := by decide +kernel
theorem dX12_ring_97 : decode cX12_ring 97 = .ok (.iload 7, 2) := by decide +kernel
theorem dX12_ring_99 : decode cX12_ring 99 = .ok (.iadd, 1) := by decide +kernel
theorem dX12_ring_100 : decode cX12_ring 100 = .ok (.iaload, 1) := by decide +kernel
theorem dX12_ring_101 : decode cX12_ring 101 = .ok (.aload_n 0, 1) := by decide +kernel
theorem dX12_ring_102 : decode cX12_ring 102 = .ok (.getfield 13, 3) := by decide +kernel
theorem dX12_ring_105 : decode cX12_ring 105 = .ok (.isub, 1) := by decide +kernel
theorem dX12_ring_106 : decode cX12_ring 106 = .ok (.istore 7, 2) := by decide +kernel
theorem dX12_ring_108 : decode cX12_ring 108 = .ok (.iload 7, 2) := by decide +kernel
theorem dX12_ring_110 : decode cX12_ring 110 = .ok (.iload 4, 2) := by decide +kernel
theorem dX12_ring_112 : decode cX12_ring 112 = .ok (.if_icmp .eq 7, 3) := by decide +kernel
theorem dX12_ring_115 : decode cX12_ring 115 = .ok (.iconst 1, 1) := by decide +kernel
theorem dX12_ring_116 : decode cX12_ring 116 = .ok (.goto 4, 3) := by decide +kernel
theorem dX12_ring_119 : decode cX12_ring 119 = .ok (.iconst 0, 1) := by decide +kernel
theorem dX12_ring_120 : decode cX12_ring 120 = .ok (.istore 8, 2) := by decide +kernel
theorem dX12_ring_122 : decode cX12_ring 122 = .ok (.goto (-112), 3) := by decide +kernel
theorem dX12_ring_125 : decode cX12_ring 125 = .ok (.aload_n 0, 1) := by decide +kernel
theorem dX12_ring_126 : decode cX12_ring 126 = .ok (.getfield 55, 3) := by decide +kernel
theorem dX12_ring_129 : decode cX12_ring 129 = .ok (.iload_n 3, 1) := by decide +kernel
theorem dX12_ring_130 : decode cX12_ring 130 = .ok (.dup2, 1) := by decide +kernel
theorem dX12_ring_131 : decode cX12_ring 131 = .ok (.laload, 1) := by decide +kernel
theorem dX12_ring_132 : decode cX12_ring 132 = .ok (.lconst 1, 1) := by decide +kernel
theorem dX12_ring_133 : decode cX12_ring 133 = .ok (.ladd, 1) := by decide +kernel
theorem dX12_ring_134 : decode cX12_ring 134 = .ok (.lastore, 1) := by decide +kernel
theorem dX12_ring_135 : decode cX12_ring 135 = .ok (.aload_n 0, 1) := by decide +kernel
theorem dX12_ring_136 : decode cX12_ring 136 = .ok (.getfield 61, 3) := by decide +kernel
theorem dX12_ring_139 : decode cX12_ring 139 = .ok (.iload_n 3, 1) := by decide +kernel
theorem dX12_ring_140 : decode cX12_ring 140 = .ok (.dup2, 1) := by decide +kernel
theorem dX12_ring_141 : decode cX12_ring 141 = .ok (.laload, 1) := by decide +kernel
theorem dX12_ring_142 : decode cX12_ring 142 = .ok (.lload 5, 2) := by decide +kernel
theorem dX12_ring_144 : decode cX12_ring 144 = .ok (.ladd, 1) := by decide +kernel
theorem dX12_ring_145 : decode cX12_ring 145 = .ok (.lastore, 1) := by decide +kernel
theorem dX12_ring_146 : decode cX12_ring 146 = .ok (.aload_n 0, 1) := by decide +kernel
theorem dX12_ring_147 : decode cX12_ring 147 = .ok (.getfield 58, 3) := by decide +kernel
theorem dX12_ring_150 : decode cX12_ring 150 = .ok (.iload_n 3, 1) := by decide +kernel
theorem dX12_ring_151 : decode cX12_ring 151 = .ok (.lload 5, 2) := by decide +kernel
theorem dX12_ring_153 : decode cX12_ring 153 = .ok (.aload_n 0, 1) := by decide +kernel
theorem dX12_ring_154 : decode cX12_ring 154 = .ok (.getfield 58, 3) := by decide +kernel
theorem dX12_ring_157 : decode cX12_ring 157 = .ok (.iload_n 3, 1) := by decide +kernel
theorem dX12_ring_158 : decode cX12_ring 158 = .ok (.laload, 1) := by decide +kernel
theorem dX12_ring_159 : decode cX12_ring 159 = .ok (.lcmp, 1) := by decide +kernel
theorem dX12_ring_160 : decode cX12_ring 160 = .ok (.ifCond .le 8, 3) := by decide +kernel
theorem dX12_ring_163 : decode cX12_ring 163 = .ok (.lload 5, 2) := by decide +kernel
theorem dX12_ring_165 : decode cX12_ring 165 = .ok (.goto 9, 3) := by decide +kernel
theorem dX12_ring_168 : decode cX12_ring 168 = .ok (.aload_n 0, 1) := by decide +kernel
theorem dX12_ring_169 : decode cX12_ring 169 = .ok (.getfield 58, 3) := by decide +kernel
theorem dX12_ring_172 : decode cX12_ring 172 = .ok (.iload_n 3, 1) := by decide +kernel
theorem dX12_ring_173 : decode cX12_ring 173 = .ok (.laload, 1) := by decide +kernel
theorem dX12_ring_174 : decode cX12_ring 174 = .ok (.lastore, 1) := by decide +kernel
theorem dX12_ring_175 : decode cX12_ring 175 = .ok (.return_, 1) := by decide +kernel
def f_X12_ring_u120 (Q : ml_St → Prop) (K10 : ml_St → Int → Int → Int → Int → Int → Int → Int → Prop) (σ : ml_St) (x1 : Int) (x2 : Int) (x3 : Int) (x4 : Int) (x5 : Int) (x7 : Int) (s0 : Int) : Prop :=
K10 σ x1 x2 x3 x4 x5 x7 s0
def f_X12_ring_u10 (Q : ml_St → Prop) (K125 : ml_St → Int → Int → Prop) : Nat → ml_St → Int → Int → Int → Int → Int → Int → Int → Prop
| 0, _, _, _, _, _, _, _, _ => False
| N + 1, σ, x1, x2, x3, x4, x5, x7, x8 =>
(x8 = 0 →
K125 σ x3 x5) ∧
(x8 ≠ 0 →
(0 : Int) ≤ x7 ∧ (x7 : Int) < 5 ∧
∀ σ2, σ2 = ml_up σ 232 x7 1 →
I32 (10 * x2) ∧
I32 ((10 * x2) + x7) ∧
(0 : Int) ≤ ((10 * x2) + x7) ∧ (((10 * x2) + x7) : Int) < 640 ∧
∀ _ : I64 (σ2 228 ((10 * x2) + x7)),
∀ y7 : Int, y7 = w64 (x5 + (σ2 228 ((10 * x2) + x7))) →
I32 (10 * x2) ∧
I32 ((10 * x2) + x7) ∧
(0 : Int) ≤ ((10 * x2) + x7) ∧ (((10 * x2) + x7) : Int) < 640 ∧
∀ _ : I32 (σ2 227 ((10 * x2) + x7)),
∀ y11 : Int, y11 = σ2 227 ((10 * x2) + x7) →
(0 : Int) ≤ y11 ∧ (y11 : Int) < 5 ∧
∀ σ12, σ12 = ml_up σ2 232 y11 1 →
I32 (10 * x1) ∧
∀ _ : I32 (σ12 215 2),
I32 ((10 * x1) + (σ12 215 2)) ∧
I32 (((10 * x1) + (σ12 215 2)) + y11) ∧
(0 : Int) ≤ (((10 * x1) + (σ12 215 2)) + y11) ∧ ((((10 * x1) + (σ12 215 2)) + y11) : Int) < 640 ∧
∀ _ : I64 (σ12 228 (((10 * x1) + (σ12 215 2)) + y11)),
∀ y19 : Int, y19 = w64 (y7 + (σ12 228 (((10 * x1) + (σ12 215 2)) + y11))) →
I32 (10 * x1) ∧
∀ _ : I32 (σ12 215 2),
I32 ((10 * x1) + (σ12 215 2)) ∧
I32 (((10 * x1) + (σ12 215 2)) + y11) ∧
(0 : Int) ≤ (((10 * x1) + (σ12 215 2)) + y11) ∧ ((((10 * x1) + (σ12 215 2)) + y11) : Int) < 640 ∧
∀ _ : I32 (σ12 227 (((10 * x1) + (σ12 215 2)) + y11)),
∀ _ : I32 (σ12 215 2),
I32 ((σ12 227 (((10 * x1) + (σ12 215 2)) + y11)) - (σ12 215 2)) ∧
∀ y27 : Int, y27 = (σ12 227 (((10 * x1) + (σ12 215 2)) + y11)) - (σ12 215 2) →
(y27 = x4 →
f_X12_ring_u120 Q (f_X12_ring_u10 Q K125 N) σ12 x1 x2 x3 x4 y19 y27 0) ∧
(y27 ≠ x4 →
f_X12_ring_u120 Q (f_X12_ring_u10 Q K125 N) σ12 x1 x2 x3 x4 y19 y27 1))
def f_X12_ring_u174 (Q : ml_St → Prop) (σ : ml_St) (s1 : Int) (s2 : Int) : Prop :=
(0 : Int) ≤ s1 ∧ (s1 : Int) < 64 ∧
∀ σ1, σ1 = ml_up σ 230 s1 s2 →
Q σ1
def f_X12_ring_u125 (Q : ml_St → Prop) (σ : ml_St) (x3 : Int) (x5 : Int) : Prop :=
(0 : Int) ≤ x3 ∧ (x3 : Int) < 64 ∧
∀ _ : I64 (σ 229 x3),
(0 : Int) ≤ x3 ∧ (x3 : Int) < 64 ∧
∀ σ3, σ3 = ml_up σ 229 x3 (w64 ((σ 229 x3) + 1)) →
(0 : Int) ≤ x3 ∧ (x3 : Int) < 64 ∧
∀ _ : I64 (σ3 231 x3),
(0 : Int) ≤ x3 ∧ (x3 : Int) < 64 ∧
∀ σ6, σ6 = ml_up σ3 231 x3 (w64 ((σ3 231 x3) + x5)) →
(0 : Int) ≤ x3 ∧ (x3 : Int) < 64 ∧
∀ _ : I64 (σ6 230 x3),
(x5 ≤ (σ6 230 x3) →
(0 : Int) ≤ x3 ∧ (x3 : Int) < 64 ∧
∀ _ : I64 (σ6 230 x3),
f_X12_ring_u174 Q σ6 x3 (σ6 230 x3)) ∧
(¬ (x5 ≤ (σ6 230 x3)) →
f_X12_ring_u174 Q σ6 x3 x5)
def f_X12_ring_u0 (Q : ml_St → Prop) (σ : ml_St) (x1 : Int) (x2 : Int) (x3 : Int) (x4 : Int) : Prop :=
∃ N1, f_X12_ring_u10 Q (f_X12_ring_u125 Q) N1 σ x1 x2 x3 x4 0 x4 1
def f_X12_ring (σ : ml_St) (x1 : Int) (x2 : Int) (x3 : Int) (x4 : Int) (Q : ml_St → Prop) : Prop := f_X12_ring_u0 Q σ x1 x2 x3 x4
def rm_X12_ring : Room := { frames := 0, cells := 0, slots := 0, locals := 0 }
set_option maxRecDepth 100000 in
set_option maxHeartbeats 4000000 in
theorem u_X12_ring_120 {p : Program} {e : Env} {s : State} {m : MethodId} {args : Array Value} {below : List Frame} {meth : Method} {c : Code} {base : Nat} {D : va_G} {cA : Nat → ClassId} {n : Nat} {l : Launch} {Q : ml_St → Prop} {K10 : ml_St → Int → Int → Int → Int → Int → Int → Int → Prop} (X : ml_X p s m c meth args D cA cX12_ring 9 RX12 none) (hn : 256 ≤ n) (hK10 : ∀ (σ : ml_St) (x1 : Int) (x2 : Int) (x3 : Int) (x4 : Int) (x5 : Int) (x7 : Int) (x8 : Int) (h_x1 : I32 x1) (h_x2 : I32 x2) (h_x3 : I32 x3) (h_x4 : I32 x4) (h_x5 : I64 x5) (h_x7 : I32 x7) (h_x8 : ml_B x8) (ls : Array Slot), lv_has ls 9 [(0, .ref (base + (215 : Int).toNat)), (1, .int (Int32.ofInt x1)), (2, .int (Int32.ofInt x2)), (3, .int (Int32.ofInt x3)), (4, .int (Int32.ofInt x4)), (5, .long (Int64.ofInt x5)), (7, .int (Int32.ofInt x7)), (8, .int (Int32.ofInt x8))] → K10 σ x1 x2 x3 x4 x5 x7 x8 → ml_V p l e rm_X12_ring s m args below meth c (MQ below (ml_Qv base D cA n Q) args s 0 0 (ml_A base)) base D cA 0 0 n n σ (F0 m 10 ls [])) (σ : ml_St) (x1 : Int) (x2 : Int) (x3 : Int) (x4 : Int) (x5 : Int) (x7 : Int) (s0 : Int) (h_x1 : I32 x1) (h_x2 : I32 x2) (h_x3 : I32 x3) (h_x4 : I32 x4) (h_x5 : I64 x5) (h_x7 : I32 x7) (h_s0 : ml_B s0) (ls : Array Slot) (hl : lv_has ls 9 [(0, .ref (base + (215 : Int).toNat)), (1, .int (Int32.ofInt x1)), (2, .int (Int32.ofInt x2)), (3, .int (Int32.ofInt x3)), (4, .int (Int32.ofInt x4)), (5, .long (Int64.ofInt x5)), (7, .int (Int32.ofInt x7))]) (hw : f_X12_ring_u120 Q K10 σ x1 x2 x3 x4 x5 x7 s0) : ml_V p l e rm_X12_ring s m args below meth c (MQ below (ml_Qv base D cA n Q) args s 0 0 (ml_A base)) base D cA 0 0 n n σ (F0 m 120 ls [.int (Int32.ofInt s0)]) := by
  unfold f_X12_ring_u120 at hw
  refine ml_istore (pc := 120) X hl (by decide) (lst' := [(8, .int (Int32.ofInt s0)), (0, .ref (base + (215 : Int).toNat)), (1, .int (Int32.ofInt x1)), (2, .int (Int32.ofInt x2)), (3, .int (Int32.ofInt x3)), (4, .int (Int32.ofInt x4)), (5, .long (Int64.ofInt x5)), (7, .int (Int32.ofInt x7))]) rfl dX12_ring_120 (fun ls hl => ?_)
  refine ml_goto (pc := 122) (tgt := 10) X dX12_ring_122 (by decide) ?_
  exact hK10 σ x1 x2 x3 x4 x5 x7 s0 h_x1 h_x2 h_x3 h_x4 h_x5 h_x7 h_s0 _ (lv_sub hl [1, 2, 3, 4, 5, 6, 7, 0] rfl) hw
set_option maxRecDepth 100000 in
set_option maxHeartbeats 4000000 in
theorem u_X12_ring_10 {p : Program} {e : Env} {s : State} {m : MethodId} {args : Array Value} {below : List Frame} {meth : Method} {c : Code} {base : Nat} {D : va_G} {cA : Nat → ClassId} {n : Nat} {l : Launch} {Q : ml_St → Prop} {K125 : ml_St → Int → Int → Prop} (X : ml_X p s m c meth args D cA cX12_ring 9 RX12 none) (hn : 256 ≤ n) (hK125 : ∀ (σ : ml_St) (x3 : Int) (x5 : Int) (h_x3 : I32 x3) (h_x5 : I64 x5) (ls : Array Slot), lv_has ls 9 [(0, .ref (base + (215 : Int).toNat)), (3, .int (Int32.ofInt x3)), (5, .long (Int64.ofInt x5))] → K125 σ x3 x5 → ml_V p l e rm_X12_ring s m args below meth c (MQ below (ml_Qv base D cA n Q) args s 0 0 (ml_A base)) base D cA 0 0 n n σ (F0 m 125 ls [])) : ∀ (N : Nat) (σ : ml_St) (x1 : Int) (x2 : Int) (x3 : Int) (x4 : Int) (x5 : Int) (x7 : Int) (x8 : Int) (h_x1 : I32 x1) (h_x2 : I32 x2) (h_x3 : I32 x3) (h_x4 : I32 x4) (h_x5 : I64 x5) (h_x7 : I32 x7) (h_x8 : ml_B x8) (ls : Array Slot), lv_has ls 9 [(0, .ref (base + (215 : Int).toNat)), (1, .int (Int32.ofInt x1)), (2, .int (Int32.ofInt x2)), (3, .int (Int32.ofInt x3)), (4, .int (Int32.ofInt x4)), (5, .long (Int64.ofInt x5)), (7, .int (Int32.ofInt x7)), (8, .int (Int32.ofInt x8))] → f_X12_ring_u10 Q K125 N σ x1 x2 x3 x4 x5 x7 x8 → ml_V p l e rm_X12_ring s m args below meth c (MQ below (ml_Qv base D cA n Q) args s 0 0 (ml_A base)) base D cA 0 0 n n σ (F0 m 10 ls []) := by
  intro N
  induction N with
  | zero => intro σ x1 x2 x3 x4 x5 x7 x8 h_x1 h_x2 h_x3 h_x4 h_x5 h_x7 h_x8 ls hl hw; exact False.elim hw
  | succ N ih =>
    intro σ x1 x2 x3 x4 x5 x7 x8 h_x1 h_x2 h_x3 h_x4 h_x5 h_x7 h_x8 ls hl hw
    unfold f_X12_ring_u10 at hw
    refine ml_iload (pc := 10) X hl 7 rfl dX12_ring_10 ?_
    refine ml_if_eq (pc := 12) (tgt := 125) X h_x8.i dX12_ring_12 (by decide) (fun c1 => ?_) (fun c1 => ?_)
    · have hw := hw.1 c1
      exact hK125 σ x3 x5 h_x3 h_x5 _ (lv_sub hl [0, 3, 5] rfl) hw
    · have hw := hw.2 c1
      refine ml_aload_n (pc := 15) X hl 0 rfl rfl dX12_ring_15 ?_
      refine gf_X12_64 (pc := 16) X (ml_c215 hn) dX12_ring_16 ?_
      refine ml_iload (pc := 19) X hl 6 rfl dX12_ring_19 ?_
      refine ml_iconst (pc := 21) X dX12_ring_21 ?_
      obtain ⟨a2, b2, hw⟩ := hw
      refine ml_zast (pc := 22) (N := 5) X (ml_c232 hn) a2 b2 ⟨by decide, by decide⟩ dX12_ring_22 (fun σ2 g2 => ?_)
      have hw := hw σ2 g2
      refine ml_lload (pc := 23) X hl 5 rfl dX12_ring_23 ?_
      refine ml_aload_n (pc := 25) X hl 0 rfl rfl dX12_ring_25 ?_
      refine gf_X12_52 (pc := 26) X (ml_c215 hn) dX12_ring_26 ?_
      refine ml_bipush (pc := 29) X dX12_ring_29 (by decide) ?_
      refine ml_iload_n (pc := 31) X hl 2 rfl rfl dX12_ring_31 ?_
      obtain ⟨v3, hw⟩ := hw
      refine ml_imul (pc := 32) X dX12_ring_32 ?_
      refine ml_iload (pc := 33) X hl 6 rfl dX12_ring_33 ?_
      obtain ⟨v4, hw⟩ := hw
      refine ml_iadd (pc := 35) X dX12_ring_35 ?_
      obtain ⟨a5, b5, hw⟩ := hw
      refine ml_lald (pc := 36) (N := 640) X (ml_c228 hn) a5 b5 dX12_ring_36 (fun r5 => ?_)
      have hw := hw r5
      refine ml_laddW (pc := 37) X dX12_ring_37 ?_
      refine ml_topL (pc := 38) (fun y7 e7 => ?_)
      have hw := hw y7 e7
      have q7 : I64 y7 := by rw [e7]; exact (w64_r _)
      refine ml_lstore (pc := 38) X hl (by decide) (lst' := [(5, .long (Int64.ofInt y7)), (0, .ref (base + (215 : Int).toNat)), (1, .int (Int32.ofInt x1)), (2, .int (Int32.ofInt x2)), (3, .int (Int32.ofInt x3)), (4, .int (Int32.ofInt x4)), (7, .int (Int32.ofInt x7)), (8, .int (Int32.ofInt x8))]) rfl dX12_ring_38 (fun ls hl => ?_)
      refine ml_aload_n (pc := 40) X hl 1 rfl rfl dX12_ring_40 ?_
      refine gf_X12_49 (pc := 41) X (ml_c215 hn) dX12_ring_41 ?_
      refine ml_bipush (pc := 44) X dX12_ring_44 (by decide) ?_
      refine ml_iload_n (pc := 46) X hl 3 rfl rfl dX12_ring_46 ?_
      obtain ⟨v8, hw⟩ := hw
      refine ml_imul (pc := 47) X dX12_ring_47 ?_
      refine ml_iload (pc := 48) X hl 6 rfl dX12_ring_48 ?_
      obtain ⟨v9, hw⟩ := hw
      refine ml_iadd (pc := 50) X dX12_ring_50 ?_
      obtain ⟨a10, b10, hw⟩ := hw
      refine ml_iald (pc := 51) (N := 640) X (ml_c227 hn) a10 b10 dX12_ring_51 (fun r10 => ?_)
      have hw := hw r10
      refine ml_topI (pc := 52) (fun y11 e11 => ?_)
      have hw := hw y11 e11
      have q11 : I32 y11 := by rw [e11]; exact r10
      refine ml_istore (pc := 52) X hl (by decide) (lst' := [(7, .int (Int32.ofInt y11)), (5, .long (Int64.ofInt y7)), (0, .ref (base + (215 : Int).toNat)), (1, .int (Int32.ofInt x1)), (2, .int (Int32.ofInt x2)), (3, .int (Int32.ofInt x3)), (4, .int (Int32.ofInt x4)), (8, .int (Int32.ofInt x8))]) rfl dX12_ring_52 (fun ls hl => ?_)
      refine ml_aload_n (pc := 54) X hl 2 rfl rfl dX12_ring_54 ?_
      refine gf_X12_64 (pc := 55) X (ml_c215 hn) dX12_ring_55 ?_
      refine ml_iload (pc := 58) X hl 0 rfl dX12_ring_58 ?_
      refine ml_iconst (pc := 60) X dX12_ring_60 ?_
      obtain ⟨a12, b12, hw⟩ := hw
      refine ml_zast (pc := 61) (N := 5) X (ml_c232 hn) a12 b12 ⟨by decide, by decide⟩ dX12_ring_61 (fun σ12 g12 => ?_)
      have hw := hw σ12 g12
      refine ml_lload (pc := 62) X hl 1 rfl dX12_ring_62 ?_
      refine ml_aload_n (pc := 64) X hl 2 rfl rfl dX12_ring_64 ?_
      refine gf_X12_52 (pc := 65) X (ml_c215 hn) dX12_ring_65 ?_
      refine ml_bipush (pc := 68) X dX12_ring_68 (by decide) ?_
      refine ml_iload_n (pc := 70) X hl 3 rfl rfl dX12_ring_70 ?_
      obtain ⟨v13, hw⟩ := hw
      refine ml_imul (pc := 71) X dX12_ring_71 ?_
      refine ml_aload_n (pc := 72) X hl 2 rfl rfl dX12_ring_72 ?_
      refine gf_X12_13 (pc := 73) X (ml_c215 hn) dX12_ring_73 (fun r14 => ?_)
      have hw := hw r14
      obtain ⟨v15, hw⟩ := hw
      refine ml_iadd (pc := 76) X dX12_ring_76 ?_
      refine ml_iload (pc := 77) X hl 0 rfl dX12_ring_77 ?_
      obtain ⟨v16, hw⟩ := hw
      refine ml_iadd (pc := 79) X dX12_ring_79 ?_
      obtain ⟨a17, b17, hw⟩ := hw
      refine ml_lald (pc := 80) (N := 640) X (ml_c228 hn) a17 b17 dX12_ring_80 (fun r17 => ?_)
      have hw := hw r17
      refine ml_laddW (pc := 81) X dX12_ring_81 ?_
      refine ml_topL (pc := 82) (fun y19 e19 => ?_)
      have hw := hw y19 e19
      have q19 : I64 y19 := by rw [e19]; exact (w64_r _)
      refine ml_lstore (pc := 82) X hl (by decide) (lst' := [(5, .long (Int64.ofInt y19)), (7, .int (Int32.ofInt y11)), (0, .ref (base + (215 : Int).toNat)), (1, .int (Int32.ofInt x1)), (2, .int (Int32.ofInt x2)), (3, .int (Int32.ofInt x3)), (4, .int (Int32.ofInt x4)), (8, .int (Int32.ofInt x8))]) rfl dX12_ring_82 (fun ls hl => ?_)
      refine ml_aload_n (pc := 84) X hl 2 rfl rfl dX12_ring_84 ?_
      refine gf_X12_49 (pc := 85) X (ml_c215 hn) dX12_ring_85 ?_
      refine ml_bipush (pc := 88) X dX12_ring_88 (by decide) ?_
      refine ml_iload_n (pc := 90) X hl 3 rfl rfl dX12_ring_90 ?_
      obtain ⟨v20, hw⟩ := hw
      refine ml_imul (pc := 91) X dX12_ring_91 ?_
      refine ml_aload_n (pc := 92) X hl 2 rfl rfl dX12_ring_92 ?_
      refine gf_X12_13 (pc := 93) X (ml_c215 hn) dX12_ring_93 (fun r21 => ?_)
      have hw := hw r21
      obtain ⟨v22, hw⟩ := hw
      refine ml_iadd (pc := 96) X dX12_ring_96 ?_
      refine ml_iload (pc := 97) X hl 1 rfl dX12_ring_97 ?_
      obtain ⟨v23, hw⟩ := hw
      refine ml_iadd (pc := 99) X dX12_ring_99 ?_
      obtain ⟨a24, b24, hw⟩ := hw
      refine ml_iald (pc := 100) (N := 640) X (ml_c227 hn) a24 b24 dX12_ring_100 (fun r24 => ?_)
      have hw := hw r24
      refine ml_aload_n (pc := 101) X hl 2 rfl rfl dX12_ring_101 ?_
      refine gf_X12_13 (pc := 102) X (ml_c215 hn) dX12_ring_102 (fun r25 => ?_)
      have hw := hw r25
      obtain ⟨v26, hw⟩ := hw
      refine ml_isub (pc := 105) X dX12_ring_105 ?_
      refine ml_topI (pc := 106) (fun y27 e27 => ?_)
      have hw := hw y27 e27
      have q27 : I32 y27 := by rw [e27]; exact v26
      refine ml_istore (pc := 106) X hl (by decide) (lst' := [(7, .int (Int32.ofInt y27)), (5, .long (Int64.ofInt y19)), (0, .ref (base + (215 : Int).toNat)), (1, .int (Int32.ofInt x1)), (2, .int (Int32.ofInt x2)), (3, .int (Int32.ofInt x3)), (4, .int (Int32.ofInt x4)), (8, .int (Int32.ofInt x8))]) rfl dX12_ring_106 (fun ls hl => ?_)
      refine ml_iload (pc := 108) X hl 0 rfl dX12_ring_108 ?_
      refine ml_iload (pc := 110) X hl 6 rfl dX12_ring_110 ?_
      refine ml_icmp_eq (pc := 112) (tgt := 119) X q27 h_x4 dX12_ring_112 (by decide) (fun c28 => ?_) (fun c28 => ?_)
      · have hw := hw.1 c28
        refine ml_iconst (pc := 119) X dX12_ring_119 ?_
        exact u_X12_ring_120 X hn ih σ12 x1 x2 x3 x4 y19 y27 0 h_x1 h_x2 h_x3 h_x4 q19 q27 ⟨by decide, by decide⟩ _ (lv_sub hl [2, 3, 4, 5, 6, 1, 0] rfl) hw
      · have hw := hw.2 c28
        refine ml_iconst (pc := 115) X dX12_ring_115 ?_
        refine ml_goto (pc := 116) (tgt := 120) X dX12_ring_116 (by decide) ?_
        exact u_X12_ring_120 X hn ih σ12 x1 x2 x3 x4 y19 y27 1 h_x1 h_x2 h_x3 h_x4 q19 q27 ⟨by decide, by decide⟩ _ (lv_sub hl [2, 3, 4, 5, 6, 1, 0] rfl) hw
set_option maxRecDepth 100000 in
set_option maxHeartbeats 4000000 in
theorem u_X12_ring_174 {p : Program} {e : Env} {s : State} {m : MethodId} {args : Array Value} {below : List Frame} {meth : Method} {c : Code} {base : Nat} {D : va_G} {cA : Nat → ClassId} {n : Nat} {l : Launch} {Q : ml_St → Prop} (X : ml_X p s m c meth args D cA cX12_ring 9 RX12 none) (hn : 256 ≤ n) (σ : ml_St) (s1 : Int) (s2 : Int) (h_s1 : I32 s1) (h_s2 : I64 s2) (ls : Array Slot) (hl : lv_has ls 9 []) (hw : f_X12_ring_u174 Q σ s1 s2) : ml_V p l e rm_X12_ring s m args below meth c (MQ below (ml_Qv base D cA n Q) args s 0 0 (ml_A base)) base D cA 0 0 n n σ (F0 m 174 ls [.long (Int64.ofInt s2), .int (Int32.ofInt s1), .ref (base + (230 : Int).toNat)]) := by
  unfold f_X12_ring_u174 at hw
  obtain ⟨a1, b1, hw⟩ := hw
  refine ml_last (pc := 174) (N := 64) X (ml_c230 hn) a1 b1 h_s2 dX12_ring_174 (fun σ1 g1 => ?_)
  have hw := hw σ1 g1
  exact ml_vret (pc := 175) X hw dX12_ring_175
set_option maxRecDepth 100000 in
set_option maxHeartbeats 4000000 in
theorem u_X12_ring_125 {p : Program} {e : Env} {s : State} {m : MethodId} {args : Array Value} {below : List Frame} {meth : Method} {c : Code} {base : Nat} {D : va_G} {cA : Nat → ClassId} {n : Nat} {l : Launch} {Q : ml_St → Prop} (X : ml_X p s m c meth args D cA cX12_ring 9 RX12 none) (hn : 256 ≤ n) (σ : ml_St) (x3 : Int) (x5 : Int) (h_x3 : I32 x3) (h_x5 : I64 x5) (ls : Array Slot) (hl : lv_has ls 9 [(0, .ref (base + (215 : Int).toNat)), (3, .int (Int32.ofInt x3)), (5, .long (Int64.ofInt x5))]) (hw : f_X12_ring_u125 Q σ x3 x5) : ml_V p l e rm_X12_ring s m args below meth c (MQ below (ml_Qv base D cA n Q) args s 0 0 (ml_A base)) base D cA 0 0 n n σ (F0 m 125 ls []) := by
  unfold f_X12_ring_u125 at hw
  refine ml_aload_n (pc := 125) X hl 0 rfl rfl dX12_ring_125 ?_
  refine gf_X12_55 (pc := 126) X (ml_c215 hn) dX12_ring_126 ?_
  refine ml_iload_n (pc := 129) X hl 1 rfl rfl dX12_ring_129 ?_
  refine ml_dup2 (pc := 130) X dX12_ring_130 rfl rfl ?_
  obtain ⟨a1, b1, hw⟩ := hw
  refine ml_lald (pc := 131) (N := 64) X (ml_c229 hn) a1 b1 dX12_ring_131 (fun r1 => ?_)
  have hw := hw r1
  refine ml_lconst1 (pc := 132) X dX12_ring_132 ?_
  refine ml_laddW (pc := 133) X dX12_ring_133 ?_
  obtain ⟨a3, b3, hw⟩ := hw
  refine ml_last (pc := 134) (N := 64) X (ml_c229 hn) a3 b3 (w64_r _) dX12_ring_134 (fun σ3 g3 => ?_)
  have hw := hw σ3 g3
  refine ml_aload_n (pc := 135) X hl 0 rfl rfl dX12_ring_135 ?_
  refine gf_X12_61 (pc := 136) X (ml_c215 hn) dX12_ring_136 ?_
  refine ml_iload_n (pc := 139) X hl 1 rfl rfl dX12_ring_139 ?_
  refine ml_dup2 (pc := 140) X dX12_ring_140 rfl rfl ?_
  obtain ⟨a4, b4, hw⟩ := hw
  refine ml_lald (pc := 141) (N := 64) X (ml_c231 hn) a4 b4 dX12_ring_141 (fun r4 => ?_)
  have hw := hw r4
  refine ml_lload (pc := 142) X hl 2 rfl dX12_ring_142 ?_
  refine ml_laddW (pc := 144) X dX12_ring_144 ?_
  obtain ⟨a6, b6, hw⟩ := hw
  refine ml_last (pc := 145) (N := 64) X (ml_c231 hn) a6 b6 (w64_r _) dX12_ring_145 (fun σ6 g6 => ?_)
  have hw := hw σ6 g6
  refine ml_aload_n (pc := 146) X hl 0 rfl rfl dX12_ring_146 ?_
  refine gf_X12_58 (pc := 147) X (ml_c215 hn) dX12_ring_147 ?_
  refine ml_iload_n (pc := 150) X hl 1 rfl rfl dX12_ring_150 ?_
  refine ml_lload (pc := 151) X hl 2 rfl dX12_ring_151 ?_
  refine ml_aload_n (pc := 153) X hl 0 rfl rfl dX12_ring_153 ?_
  refine gf_X12_58 (pc := 154) X (ml_c215 hn) dX12_ring_154 ?_
  refine ml_iload_n (pc := 157) X hl 1 rfl rfl dX12_ring_157 ?_
  obtain ⟨a7, b7, hw⟩ := hw
  refine ml_lald (pc := 158) (N := 64) X (ml_c230 hn) a7 b7 dX12_ring_158 (fun r7 => ?_)
  have hw := hw r7
  refine ml_lcmp_le (pc := 159) (tgt := 168) X h_x5 r7 dX12_ring_159 dX12_ring_160 (by decide) (fun c8 => ?_) (fun c8 => ?_)
  · have hw := hw.1 c8
    refine ml_aload_n (pc := 168) X hl 0 rfl rfl dX12_ring_168 ?_
    refine gf_X12_58 (pc := 169) X (ml_c215 hn) dX12_ring_169 ?_
    refine ml_iload_n (pc := 172) X hl 1 rfl rfl dX12_ring_172 ?_
    obtain ⟨a9, b9, hw⟩ := hw
    refine ml_lald (pc := 173) (N := 64) X (ml_c230 hn) a9 b9 dX12_ring_173 (fun r9 => ?_)
    have hw := hw r9
    exact u_X12_ring_174 X hn σ6 x3 (σ6 230 x3) h_x3 r9 _ (lv_sub hl [] rfl) hw
  · have hw := hw.2 c8
    refine ml_lload (pc := 163) X hl 2 rfl dX12_ring_163 ?_
    refine ml_goto (pc := 165) (tgt := 174) X dX12_ring_165 (by decide) ?_
    exact u_X12_ring_174 X hn σ6 x3 x5 h_x3 h_x5 _ (lv_sub hl [] rfl) hw
set_option maxRecDepth 100000 in
set_option maxHeartbeats 4000000 in
theorem u_X12_ring_0 {p : Program} {e : Env} {s : State} {m : MethodId} {args : Array Value} {below : List Frame} {meth : Method} {c : Code} {base : Nat} {D : va_G} {cA : Nat → ClassId} {n : Nat} {l : Launch} {Q : ml_St → Prop} (X : ml_X p s m c meth args D cA cX12_ring 9 RX12 none) (hn : 256 ≤ n) (σ : ml_St) (x1 : Int) (x2 : Int) (x3 : Int) (x4 : Int) (h_x1 : I32 x1) (h_x2 : I32 x2) (h_x3 : I32 x3) (h_x4 : I32 x4) (ls : Array Slot) (hl : lv_has ls 9 [(0, .ref (base + (215 : Int).toNat)), (1, .int (Int32.ofInt x1)), (2, .int (Int32.ofInt x2)), (3, .int (Int32.ofInt x3)), (4, .int (Int32.ofInt x4))]) (hw : f_X12_ring_u0 Q σ x1 x2 x3 x4) : ml_V p l e rm_X12_ring s m args below meth c (MQ below (ml_Qv base D cA n Q) args s 0 0 (ml_A base)) base D cA 0 0 n n σ (F0 m 0 ls []) := by
  unfold f_X12_ring_u0 at hw
  refine ml_lconst0 (pc := 0) X dX12_ring_0 ?_
  refine ml_lstore (pc := 1) X hl (by decide) (lst' := [(5, .long (Int64.ofInt 0)), (0, .ref (base + (215 : Int).toNat)), (1, .int (Int32.ofInt x1)), (2, .int (Int32.ofInt x2)), (3, .int (Int32.ofInt x3)), (4, .int (Int32.ofInt x4))]) rfl dX12_ring_1 (fun ls hl => ?_)
  refine ml_iload (pc := 3) X hl 5 rfl dX12_ring_3 ?_
  refine ml_istore (pc := 5) X hl (by decide) (lst' := [(7, .int (Int32.ofInt x4)), (5, .long (Int64.ofInt 0)), (0, .ref (base + (215 : Int).toNat)), (1, .int (Int32.ofInt x1)), (2, .int (Int32.ofInt x2)), (3, .int (Int32.ofInt x3)), (4, .int (Int32.ofInt x4))]) rfl dX12_ring_5 (fun ls hl => ?_)
  refine ml_iconst (pc := 7) X dX12_ring_7 ?_
  refine ml_istore (pc := 8) X hl (by decide) (lst' := [(8, .int (Int32.ofInt 1)), (7, .int (Int32.ofInt x4)), (5, .long (Int64.ofInt 0)), (0, .ref (base + (215 : Int).toNat)), (1, .int (Int32.ofInt x1)), (2, .int (Int32.ofInt x2)), (3, .int (Int32.ofInt x3)), (4, .int (Int32.ofInt x4))]) rfl dX12_ring_8 (fun ls hl => ?_)
  obtain ⟨N0, hw⟩ := hw
  exact u_X12_ring_10 X hn (fun σ x3 x5 h_x3 h_x5 ls hl hw => u_X12_ring_125 X hn σ x3 x5 h_x3 h_x5 ls hl hw) N0 σ x1 x2 x3 x4 0 x4 1 h_x1 h_x2 h_x3 h_x4 ⟨by decide, by decide⟩ h_x4 ⟨by decide, by decide⟩ _ (lv_sub hl [3, 4, 5, 6, 7, 2, 1, 0] rfl) hw
set_option maxRecDepth 100000 in
theorem c_X12_ring (l : Launch) (base : Nat) (D : va_G) (cA : Nat → ClassId) (n : Nat) (hn : 256 ≤ n) (σ : ml_St) (x1 : Int) (x2 : Int) (x3 : Int) (x4 : Int) (h_x1 : I32 x1) (h_x2 : I32 x2) (h_x3 : I32 x3) (h_x4 : I32 x4) (Q : ml_St → Prop) (hw : f_X12_ring σ x1 x2 x3 x4 Q) : Met l yX12_ring (Cond.code yX12_ring cX12_ring 9 none :: ml_T) rm_X12_ring (va_Pc [.ref (base + (215 : Int).toNat), .int (Int32.ofInt x1), .int (Int32.ofInt x2), .int (Int32.ofInt x3), .int (Int32.ofInt x4)] (ml_U base D cA n σ)) (ml_Qv base D cA n Q) 0 0 (ml_A base) := by
  refine Met.ofW (cc := cX12_ring) (maxL := 9) (ret := none) (by decide) rfl ?_
  intro p e s m args below meth c s₁ B hml hv
  obtain ⟨rfl, hP, hK, hok, hro⟩ := hv
  have X : ml_X p s m c meth _ D cA cX12_ring 9 RX12 none := ⟨B.exec, B.bytes, hml, findClass_of_methodNamed B.named, fun w hw => atoms_spec (ws := Cond.code yX12_ring cX12_ring 9 none :: ml_T) B.pre w (List.mem_cons_of_mem _ hw), hK, B.notSynchronized, B.returns⟩
  have hl := lv_entry [.ref (base + (215 : Int).toNat), .int (Int32.ofInt x1), .int (Int32.ofInt x2), .int (Int32.ofInt x3), .int (Int32.ofInt x4)] (n := 9) (Nat.le_of_ble_eq_true rfl)
  rw [lg_entry_eq]
  generalize (lg_sl [.ref (base + (215 : Int).toNat), .int (Int32.ofInt x1), .int (Int32.ofInt x2), .int (Int32.ofInt x3), .int (Int32.ofInt x4)] ++ List.replicate (9 - (lg_sl [.ref (base + (215 : Int).toNat), .int (Int32.ofInt x1), .int (Int32.ofInt x2), .int (Int32.ofInt x3), .int (Int32.ofInt x4)]).length) Slot.unset).toArray = ls at hl ⊢
  have hl : lv_has ls 9 [(0, .ref (base + (215 : Int).toNat)), (1, .int (Int32.ofInt x1)), (2, .int (Int32.ofInt x2)), (3, .int (Int32.ofInt x3)), (4, .int (Int32.ofInt x4))] := hl
  unfold f_X12_ring at hw
  exact u_X12_ring_0 X hn σ x1 x2 x3 x4 h_x1 h_x2 h_x3 h_x4 _ (lv_sub hl [0, 1, 2, 3, 4] rfl) hw s.heap [] hP va_S.rf hok hro
theorem dX12_lays_0 : decode cX12_lays 0 = .ok (.iconst 0, 1) := by decide +kernel
theorem dX12_lays_1 : decode cX12_lays 1 = .ok (.istore 4, 2) := by decide +kernel
theorem dX12_lays_3 : decode cX12_lays 3 = .ok (.iload 4, 2) := by decide +kernel
theorem dX12_lays_5 : decode cX12_lays 5 = .ok (.aload_n 0, 1) := by decide +kernel
theorem dX12_lays_6 : decode cX12_lays 6 = .ok (.getfield 13, 3) := by decide +kernel
theorem dX12_lays_9 : decode cX12_lays 9 = .ok (.if_icmp .ge 17, 3) := by decide +kernel
theorem dX12_lays_12 : decode cX12_lays 12 = .ok (.aload_n 0, 1) := by decide +kernel
theorem dX12_lays_13 : decode cX12_lays 13 = .ok (.getfield 64, 3) := by decide +kernel
theorem dX12_lays_16 : decode cX12_lays 16 = .ok (.iload 4, 2) := by decide +kernel
theorem dX12_lays_18 : decode cX12_lays 18 = .ok (.iconst 0, 1) := by decide +kernel
theorem dX12_lays_19 : decode cX12_lays 19 = .ok (.bastore, 1) := by decide +kernel
theorem dX12_lays_20 : decode cX12_lays 20 = .ok (.iinc 4 1, 3) := by decide +kernel
theorem dX12_lays_23 : decode cX12_lays 23 = .ok (.goto (-20), 3) := by decide +kernel
theorem dX12_lays_26 : decode cX12_lays 26 = .ok (.iconst 0, 1) := by decide +kernel
theorem dX12_lays_27 : decode cX12_lays 27 = .ok (.istore 4, 2) := by decide +kernel
theorem dX12_lays_29 : decode cX12_lays 29 = .ok (.iload 4, 2) := by decide +kernel
theorem dX12_lays_31 : decode cX12_lays 31 = .ok (.aload_n 0, 1) := by decide +kernel
theorem dX12_lays_32 : decode cX12_lays 32 = .ok (.getfield 13, 3) := by decide +kernel
theorem dX12_lays_35 : decode cX12_lays 35 = .ok (.if_icmp .ge 106, 3) := by decide +kernel
theorem dX12_lays_38 : decode cX12_lays 38 = .ok (.aload_n 0, 1) := by decide +kernel
theorem dX12_lays_39 : decode cX12_lays 39 = .ok (.iload_n 1, 1) := by decide +kernel
theorem dX12_lays_40 : decode cX12_lays 40 = .ok (.iload_n 2, 1) := by decide +kernel
theorem dX12_lays_41 : decode cX12_lays 41 = .ok (.iconst 1, 1) := by decide +kernel
theorem dX12_lays_42 : decode cX12_lays 42 = .ok (.iload 4, 2) := by decide +kernel
theorem dX12_lays_44 : decode cX12_lays 44 = .ok (.invokevirtual 234, 3) := by decide +kernel
theorem dX12_lays_47 : decode cX12_lays 47 = .ok (.istore 5, 2) := by decide +kernel
theorem dX12_lays_49 : decode cX12_lays 49 = .ok (.aload_n 0, 1) := by decide +kernel
theorem dX12_lays_50 : decode cX12_lays 50 = .ok (.getfield 49, 3) := by decide +kernel
theorem dX12_lays_53 : decode cX12_lays 53 = .ok (.bipush 10, 2) := by decide +kernel
theorem dX12_lays_55 : decode cX12_lays 55 = .ok (.iload_n 3, 1) := by decide +kernel
theorem dX12_lays_56 : decode cX12_lays 56 = .ok (.imul, 1) := by decide +kernel
theorem dX12_lays_57 : decode cX12_lays 57 = .ok (.iload 4, 2) := by decide +kernel
theorem dX12_lays_59 : decode cX12_lays 59 = .ok (.iadd, 1) := by decide +kernel
theorem dX12_lays_60 : decode cX12_lays 60 = .ok (.iload 5, 2) := by decide +kernel
theorem dX12_lays_62 : decode cX12_lays 62 = .ok (.iastore, 1) := by decide +kernel
theorem dX12_lays_63 : decode cX12_lays 63 = .ok (.aload_n 0, 1) := by decide +kernel
theorem dX12_lays_64 : decode cX12_lays 64 = .ok (.getfield 52, 3) := by decide +kernel
theorem dX12_lays_67 : decode cX12_lays 67 = .ok (.bipush 10, 2) := by decide +kernel
theorem dX12_lays_69 : decode cX12_lays 69 = .ok (.iload_n 3, 1) := by decide +kernel
theorem dX12_lays_70 : decode cX12_lays 70 = .ok (.imul, 1) := by decide +kernel
theorem dX12_lays_71 : decode cX12_lays 71 = .ok (.iload 4, 2) := by decide +kernel
theorem dX12_lays_73 : decode cX12_lays 73 = .ok (.iadd, 1) := by decide +kernel
theorem dX12_lays_74 : decode cX12_lays 74 = .ok (.aload_n 0, 1) := by decide +kernel
theorem dX12_lays_75 : decode cX12_lays 75 = .ok (.getfield 230, 3) := by decide +kernel
theorem dX12_lays_78 : decode cX12_lays 78 = .ok (.lastore, 1) := by decide +kernel
theorem dX12_lays_79 : decode cX12_lays 79 = .ok (.aload_n 0, 1) := by decide +kernel
theorem dX12_lays_80 : decode cX12_lays 80 = .ok (.iload_n 1, 1) := by decide +kernel
theorem dX12_lays_81 : decode cX12_lays 81 = .ok (.iload_n 2, 1) := by decide +kernel
theorem dX12_lays_82 : decode cX12_lays 82 = .ok (.iconst 0, 1) := by decide +kernel
theorem dX12_lays_83 : decode cX12_lays 83 = .ok (.aload_n 0, 1) := by decide +kernel
theorem dX12_lays_84 : decode cX12_lays 84 = .ok (.getfield 13, 3) := by decide +kernel
theorem dX12_lays_87 : decode cX12_lays 87 = .ok (.iload 4, 2) := by decide +kernel
theorem dX12_lays_89 : decode cX12_lays 89 = .ok (.iadd, 1) := by decide +kernel
theorem dX12_lays_90 : decode cX12_lays 90 = .ok (.invokevirtual 234, 3) := by decide +kernel
theorem dX12_lays_93 : decode cX12_lays 93 = .ok (.istore 5, 2) := by decide +kernel
theorem dX12_lays_95 : decode cX12_lays 95 = .ok (.aload_n 0, 1) := by decide +kernel
theorem dX12_lays_96 : decode cX12_lays 96 = .ok (.getfield 49, 3) := by decide +kernel
theorem dX12_lays_99 : decode cX12_lays 99 = .ok (.bipush 10, 2) := by decide +kernel
theorem dX12_lays_101 : decode cX12_lays 101 = .ok (.iload_n 3, 1) := by decide +kernel
theorem dX12_lays_102 : decode cX12_lays 102 = .ok (.imul, 1) := by decide +kernel
theorem dX12_lays_103 : decode cX12_lays 103 = .ok (.aload_n 0, 1) := by decide +kernel
theorem dX12_lays_104 : decode cX12_lays 104 = .ok (.getfield 13, 3) := by decide +kernel
theorem dX12_lays_107 : decode cX12_lays 107 = .ok (.iadd, 1) := by decide +kernel
theorem dX12_lays_108 : decode cX12_lays 108 = .ok (.iload 4, 2) := by decide +kernel
theorem dX12_lays_110 : decode cX12_lays 110 = .ok (.iadd, 1) := by decide +kernel
theorem dX12_lays_111 : decode cX12_lays 111 = .ok (.iload 5, 2) := by decide +kernel
theorem dX12_lays_113 : decode cX12_lays 113 = .ok (.iastore, 1) := by decide +kernel
theorem dX12_lays_114 : decode cX12_lays 114 = .ok (.aload_n 0, 1) := by decide +kernel
theorem dX12_lays_115 : decode cX12_lays 115 = .ok (.getfield 52, 3) := by decide +kernel
theorem dX12_lays_118 : decode cX12_lays 118 = .ok (.bipush 10, 2) := by decide +kernel
theorem dX12_lays_120 : decode cX12_lays 120 = .ok (.iload_n 3, 1) := by decide +kernel
theorem dX12_lays_121 : decode cX12_lays 121 = .ok (.imul, 1) := by decide +kernel
theorem dX12_lays_122 : decode cX12_lays 122 = .ok (.aload_n 0, 1) := by decide +kernel
theorem dX12_lays_123 : decode cX12_lays 123 = .ok (.getfield 13, 3) := by decide +kernel
theorem dX12_lays_126 : decode cX12_lays 126 = .ok (.iadd, 1) := by decide +kernel
theorem dX12_lays_127 : decode cX12_lays 127 = .ok (.iload 4, 2) := by decide +kernel
theorem dX12_lays_129 : decode cX12_lays 129 = .ok (.iadd, 1) := by decide +kernel
theorem dX12_lays_130 : decode cX12_lays 130 = .ok (.aload_n 0, 1) := by decide +kernel
theorem dX12_lays_131 : decode cX12_lays 131 = .ok (.getfield 230, 3) := by decide +kernel
theorem dX12_lays_134 : decode cX12_lays 134 = .ok (.lastore, 1) := by decide +kernel
theorem dX12_lays_135 : decode cX12_lays 135 = .ok (.iinc 4 1, 3) := by decide +kernel
theorem dX12_lays_138 : decode cX12_lays 138 = .ok (.goto (-109), 3) := by decide +kernel
theorem dX12_lays_141 : decode cX12_lays 141 = .ok (.aload_n 0, 1) := by decide +kernel
theorem dX12_lays_142 : decode cX12_lays 142 = .ok (.getfield 55, 3) := by decide +kernel
theorem dX12_lays_145 : decode cX12_lays 145 = .ok (.iload_n 3, 1) := by decide +kernel
theorem dX12_lays_146 : decode cX12_lays 146 = .ok (.aload_n 0, 1) := by decide +kernel
theorem dX12_lays_147 : decode cX12_lays 147 = .ok (.getfield 55, 3) := by decide +kernel
theorem dX12_lays_150 : decode cX12_lays 150 = .ok (.iload_n 1, 1) := by decide +kernel
theorem dX12_lays_151 : decode cX12_lays 151 = .ok (.laload, 1) := by decide +kernel
theorem dX12_lays_152 : decode cX12_lays 152 = .ok (.aload_n 0, 1) := by decide +kernel
theorem dX12_lays_153 : decode cX12_lays 153 = .ok (.getfield 55, 3) := by decide +kernel
theorem dX12_lays_156 : decode cX12_lays 156 = .ok (.iload_n 2, 1) := by decide +kernel
theorem dX12_lays_157 : decode cX12_lays 157 = .ok (.laload, 1) := by decide +kernel
theorem dX12_lays_158 : decode cX12_lays 158 = .ok (.ladd, 1) := by decide +kernel
theorem dX12_lays_159 : decode cX12_lays 159 = .ok (.lastore, 1) := by decide +kernel
theorem dX12_lays_160 : decode cX12_lays 160 = .ok (.aload_n 0, 1) := by decide +kernel
theorem dX12_lays_161 : decode cX12_lays 161 = .ok (.getfield 61, 3) := by decide +kernel
theorem dX12_lays_164 : decode cX12_lays 164 = .ok (.iload_n 3, 1) := by decide +kernel
theorem dX12_lays_165 : decode cX12_lays 165 = .ok (.aload_n 0, 1) := by decide +kernel
theorem dX12_lays_166 : decode cX12_lays 166 = .ok (.getfield 61, 3) := by decide +kernel
theorem dX12_lays_169 : decode cX12_lays 169 = .ok (.iload_n 1, 1) := by decide +kernel
theorem dX12_lays_170 : decode cX12_lays 170 = .ok (.laload, 1) := by decide +kernel
theorem dX12_lays_171 : decode cX12_lays 171 = .ok (.aload_n 0, 1) := by decide +kernel
theorem dX12_lays_172 : decode cX12_lays 172 = .ok (.getfield 61, 3) := by decide +kernel
theorem dX12_lays_175 : decode cX12_lays 175 = .ok (.iload_n 2, 1) := by decide +kernel
theorem dX12_lays_176 : decode cX12_lays 176 = .ok (.laload, 1) := by decide +kernel
theorem dX12_lays_177 : decode cX12_lays 177 = .ok (.ladd, 1) := by decide +kernel
theorem dX12_lays_178 : decode cX12_lays 178 = .ok (.lastore, 1) := by decide +kernel
theorem dX12_lays_179 : decode cX12_lays 179 = .ok (.aload_n 0, 1) := by decide +kernel
theorem dX12_lays_180 : decode cX12_lays 180 = .ok (.getfield 58, 3) := by decide +kernel
theorem dX12_lays_183 : decode cX12_lays 183 = .ok (.iload_n 3, 1) := by decide +kernel
theorem dX12_lays_184 : decode cX12_lays 184 = .ok (.aload_n 0, 1) := by decide +kernel
theorem dX12_lays_185 : decode cX12_lays 185 = .ok (.getfield 58, 3) := by decide +kernel
theorem dX12_lays_188 : decode cX12_lays 188 = .ok (.iload_n 1, 1) := by decide +kernel
theorem dX12_lays_189 : decode cX12_lays 189 = .ok (.laload, 1) := by decide +kernel
theorem dX12_lays_190 : decode cX12_lays 190 = .ok (.aload_n 0, 1) := by decide +kernel
theorem dX12_lays_191 : decode cX12_lays 191 = .ok (.getfield 58, 3) := by decide +kernel
theorem dX12_lays_194 : decode cX12_lays 194 = .ok (.iload_n 2, 1) := by decide +kernel
theorem dX12_lays_195 : decode cX12_lays 195 = .ok (.laload, 1) := by decide +kernel
theorem dX12_lays_196 : decode cX12_lays 196 = .ok (.lcmp, 1) := by decide +kernel
theorem dX12_lays_197 : decode cX12_lays 197 = .ok (.ifCond .le 12, 3) := by decide +kernel
theorem dX12_lays_200 : decode cX12_lays 200 = .ok (.aload_n 0, 1) := by decide +kernel
theorem dX12_lays_201 : decode cX12_lays 201 = .ok (.getfield 58, 3) := by decide +kernel
theorem dX12_lays_204 : decode cX12_lays 204 = .ok (.iload_n 1, 1) := by decide +kernel
theorem dX12_lays_205 : decode cX12_lays 205 = .ok (.laload, 1) := by decide +kernel
theorem dX12_lays_206 : decode cX12_lays 206 = .ok (.goto 9, 3) := by decide +kernel
theorem dX12_lays_209 : decode cX12_lays 209 = .ok (.aload_n 0, 1) := by decide +kernel
theorem dX12_lays_210 : decode cX12_lays 210 = .ok (.getfield 58, 3) := by decide +kernel
theorem dX12_lays_213 : decode cX12_lays 213 = .ok (.iload_n 2, 1) := by decide +kernel
theorem dX12_lays_214 : decode cX12_lays 214 = .ok (.laload, 1) := by decide +kernel
theorem dX12_lays_215 : decode cX12_lays 215 = .ok (.lastore, 1) := by decide +kernel
theorem dX12_lays_216 : decode cX12_lays 216 = .ok (.iconst 0, 1) := by decide +kernel
theorem dX12_lays_217 : decode cX12_lays 217 = .ok (.istore 4, 2) := by decide +kernel
theorem dX12_lays_219 : decode cX12_lays 219 = .ok (.iload 4, 2) := by decide +kernel
theorem dX12_lays_221 : decode cX12_lays 221 = .ok (.aload_n 0, 1) := by decide +kernel
theorem dX12_lays_222 : decode cX12_lays 222 = .ok (.getfield 13, 3) := by decide +kernel
theorem dX12_lays_225 : decode cX12_lays 225 = .ok (.if_icmp .ge 28, 3) := by decide +kernel
theorem dX12_lays_228 : decode cX12_lays 228 = .ok (.aload_n 0, 1) := by decide +kernel
theorem dX12_lays_229 : decode cX12_lays 229 = .ok (.getfield 64, 3) := by decide +kernel
theorem dX12_lays_232 : decode cX12_lays 232 = .ok (.iload 4, 2) := by decide +kernel
theorem dX12_lays_234 : decode cX12_lays 234 = .ok (.baload, 1) := by decide +kernel
theorem dX12_lays_235 : decode cX12_lays 235 = .ok (.ifCond .ne 12, 3) := by decide +kernel
theorem dX12_lays_238 : decode cX12_lays 238 = .ok (.aload_n 0, 1) := by decide +kernel
theorem dX12_lays_239 : decode cX12_lays 239 = .ok (.iload_n 1, 1) := by decide +kernel
theorem dX12_lays_240 : decode cX12_lays 240 = .ok (.iload_n 2, 1) := by decide +kernel
theorem dX12_lays_241 : decode cX12_lays 241 = .ok (.iload_n 3, 1) := by decide +kernel
theorem dX12_lays_242 : decode cX12_lays 242 = .ok (.iload 4, 2) := by decide +kernel
theorem dX12_lays_244 : decode cX12_lays 244 = .ok (.invokevirtual 238, 3) := by decide +kernel
theorem dX12_lays_247 : decode cX12_lays 247 = .ok (.iinc 4 1, 3) := by decide +kernel
theorem dX12_lays_250 : decode cX12_lays 250 = .ok (.goto (-31), 3) := by decide +kernel
theorem dX12_lays_253 : decode cX12_lays 253 = .ok (.return_, 1) := by decide +kernel
def f_X12_lays_u3 (Q : ml_St → Prop) (K26 : ml_St → Int → Int → Int → Prop) : Nat → ml_St → Int → Int → Int → Int → Prop
| 0, _, _, _, _, _ => False
| N + 1, σ, x1, x2, x3, x4 =>
∀ _ : I32 (σ 215 2),
((σ 215 2) ≤ x4 →
K26 σ x1 x2 x3) ∧
(¬ ((σ 215 2) ≤ x4) →
(0 : Int) ≤ x4 ∧ (x4 : Int) < 5 ∧
∀ σ3, σ3 = ml_up σ 232 x4 0 →
I32 (x4 + 1) ∧
∀ y4 : Int, y4 = x4 + 1 →
f_X12_lays_u3 Q K26 N σ3 x1 x2 x3 y4)
def f_X12_lays_u29 (Q : ml_St → Prop) (K141 : ml_St → Int → Int → Int → Prop) : Nat → ml_St → Int → Int → Int → Int → Prop
| 0, _, _, _, _, _ => False
| N + 1, σ, x1, x2, x3, x4 =>
∀ _ : I32 (σ 215 2),
((σ 215 2) ≤ x4 →
K141 σ x1 x2 x3) ∧
(¬ ((σ 215 2) ≤ x4) →
f_X12_leads σ x1 x2 1 x4 (fun r3 σ3 => ∀ _ : I32 r3,
I32 (10 * x3) ∧
I32 ((10 * x3) + x4) ∧
(0 : Int) ≤ ((10 * x3) + x4) ∧ (((10 * x3) + x4) : Int) < 640 ∧
∀ σ6, σ6 = ml_up σ3 227 ((10 * x3) + x4) r3 →
I32 (10 * x3) ∧
I32 ((10 * x3) + x4) ∧
∀ _ : I64 (σ6 215 27),
(0 : Int) ≤ ((10 * x3) + x4) ∧ (((10 * x3) + x4) : Int) < 640 ∧
∀ σ10, σ10 = ml_up σ6 228 ((10 * x3) + x4) (σ6 215 27) →
∀ _ : I32 (σ10 215 2),
I32 ((σ10 215 2) + x4) ∧
f_X12_leads σ10 x1 x2 0 ((σ10 215 2) + x4) (fun r13 σ13 => ∀ _ : I32 r13,
I32 (10 * x3) ∧
∀ _ : I32 (σ13 215 2),
I32 ((10 * x3) + (σ13 215 2)) ∧
I32 (((10 * x3) + (σ13 215 2)) + x4) ∧
(0 : Int) ≤ (((10 * x3) + (σ13 215 2)) + x4) ∧ ((((10 * x3) + (σ13 215 2)) + x4) : Int) < 640 ∧
∀ σ18, σ18 = ml_up σ13 227 (((10 * x3) + (σ13 215 2)) + x4) r13 →
I32 (10 * x3) ∧
∀ _ : I32 (σ18 215 2),
I32 ((10 * x3) + (σ18 215 2)) ∧
I32 (((10 * x3) + (σ18 215 2)) + x4) ∧
∀ _ : I64 (σ18 215 27),
(0 : Int) ≤ (((10 * x3) + (σ18 215 2)) + x4) ∧ ((((10 * x3) + (σ18 215 2)) + x4) : Int) < 640 ∧
∀ σ24, σ24 = ml_up σ18 228 (((10 * x3) + (σ18 215 2)) + x4) (σ18 215 27) →
I32 (x4 + 1) ∧
∀ y25 : Int, y25 = x4 + 1 →
f_X12_lays_u29 Q K141 N σ24 x1 x2 x3 y25)))
def f_X12_lays_u247 (Q : ml_St → Prop) (K219 : ml_St → Int → Int → Int → Int → Prop) (σ : ml_St) (x1 : Int) (x2 : Int) (x3 : Int) (x4 : Int) : Prop :=
I32 (x4 + 1) ∧
∀ y1 : Int, y1 = x4 + 1 →
K219 σ x1 x2 x3 y1
def f_X12_lays_u219 (Q : ml_St → Prop) (K253 : ml_St → Prop) : Nat → ml_St → Int → Int → Int → Int → Prop
| 0, _, _, _, _, _ => False
| N + 1, σ, x1, x2, x3, x4 =>
∀ _ : I32 (σ 215 2),
((σ 215 2) ≤ x4 →
K253 σ) ∧
(¬ ((σ 215 2) ≤ x4) →
(0 : Int) ≤ x4 ∧ (x4 : Int) < 5 ∧
∀ _ : ml_B (σ 232 x4),
(((σ 232 x4) : Int) ≠ 0 →
f_X12_lays_u247 Q (f_X12_lays_u219 Q K253 N) σ x1 x2 x3 x4) ∧
((σ 232 x4) = 0 →
f_X12_ring σ x1 x2 x3 x4 (fun σ5 =>
f_X12_lays_u247 Q (f_X12_lays_u219 Q K253 N) σ5 x1 x2 x3 x4)))
def f_X12_lays_u253 (Q : ml_St → Prop) (σ : ml_St) : Prop :=
Q σ
def f_X12_lays_u215 (Q : ml_St → Prop) (σ : ml_St) (x1 : Int) (x2 : Int) (x3 : Int) (s1 : Int) (s2 : Int) : Prop :=
(0 : Int) ≤ s1 ∧ (s1 : Int) < 64 ∧
∀ σ1, σ1 = ml_up σ 230 s1 s2 →
∃ N1, f_X12_lays_u219 Q (f_X12_lays_u253 Q) N1 σ1 x1 x2 x3 0
def f_X12_lays_u141 (Q : ml_St → Prop) (σ : ml_St) (x1 : Int) (x2 : Int) (x3 : Int) : Prop :=
(0 : Int) ≤ x1 ∧ (x1 : Int) < 64 ∧
∀ _ : I64 (σ 229 x1),
(0 : Int) ≤ x2 ∧ (x2 : Int) < 64 ∧
∀ _ : I64 (σ 229 x2),
(0 : Int) ≤ x3 ∧ (x3 : Int) < 64 ∧
∀ σ4, σ4 = ml_up σ 229 x3 (w64 ((σ 229 x1) + (σ 229 x2))) →
(0 : Int) ≤ x1 ∧ (x1 : Int) < 64 ∧
∀ _ : I64 (σ4 231 x1),
(0 : Int) ≤ x2 ∧ (x2 : Int) < 64 ∧
∀ _ : I64 (σ4 231 x2),
(0 : Int) ≤ x3 ∧ (x3 : Int) < 64 ∧
∀ σ8, σ8 = ml_up σ4 231 x3 (w64 ((σ4 231 x1) + (σ4 231 x2))) →
(0 : Int) ≤ x1 ∧ (x1 : Int) < 64 ∧
∀ _ : I64 (σ8 230 x1),
(0 : Int) ≤ x2 ∧ (x2 : Int) < 64 ∧
∀ _ : I64 (σ8 230 x2),
(((σ8 230 x1) : Int) ≤ (σ8 230 x2) →
(0 : Int) ≤ x2 ∧ (x2 : Int) < 64 ∧
∀ _ : I64 (σ8 230 x2),
f_X12_lays_u215 Q σ8 x1 x2 x3 x3 (σ8 230 x2)) ∧
(¬ (((σ8 230 x1) : Int) ≤ (σ8 230 x2)) →
(0 : Int) ≤ x1 ∧ (x1 : Int) < 64 ∧
∀ _ : I64 (σ8 230 x1),
f_X12_lays_u215 Q σ8 x1 x2 x3 x3 (σ8 230 x1))
def f_X12_lays_u26 (Q : ml_St → Prop) (σ : ml_St) (x1 : Int) (x2 : Int) (x3 : Int) : Prop :=
∃ N1, f_X12_lays_u29 Q (f_X12_lays_u141 Q) N1 σ x1 x2 x3 0
def f_X12_lays_u0 (Q : ml_St → Prop) (σ : ml_St) (x1 : Int) (x2 : Int) (x3 : Int) : Prop :=
∃ N1, f_X12_lays_u3 Q (f_X12_lays_u26 Q) N1 σ x1 x2 x3 0
def f_X12_lays (σ : ml_St) (x1 : Int) (x2 : Int) (x3 : Int) (Q : ml_St → Prop) : Prop := f_X12_lays_u0 Q σ x1 x2 x3
def rm_X12_lays : Room := { frames := 1, cells := 0, slots := 0, locals := 28 }
set_option maxRecDepth 100000 in
set_option maxHeartbeats 4000000 in
theorem u_X12_lays_3 {p : Program} {e : Env} {s : State} {m : MethodId} {args : Array Value} {below : List Frame} {meth : Method} {c : Code} {base : Nat} {D : va_G} {cA : Nat → ClassId} {n : Nat} {l : Launch} {Q : ml_St → Prop} {K26 : ml_St → Int → Int → Int → Prop} (X : ml_X p s m c meth args D cA cX12_lays 6 RX12 none) (hn : 256 ≤ n) (hK26 : ∀ (σ : ml_St) (x1 : Int) (x2 : Int) (x3 : Int) (h_x1 : I32 x1) (h_x2 : I32 x2) (h_x3 : I32 x3) (ls : Array Slot), lv_has ls 6 [(0, .ref (base + (215 : Int).toNat)), (1, .int (Int32.ofInt x1)), (2, .int (Int32.ofInt x2)), (3, .int (Int32.ofInt x3))] → K26 σ x1 x2 x3 → ml_V p l e rm_X12_lays s m args below meth c (MQ below (ml_Qv base D cA n Q) args s 0 0 (ml_A base)) base D cA 0 0 n n σ (F0 m 26 ls [])) : ∀ (N : Nat) (σ : ml_St) (x1 : Int) (x2 : Int) (x3 : Int) (x4 : Int) (h_x1 : I32 x1) (h_x2 : I32 x2) (h_x3 : I32 x3) (h_x4 : I32 x4) (ls : Array Slot), lv_has ls 6 [(0, .ref (base + (215 : Int).toNat)), (1, .int (Int32.ofInt x1)), (2, .int (Int32.ofInt x2)), (3, .int (Int32.ofInt x3)), (4, .int (Int32.ofInt x4))] → f_X12_lays_u3 Q K26 N σ x1 x2 x3 x4 → ml_V p l e rm_X12_lays s m args below meth c (MQ below (ml_Qv base D cA n Q) args s 0 0 (ml_A base)) base D cA 0 0 n n σ (F0 m 3 ls []) := by
  intro N
  induction N with
  | zero => intro σ x1 x2 x3 x4 h_x1 h_x2 h_x3 h_x4 ls hl hw; exact False.elim hw
  | succ N ih =>
    intro σ x1 x2 x3 x4 h_x1 h_x2 h_x3 h_x4 ls hl hw
    unfold f_X12_lays_u3 at hw
    refine ml_iload (pc := 3) X hl 4 rfl dX12_lays_3 ?_
    refine ml_aload_n (pc := 5) X hl 0 rfl rfl dX12_lays_5 ?_
    refine gf_X12_13 (pc := 6) X (ml_c215 hn) dX12_lays_6 (fun r1 => ?_)
    have hw := hw r1
    refine ml_icmp_ge (pc := 9) (tgt := 26) X h_x4 r1 dX12_lays_9 (by decide) (fun c2 => ?_) (fun c2 => ?_)
    · have hw := hw.1 c2
      exact hK26 σ x1 x2 x3 h_x1 h_x2 h_x3 _ (lv_sub hl [0, 1, 2, 3] rfl) hw
    · have hw := hw.2 c2
      refine ml_aload_n (pc := 12) X hl 0 rfl rfl dX12_lays_12 ?_
      refine gf_X12_64 (pc := 13) X (ml_c215 hn) dX12_lays_13 ?_
      refine ml_iload (pc := 16) X hl 4 rfl dX12_lays_16 ?_
      refine ml_iconst (pc := 18) X dX12_lays_18 ?_
      obtain ⟨a3, b3, hw⟩ := hw
      refine ml_zast (pc := 19) (N := 5) X (ml_c232 hn) a3 b3 ⟨by decide, by decide⟩ dX12_lays_19 (fun σ3 g3 => ?_)
      have hw := hw σ3 g3
      obtain ⟨v4, hw⟩ := hw
      obtain ⟨y4, e4⟩ : ∃ y : Int, y = x4 + 1 := ⟨_, rfl⟩
      have hw := hw y4 e4
      rw [← e4] at v4
      refine ml_iinc (pc := 20) X e4 hl 4 rfl (by decide) (lst' := [(4, .int (Int32.ofInt y4)), (0, .ref (base + (215 : Int).toNat)), (1, .int (Int32.ofInt x1)), (2, .int (Int32.ofInt x2)), (3, .int (Int32.ofInt x3))]) rfl dX12_lays_20 (fun ls hl => ?_)
      refine ml_goto (pc := 23) (tgt := 3) X dX12_lays_23 (by decide) ?_
      exact ih σ3 x1 x2 x3 y4 h_x1 h_x2 h_x3 v4 _ (lv_sub hl [1, 2, 3, 4, 0] rfl) hw
set_option maxRecDepth 100000 in
set_option maxHeartbeats 4000000 in
theorem u_X12_lays_29 {p : Program} {e : Env} {s : State} {m : MethodId} {args : Array Value} {below : List Frame} {meth : Method} {c : Code} {base : Nat} {D : va_G} {cA : Nat → ClassId} {n : Nat} {l : Launch} {Q : ml_St → Prop} {K141 : ml_St → Int → Int → Int → Prop} (X : ml_X p s m c meth args D cA cX12_lays 6 RX12 none) (hn : 256 ≤ n) (hK141 : ∀ (σ : ml_St) (x1 : Int) (x2 : Int) (x3 : Int) (h_x1 : I32 x1) (h_x2 : I32 x2) (h_x3 : I32 x3) (ls : Array Slot), lv_has ls 6 [(0, .ref (base + (215 : Int).toNat)), (1, .int (Int32.ofInt x1)), (2, .int (Int32.ofInt x2)), (3, .int (Int32.ofInt x3))] → K141 σ x1 x2 x3 → ml_V p l e rm_X12_lays s m args below meth c (MQ below (ml_Qv base D cA n Q) args s 0 0 (ml_A base)) base D cA 0 0 n n σ (F0 m 141 ls [])) : ∀ (N : Nat) (σ : ml_St) (x1 : Int) (x2 : Int) (x3 : Int) (x4 : Int) (h_x1 : I32 x1) (h_x2 : I32 x2) (h_x3 : I32 x3) (h_x4 : I32 x4) (ls : Array Slot), lv_has ls 6 [(0, .ref (base + (215 : Int).toNat)), (1, .int (Int32.ofInt x1)), (2, .int (Int32.ofInt x2)), (3, .int (Int32.ofInt x3)), (4, .int (Int32.ofInt x4))] → f_X12_lays_u29 Q K141 N σ x1 x2 x3 x4 → ml_V p l e rm_X12_lays s m args below meth c (MQ below (ml_Qv base D cA n Q) args s 0 0 (ml_A base)) base D cA 0 0 n n σ (F0 m 29 ls []) := by
  intro N
  induction N with
  | zero => intro σ x1 x2 x3 x4 h_x1 h_x2 h_x3 h_x4 ls hl hw; exact False.elim hw
  | succ N ih =>
    intro σ x1 x2 x3 x4 h_x1 h_x2 h_x3 h_x4 ls hl hw
    unfold f_X12_lays_u29 at hw
    refine ml_iload (pc := 29) X hl 4 rfl dX12_lays_29 ?_
    refine ml_aload_n (pc := 31) X hl 0 rfl rfl dX12_lays_31 ?_
    refine gf_X12_13 (pc := 32) X (ml_c215 hn) dX12_lays_32 (fun r1 => ?_)
    have hw := hw r1
    refine ml_icmp_ge (pc := 35) (tgt := 141) X h_x4 r1 dX12_lays_35 (by decide) (fun c2 => ?_) (fun c2 => ?_)
    · have hw := hw.1 c2
      exact hK141 σ x1 x2 x3 h_x1 h_x2 h_x3 _ (lv_sub hl [0, 1, 2, 3] rfl) hw
    · have hw := hw.2 c2
      refine ml_aload_n (pc := 38) X hl 0 rfl rfl dX12_lays_38 ?_
      refine ml_iload_n (pc := 39) X hl 1 rfl rfl dX12_lays_39 ?_
      refine ml_iload_n (pc := 40) X hl 2 rfl rfl dX12_lays_40 ?_
      refine ml_iconst (pc := 41) X dX12_lays_41 ?_
      refine ml_iload (pc := 42) X hl 4 rfl dX12_lays_42 ?_
      refine ml_calliV (pc := 44) (rest := []) X [.int (Int32.ofInt x1), .int (Int32.ofInt x2), .int (Int32.ofInt 1), .int (Int32.ofInt x4)] (by decide) rfl (ml_c215 hn) (c_X12_leads l base D cA n hn σ x1 x2 1 x4 h_x1 h_x2 ⟨by decide, by decide⟩ h_x4 _ hw) cv_X12_234 ⟨rfl, rfl⟩ ⟨by decide, by decide⟩ rfl rfl hl (Nat.le_of_ble_eq_true rfl) ⟨Nat.zero_le _, Nat.zero_le _⟩ dX12_lays_44 (fun r3 σ3 t3 hw => ?_)
      have hw := hw t3
      refine ml_istore (pc := 47) X hl (by decide) (lst' := [(5, .int (Int32.ofInt r3)), (0, .ref (base + (215 : Int).toNat)), (1, .int (Int32.ofInt x1)), (2, .int (Int32.ofInt x2)), (3, .int (Int32.ofInt x3)), (4, .int (Int32.ofInt x4))]) rfl dX12_lays_47 (fun ls hl => ?_)
      refine ml_aload_n (pc := 49) X hl 1 rfl rfl dX12_lays_49 ?_
      refine gf_X12_49 (pc := 50) X (ml_c215 hn) dX12_lays_50 ?_
      refine ml_bipush (pc := 53) X dX12_lays_53 (by decide) ?_
      refine ml_iload_n (pc := 55) X hl 4 rfl rfl dX12_lays_55 ?_
      obtain ⟨v4, hw⟩ := hw
      refine ml_imul (pc := 56) X dX12_lays_56 ?_
      refine ml_iload (pc := 57) X hl 5 rfl dX12_lays_57 ?_
      obtain ⟨v5, hw⟩ := hw
      refine ml_iadd (pc := 59) X dX12_lays_59 ?_
      refine ml_iload (pc := 60) X hl 0 rfl dX12_lays_60 ?_
      obtain ⟨a6, b6, hw⟩ := hw
      refine ml_iast (pc := 62) (N := 640) X (ml_c227 hn) a6 b6 t3 dX12_lays_62 (fun σ6 g6 => ?_)
      have hw := hw σ6 g6
      refine ml_aload_n (pc := 63) X hl 1 rfl rfl dX12_lays_63 ?_
      refine gf_X12_52 (pc := 64) X (ml_c215 hn) dX12_lays_64 ?_
      refine ml_bipush (pc := 67) X dX12_lays_67 (by decide) ?_
      refine ml_iload_n (pc := 69) X hl 4 rfl rfl dX12_lays_69 ?_
      obtain ⟨v7, hw⟩ := hw
      refine ml_imul (pc := 70) X dX12_lays_70 ?_
      refine ml_iload (pc := 71) X hl 5 rfl dX12_lays_71 ?_
      obtain ⟨v8, hw⟩ := hw
      refine ml_iadd (pc := 73) X dX12_lays_73 ?_
      refine ml_aload_n (pc := 74) X hl 1 rfl rfl dX12_lays_74 ?_
      refine gf_X12_230 (pc := 75) X (ml_c215 hn) dX12_lays_75 (fun r9 => ?_)
      have hw := hw r9
      obtain ⟨a10, b10, hw⟩ := hw
      refine ml_last (pc := 78) (N := 640) X (ml_c228 hn) a10 b10 r9 dX12_lays_78 (fun σ10 g10 => ?_)
      have hw := hw σ10 g10
      refine ml_aload_n (pc := 79) X hl 1 rfl rfl dX12_lays_79 ?_
      refine ml_iload_n (pc := 80) X hl 2 rfl rfl dX12_lays_80 ?_
      refine ml_iload_n (pc := 81) X hl 3 rfl rfl dX12_lays_81 ?_
      refine ml_iconst (pc := 82) X dX12_lays_82 ?_
      refine ml_aload_n (pc := 83) X hl 1 rfl rfl dX12_lays_83 ?_
      refine gf_X12_13 (pc := 84) X (ml_c215 hn) dX12_lays_84 (fun r11 => ?_)
      have hw := hw r11
      refine ml_iload (pc := 87) X hl 5 rfl dX12_lays_87 ?_
      obtain ⟨v12, hw⟩ := hw
      refine ml_iadd (pc := 89) X dX12_lays_89 ?_
      refine ml_calliV (pc := 90) (rest := []) X [.int (Int32.ofInt x1), .int (Int32.ofInt x2), .int (Int32.ofInt 0), .int (Int32.ofInt ((σ10 215 2) + x4))] (by decide) rfl (ml_c215 hn) (c_X12_leads l base D cA n hn σ10 x1 x2 0 ((σ10 215 2) + x4) h_x1 h_x2 ⟨by decide, by decide⟩ v12 _ hw) cv_X12_234 ⟨rfl, rfl⟩ ⟨by decide, by decide⟩ rfl rfl hl (Nat.le_of_ble_eq_true rfl) ⟨Nat.zero_le _, Nat.zero_le _⟩ dX12_lays_90 (fun r13 σ13 t13 hw => ?_)
      have hw := hw t13
      refine ml_istore (pc := 93) X hl (by decide) (lst' := [(5, .int (Int32.ofInt r13)), (0, .ref (base + (215 : Int).toNat)), (1, .int (Int32.ofInt x1)), (2, .int (Int32.ofInt x2)), (3, .int (Int32.ofInt x3)), (4, .int (Int32.ofInt x4))]) rfl dX12_lays_93 (fun ls hl => ?_)
      refine ml_aload_n (pc := 95) X hl 1 rfl rfl dX12_lays_95 ?_
      refine gf_X12_49 (pc := 96) X (ml_c215 hn) dX12_lays_96 ?_
      refine ml_bipush (pc := 99) X dX12_lays_99 (by decide) ?_
      refine ml_iload_n (pc := 101) X hl 4 rfl rfl dX12_lays_101 ?_
      obtain ⟨v14, hw⟩ := hw
      refine ml_imul (pc := 102) X dX12_lays_102 ?_
      refine ml_aload_n (pc := 103) X hl 1 rfl rfl dX12_lays_103 ?_
      refine gf_X12_13 (pc := 104) X (ml_c215 hn) dX12_lays_104 (fun r15 => ?_)
      have hw := hw r15
      obtain ⟨v16, hw⟩ := hw
      refine ml_iadd (pc := 107) X dX12_lays_107 ?_
      refine ml_iload (pc := 108) X hl 5 rfl dX12_lays_108 ?_
      obtain ⟨v17, hw⟩ := hw
      refine ml_iadd (pc := 110) X dX12_lays_110 ?_
      refine ml_iload (pc := 111) X hl 0 rfl dX12_lays_111 ?_
      obtain ⟨a18, b18, hw⟩ := hw
      refine ml_iast (pc := 113) (N := 640) X (ml_c227 hn) a18 b18 t13 dX12_lays_113 (fun σ18 g18 => ?_)
      have hw := hw σ18 g18
      refine ml_aload_n (pc := 114) X hl 1 rfl rfl dX12_lays_114 ?_
      refine gf_X12_52 (pc := 115) X (ml_c215 hn) dX12_lays_115 ?_
      refine ml_bipush (pc := 118) X dX12_lays_118 (by decide) ?_
      refine ml_iload_n (pc := 120) X hl 4 rfl rfl dX12_lays_120 ?_
      obtain ⟨v19, hw⟩ := hw
      refine ml_imul (pc := 121) X dX12_lays_121 ?_
      refine ml_aload_n (pc := 122) X hl 1 rfl rfl dX12_lays_122 ?_
      refine gf_X12_13 (pc := 123) X (ml_c215 hn) dX12_lays_123 (fun r20 => ?_)
      have hw := hw r20
      obtain ⟨v21, hw⟩ := hw
      refine ml_iadd (pc := 126) X dX12_lays_126 ?_
      refine ml_iload (pc := 127) X hl 5 rfl dX12_lays_127 ?_
      obtain ⟨v22, hw⟩ := hw
      refine ml_iadd (pc := 129) X dX12_lays_129 ?_
      refine ml_aload_n (pc := 130) X hl 1 rfl rfl dX12_lays_130 ?_
      refine gf_X12_230 (pc := 131) X (ml_c215 hn) dX12_lays_131 (fun r23 => ?_)
      have hw := hw r23
      obtain ⟨a24, b24, hw⟩ := hw
      refine ml_last (pc := 134) (N := 640) X (ml_c228 hn) a24 b24 r23 dX12_lays_134 (fun σ24 g24 => ?_)
      have hw := hw σ24 g24
      obtain ⟨v25, hw⟩ := hw
      obtain ⟨y25, e25⟩ : ∃ y : Int, y = x4 + 1 := ⟨_, rfl⟩
      have hw := hw y25 e25
      rw [← e25] at v25
      refine ml_iinc (pc := 135) X e25 hl 5 rfl (by decide) (lst' := [(4, .int (Int32.ofInt y25)), (5, .int (Int32.ofInt r13)), (0, .ref (base + (215 : Int).toNat)), (1, .int (Int32.ofInt x1)), (2, .int (Int32.ofInt x2)), (3, .int (Int32.ofInt x3))]) rfl dX12_lays_135 (fun ls hl => ?_)
      refine ml_goto (pc := 138) (tgt := 29) X dX12_lays_138 (by decide) ?_
      exact ih σ24 x1 x2 x3 y25 h_x1 h_x2 h_x3 v25 _ (lv_sub hl [2, 3, 4, 5, 0] rfl) hw
set_option maxRecDepth 100000 in
set_option maxHeartbeats 4000000 in
theorem u_X12_lays_247 {p : Program} {e : Env} {s : State} {m : MethodId} {args : Array Value} {below : List Frame} {meth : Method} {c : Code} {base : Nat} {D : va_G} {cA : Nat → ClassId} {n : Nat} {l : Launch} {Q : ml_St → Prop} {K219 : ml_St → Int → Int → Int → Int → Prop} (X : ml_X p s m c meth args D cA cX12_lays 6 RX12 none) (hn : 256 ≤ n) (hK219 : ∀ (σ : ml_St) (x1 : Int) (x2 : Int) (x3 : Int) (x4 : Int) (h_x1 : I32 x1) (h_x2 : I32 x2) (h_x3 : I32 x3) (h_x4 : I32 x4) (ls : Array Slot), lv_has ls 6 [(0, .ref (base + (215 : Int).toNat)), (1, .int (Int32.ofInt x1)), (2, .int (Int32.ofInt x2)), (3, .int (Int32.ofInt x3)), (4, .int (Int32.ofInt x4))] → K219 σ x1 x2 x3 x4 → ml_V p l e rm_X12_lays s m args below meth c (MQ below (ml_Qv base D cA n Q) args s 0 0 (ml_A base)) base D cA 0 0 n n σ (F0 m 219 ls [])) (σ : ml_St) (x1 : Int) (x2 : Int) (x3 : Int) (x4 : Int) (h_x1 : I32 x1) (h_x2 : I32 x2) (h_x3 : I32 x3) (h_x4 : I32 x4) (ls : Array Slot) (hl : lv_has ls 6 [(0, .ref (base + (215 : Int).toNat)), (1, .int (Int32.ofInt x1)), (2, .int (Int32.ofInt x2)), (3, .int (Int32.ofInt x3)), (4, .int (Int32.ofInt x4))]) (hw : f_X12_lays_u247 Q K219 σ x1 x2 x3 x4) : ml_V p l e rm_X12_lays s m args below meth c (MQ below (ml_Qv base D cA n Q) args s 0 0 (ml_A base)) base D cA 0 0 n n σ (F0 m 247 ls []) := by
  unfold f_X12_lays_u247 at hw
  obtain ⟨v1, hw⟩ := hw
  obtain ⟨y1, e1⟩ : ∃ y : Int, y = x4 + 1 := ⟨_, rfl⟩
  have hw := hw y1 e1
  rw [← e1] at v1
  refine ml_iinc (pc := 247) X e1 hl 4 rfl (by decide) (lst' := [(4, .int (Int32.ofInt y1)), (0, .ref (base + (215 : Int).toNat)), (1, .int (Int32.ofInt x1)), (2, .int (Int32.ofInt x2)), (3, .int (Int32.ofInt x3))]) rfl dX12_lays_247 (fun ls hl => ?_)
  refine ml_goto (pc := 250) (tgt := 219) X dX12_lays_250 (by decide) ?_
  exact hK219 σ x1 x2 x3 y1 h_x1 h_x2 h_x3 v1 _ (lv_sub hl [1, 2, 3, 4, 0] rfl) hw
set_option maxRecDepth 100000 in
set_option maxHeartbeats 4000000 in
theorem u_X12_lays_219 {p : Program} {e : Env} {s : State} {m : MethodId} {args : Array Value} {below : List Frame} {meth : Method} {c : Code} {base : Nat} {D : va_G} {cA : Nat → ClassId} {n : Nat} {l : Launch} {Q : ml_St → Prop} {K253 : ml_St → Prop} (X : ml_X p s m c meth args D cA cX12_lays 6 RX12 none) (hn : 256 ≤ n) (hK253 : ∀ (σ : ml_St) (ls : Array Slot), lv_has ls 6 [] → K253 σ → ml_V p l e rm_X12_lays s m args below meth c (MQ below (ml_Qv base D cA n Q) args s 0 0 (ml_A base)) base D cA 0 0 n n σ (F0 m 253 ls [])) : ∀ (N : Nat) (σ : ml_St) (x1 : Int) (x2 : Int) (x3 : Int) (x4 : Int) (h_x1 : I32 x1) (h_x2 : I32 x2) (h_x3 : I32 x3) (h_x4 : I32 x4) (ls : Array Slot), lv_has ls 6 [(0, .ref (base + (215 : Int).toNat)), (1, .int (Int32.ofInt x1)), (2, .int (Int32.ofInt x2)), (3, .int (Int32.ofInt x3)), (4, .int (Int32.ofInt x4))] → f_X12_lays_u219 Q K253 N σ x1 x2 x3 x4 → ml_V p l e rm_X12_lays s m args below meth c (MQ below (ml_Qv base D cA n Q) args s 0 0 (ml_A base)) base D cA 0 0 n n σ (F0 m 219 ls []) := by
  intro N
  induction N with
  | zero => intro σ x1 x2 x3 x4 h_x1 h_x2 h_x3 h_x4 ls hl hw; exact False.elim hw
  | succ N ih =>
    intro σ x1 x2 x3 x4 h_x1 h_x2 h_x3 h_x4 ls hl hw
    unfold f_X12_lays_u219 at hw
    refine ml_iload (pc := 219) X hl 4 rfl dX12_lays_219 ?_
    refine ml_aload_n (pc := 221) X hl 0 rfl rfl dX12_lays_221 ?_
    refine gf_X12_13 (pc := 222) X (ml_c215 hn) dX12_lays_222 (fun r1 => ?_)
    have hw := hw r1
    refine ml_icmp_ge (pc := 225) (tgt := 253) X h_x4 r1 dX12_lays_225 (by decide) (fun c2 => ?_) (fun c2 => ?_)
    · have hw := hw.1 c2
      exact hK253 σ   _ (lv_sub hl [] rfl) hw
    · have hw := hw.2 c2
      refine ml_aload_n (pc := 228) X hl 0 rfl rfl dX12_lays_228 ?_
      refine gf_X12_64 (pc := 229) X (ml_c215 hn) dX12_lays_229 ?_
      refine ml_iload (pc := 232) X hl 4 rfl dX12_lays_232 ?_
      obtain ⟨a3, b3, hw⟩ := hw
      refine ml_zald (pc := 234) (N := 5) X (ml_c232 hn) a3 b3 dX12_lays_234 (fun r3 => ?_)
      have hw := hw r3
      refine ml_if_ne (pc := 235) (tgt := 247) X r3.i dX12_lays_235 (by decide) (fun c4 => ?_) (fun c4 => ?_)
      · have hw := hw.1 c4
        exact u_X12_lays_247 X hn ih σ x1 x2 x3 x4 h_x1 h_x2 h_x3 h_x4 _ (lv_sub hl [0, 1, 2, 3, 4] rfl) hw
      · have hw := hw.2 c4
        refine ml_aload_n (pc := 238) X hl 0 rfl rfl dX12_lays_238 ?_
        refine ml_iload_n (pc := 239) X hl 1 rfl rfl dX12_lays_239 ?_
        refine ml_iload_n (pc := 240) X hl 2 rfl rfl dX12_lays_240 ?_
        refine ml_iload_n (pc := 241) X hl 3 rfl rfl dX12_lays_241 ?_
        refine ml_iload (pc := 242) X hl 4 rfl dX12_lays_242 ?_
        refine ml_callvV (pc := 244) (rest := []) X [.int (Int32.ofInt x1), .int (Int32.ofInt x2), .int (Int32.ofInt x3), .int (Int32.ofInt x4)] (by decide) rfl (ml_c215 hn) (c_X12_ring l base D cA n hn σ x1 x2 x3 x4 h_x1 h_x2 h_x3 h_x4 _ hw) cv_X12_238 ⟨rfl, rfl⟩ ⟨by decide, by decide⟩ rfl rfl hl (Nat.le_of_ble_eq_true rfl) ⟨Nat.zero_le _, Nat.zero_le _⟩ dX12_lays_244 (fun σ5 hw => ?_)
        exact u_X12_lays_247 X hn ih σ5 x1 x2 x3 x4 h_x1 h_x2 h_x3 h_x4 _ (lv_sub hl [0, 1, 2, 3, 4] rfl) hw
set_option maxRecDepth 100000 in
set_option maxHeartbeats 4000000 in
theorem u_X12_lays_253 {p : Program} {e : Env} {s : State} {m : MethodId} {args : Array Value} {below : List Frame} {meth : Method} {c : Code} {base : Nat} {D : va_G} {cA : Nat → ClassId} {n : Nat} {l : Launch} {Q : ml_St → Prop} (X : ml_X p s m c meth args D cA cX12_lays 6 RX12 none) (hn : 256 ≤ n) (σ : ml_St) (ls : Array Slot) (hl : lv_has ls 6 []) (hw : f_X12_lays_u253 Q σ) : ml_V p l e rm_X12_lays s m args below meth c (MQ below (ml_Qv base D cA n Q) args s 0 0 (ml_A base)) base D cA 0 0 n n σ (F0 m 253 ls []) := by
  unfold f_X12_lays_u253 at hw
  exact ml_vret (pc := 253) X hw dX12_lays_253
set_option maxRecDepth 100000 in
set_option maxHeartbeats 4000000 in
theorem u_X12_lays_215 {p : Program} {e : Env} {s : State} {m : MethodId} {args : Array Value} {below : List Frame} {meth : Method} {c : Code} {base : Nat} {D : va_G} {cA : Nat → ClassId} {n : Nat} {l : Launch} {Q : ml_St → Prop} (X : ml_X p s m c meth args D cA cX12_lays 6 RX12 none) (hn : 256 ≤ n) (σ : ml_St) (x1 : Int) (x2 : Int) (x3 : Int) (s1 : Int) (s2 : Int) (h_x1 : I32 x1) (h_x2 : I32 x2) (h_x3 : I32 x3) (h_s1 : I32 s1) (h_s2 : I64 s2) (ls : Array Slot) (hl : lv_has ls 6 [(0, .ref (base + (215 : Int).toNat)), (1, .int (Int32.ofInt x1)), (2, .int (Int32.ofInt x2)), (3, .int (Int32.ofInt x3))]) (hw : f_X12_lays_u215 Q σ x1 x2 x3 s1 s2) : ml_V p l e rm_X12_lays s m args below meth c (MQ below (ml_Qv base D cA n Q) args s 0 0 (ml_A base)) base D cA 0 0 n n σ (F0 m 215 ls [.long (Int64.ofInt s2), .int (Int32.ofInt s1), .ref (base + (230 : Int).toNat)]) := by
  unfold f_X12_lays_u215 at hw
  obtain ⟨a1, b1, hw⟩ := hw
  refine ml_last (pc := 215) (N := 64) X (ml_c230 hn) a1 b1 h_s2 dX12_lays_215 (fun σ1 g1 => ?_)
  have hw := hw σ1 g1
  refine ml_iconst (pc := 216) X dX12_lays_216 ?_
  refine ml_istore (pc := 217) X hl (by decide) (lst' := [(4, .int (Int32.ofInt 0)), (0, .ref (base + (215 : Int).toNat)), (1, .int (Int32.ofInt x1)), (2, .int (Int32.ofInt x2)), (3, .int (Int32.ofInt x3))]) rfl dX12_lays_217 (fun ls hl => ?_)
  obtain ⟨N0, hw⟩ := hw
  exact u_X12_lays_219 X hn (fun σ   ls hl hw => u_X12_lays_253 X hn σ   ls hl hw) N0 σ1 x1 x2 x3 0 h_x1 h_x2 h_x3 ⟨by decide, by decide⟩ _ (lv_sub hl [1, 2, 3, 4, 0] rfl) hw
set_option maxRecDepth 100000 in
set_option maxHeartbeats 4000000 in
theorem u_X12_lays_141 {p : Program} {e : Env} {s : State} {m : MethodId} {args : Array Value} {below : List Frame} {meth : Method} {c : Code} {base : Nat} {D : va_G} {cA : Nat → ClassId} {n : Nat} {l : Launch} {Q : ml_St → Prop} (X : ml_X p s m c meth args D cA cX12_lays 6 RX12 none) (hn : 256 ≤ n) (σ : ml_St) (x1 : Int) (x2 : Int) (x3 : Int) (h_x1 : I32 x1) (h_x2 : I32 x2) (h_x3 : I32 x3) (ls : Array Slot) (hl : lv_has ls 6 [(0, .ref (base + (215 : Int).toNat)), (1, .int (Int32.ofInt x1)), (2, .int (Int32.ofInt x2)), (3, .int (Int32.ofInt x3))]) (hw : f_X12_lays_u141 Q σ x1 x2 x3) : ml_V p l e rm_X12_lays s m args below meth c (MQ below (ml_Qv base D cA n Q) args s 0 0 (ml_A base)) base D cA 0 0 n n σ (F0 m 141 ls []) := by
  unfold f_X12_lays_u141 at hw
  refine ml_aload_n (pc := 141) X hl 0 rfl rfl dX12_lays_141 ?_
  refine gf_X12_55 (pc := 142) X (ml_c215 hn) dX12_lays_142 ?_
  refine ml_iload_n (pc := 145) X hl 3 rfl rfl dX12_lays_145 ?_
  refine ml_aload_n (pc := 146) X hl 0 rfl rfl dX12_lays_146 ?_
  refine gf_X12_55 (pc := 147) X (ml_c215 hn) dX12_lays_147 ?_
  refine ml_iload_n (pc := 150) X hl 1 rfl rfl dX12_lays_150 ?_
  obtain ⟨a1, b1, hw⟩ := hw
  refine ml_lald (pc := 151) (N := 64) X (ml_c229 hn) a1 b1 dX12_lays_151 (fun r1 => ?_)
  have hw := hw r1
  refine ml_aload_n (pc := 152) X hl 0 rfl rfl dX12_lays_152 ?_
  refine gf_X12_55 (pc := 153) X (ml_c215 hn) dX12_lays_153 ?_
  refine ml_iload_n (pc := 156) X hl 2 rfl rfl dX12_lays_156 ?_
  obtain ⟨a2, b2, hw⟩ := hw
  refine ml_lald (pc := 157) (N := 64) X (ml_c229 hn) a2 b2 dX12_lays_157 (fun r2 => ?_)
  have hw := hw r2
  refine ml_laddW (pc := 158) X dX12_lays_158 ?_
  obtain ⟨a4, b4, hw⟩ := hw
  refine ml_last (pc := 159) (N := 64) X (ml_c229 hn) a4 b4 (w64_r _) dX12_lays_159 (fun σ4 g4 => ?_)
  have hw := hw σ4 g4
  refine ml_aload_n (pc := 160) X hl 0 rfl rfl dX12_lays_160 ?_
  refine gf_X12_61 (pc := 161) X (ml_c215 hn) dX12_lays_161 ?_
  refine ml_iload_n (pc := 164) X hl 3 rfl rfl dX12_lays_164 ?_
  refine ml_aload_n (pc := 165) X hl 0 rfl rfl dX12_lays_165 ?_
  refine gf_X12_61 (pc := 166) X (ml_c215 hn) dX12_lays_166 ?_
  refine ml_iload_n (pc := 169) X hl 1 rfl rfl dX12_lays_169 ?_
  obtain ⟨a5, b5, hw⟩ := hw
  refine ml_lald (pc := 170) (N := 64) X (ml_c231 hn) a5 b5 dX12_lays_170 (fun r5 => ?_)
  have hw := hw r5
  refine ml_aload_n (pc := 171) X hl 0 rfl rfl dX12_lays_171 ?_
  refine gf_X12_61 (pc := 172) X (ml_c215 hn) dX12_lays_172 ?_
  refine ml_iload_n (pc := 175) X hl 2 rfl rfl dX12_lays_175 ?_
  obtain ⟨a6, b6, hw⟩ := hw
  refine ml_lald (pc := 176) (N := 64) X (ml_c231 hn) a6 b6 dX12_lays_176 (fun r6 => ?_)
  have hw := hw r6
  refine ml_laddW (pc := 177) X dX12_lays_177 ?_
  obtain ⟨a8, b8, hw⟩ := hw
  refine ml_last (pc := 178) (N := 64) X (ml_c231 hn) a8 b8 (w64_r _) dX12_lays_178 (fun σ8 g8 => ?_)
  have hw := hw σ8 g8
  refine ml_aload_n (pc := 179) X hl 0 rfl rfl dX12_lays_179 ?_
  refine gf_X12_58 (pc := 180) X (ml_c215 hn) dX12_lays_180 ?_
  refine ml_iload_n (pc := 183) X hl 3 rfl rfl dX12_lays_183 ?_
  refine ml_aload_n (pc := 184) X hl 0 rfl rfl dX12_lays_184 ?_
  refine gf_X12_58 (pc := 185) X (ml_c215 hn) dX12_lays_185 ?_
  refine ml_iload_n (pc := 188) X hl 1 rfl rfl dX12_lays_188 ?_
  obtain ⟨a9, b9, hw⟩ := hw
  refine ml_lald (pc := 189) (N := 64) X (ml_c230 hn) a9 b9 dX12_lays_189 (fun r9 => ?_)
  have hw := hw r9
  refine ml_aload_n (pc := 190) X hl 0 rfl rfl dX12_lays_190 ?_
  refine gf_X12_58 (pc := 191) X (ml_c215 hn) dX12_lays_191 ?_
  refine ml_iload_n (pc := 194) X hl 2 rfl rfl dX12_lays_194 ?_
  obtain ⟨a10, b10, hw⟩ := hw
  refine ml_lald (pc := 195) (N := 64) X (ml_c230 hn) a10 b10 dX12_lays_195 (fun r10 => ?_)
  have hw := hw r10
  refine ml_lcmp_le (pc := 196) (tgt := 209) X r9 r10 dX12_lays_196 dX12_lays_197 (by decide) (fun c11 => ?_) (fun c11 => ?_)
  · have hw := hw.1 c11
    refine ml_aload_n (pc := 209) X hl 0 rfl rfl dX12_lays_209 ?_
    refine gf_X12_58 (pc := 210) X (ml_c215 hn) dX12_lays_210 ?_
    refine ml_iload_n (pc := 213) X hl 2 rfl rfl dX12_lays_213 ?_
    obtain ⟨a12, b12, hw⟩ := hw
    refine ml_lald (pc := 214) (N := 64) X (ml_c230 hn) a12 b12 dX12_lays_214 (fun r12 => ?_)
    have hw := hw r12
    exact u_X12_lays_215 X hn σ8 x1 x2 x3 x3 (σ8 230 x2) h_x1 h_x2 h_x3 h_x3 r12 _ (lv_sub hl [0, 1, 2, 3] rfl) hw
  · have hw := hw.2 c11
    refine ml_aload_n (pc := 200) X hl 0 rfl rfl dX12_lays_200 ?_
    refine gf_X12_58 (pc := 201) X (ml_c215 hn) dX12_lays_201 ?_
    refine ml_iload_n (pc := 204) X hl 1 rfl rfl dX12_lays_204 ?_
    obtain ⟨a13, b13, hw⟩ := hw
    refine ml_lald (pc := 205) (N := 64) X (ml_c230 hn) a13 b13 dX12_lays_205 (fun r13 => ?_)
    have hw := hw r13
    refine ml_goto (pc := 206) (tgt := 215) X dX12_lays_206 (by decide) ?_
    exact u_X12_lays_215 X hn σ8 x1 x2 x3 x3 (σ8 230 x1) h_x1 h_x2 h_x3 h_x3 r13 _ (lv_sub hl [0, 1, 2, 3] rfl) hw
set_option maxRecDepth 100000 in
set_option maxHeartbeats 4000000 in
theorem u_X12_lays_26 {p : Program} {e : Env} {s : State} {m : MethodId} {args : Array Value} {below : List Frame} {meth : Method} {c : Code} {base : Nat} {D : va_G} {cA : Nat → ClassId} {n : Nat} {l : Launch} {Q : ml_St → Prop} (X : ml_X p s m c meth args D cA cX12_lays 6 RX12 none) (hn : 256 ≤ n) (σ : ml_St) (x1 : Int) (x2 : Int) (x3 : Int) (h_x1 : I32 x1) (h_x2 : I32 x2) (h_x3 : I32 x3) (ls : Array Slot) (hl : lv_has ls 6 [(0, .ref (base + (215 : Int).toNat)), (1, .int (Int32.ofInt x1)), (2, .int (Int32.ofInt x2)), (3, .int (Int32.ofInt x3))]) (hw : f_X12_lays_u26 Q σ x1 x2 x3) : ml_V p l e rm_X12_lays s m args below meth c (MQ below (ml_Qv base D cA n Q) args s 0 0 (ml_A base)) base D cA 0 0 n n σ (F0 m 26 ls []) := by
  unfold f_X12_lays_u26 at hw
  refine ml_iconst (pc := 26) X dX12_lays_26 ?_
  refine ml_istore (pc := 27) X hl (by decide) (lst' := [(4, .int (Int32.ofInt 0)), (0, .ref (base + (215 : Int).toNat)), (1, .int (Int32.ofInt x1)), (2, .int (Int32.ofInt x2)), (3, .int (Int32.ofInt x3))]) rfl dX12_lays_27 (fun ls hl => ?_)
  obtain ⟨N0, hw⟩ := hw
  exact u_X12_lays_29 X hn (fun σ x1 x2 x3 h_x1 h_x2 h_x3 ls hl hw => u_X12_lays_141 X hn σ x1 x2 x3 h_x1 h_x2 h_x3 ls hl hw) N0 σ x1 x2 x3 0 h_x1 h_x2 h_x3 ⟨by decide, by decide⟩ _ (lv_sub hl [1, 2, 3, 4, 0] rfl) hw
set_option maxRecDepth 100000 in
set_option maxHeartbeats 4000000 in
theorem u_X12_lays_0 {p : Program} {e : Env} {s : State} {m : MethodId} {args : Array Value} {below : List Frame} {meth : Method} {c : Code} {base : Nat} {D : va_G} {cA : Nat → ClassId} {n : Nat} {l : Launch} {Q : ml_St → Prop} (X : ml_X p s m c meth args D cA cX12_lays 6 RX12 none) (hn : 256 ≤ n) (σ : ml_St) (x1 : Int) (x2 : Int) (x3 : Int) (h_x1 : I32 x1) (h_x2 : I32 x2) (h_x3 : I32 x3) (ls : Array Slot) (hl : lv_has ls 6 [(0, .ref (base + (215 : Int).toNat)), (1, .int (Int32.ofInt x1)), (2, .int (Int32.ofInt x2)), (3, .int (Int32.ofInt x3))]) (hw : f_X12_lays_u0 Q σ x1 x2 x3) : ml_V p l e rm_X12_lays s m args below meth c (MQ below (ml_Qv base D cA n Q) args s 0 0 (ml_A base)) base D cA 0 0 n n σ (F0 m 0 ls []) := by
  unfold f_X12_lays_u0 at hw
  refine ml_iconst (pc := 0) X dX12_lays_0 ?_
  refine ml_istore (pc := 1) X hl (by decide) (lst' := [(4, .int (Int32.ofInt 0)), (0, .ref (base + (215 : Int).toNat)), (1, .int (Int32.ofInt x1)), (2, .int (Int32.ofInt x2)), (3, .int (Int32.ofInt x3))]) rfl dX12_lays_1 (fun ls hl => ?_)
  obtain ⟨N0, hw⟩ := hw
  exact u_X12_lays_3 X hn (fun σ x1 x2 x3 h_x1 h_x2 h_x3 ls hl hw => u_X12_lays_26 X hn σ x1 x2 x3 h_x1 h_x2 h_x3 ls hl hw) N0 σ x1 x2 x3 0 h_x1 h_x2 h_x3 ⟨by decide, by decide⟩ _ (lv_sub hl [1, 2, 3, 4, 0] rfl) hw
set_option maxRecDepth 100000 in
theorem c_X12_lays (l : Launch) (base : Nat) (D : va_G) (cA : Nat → ClassId) (n : Nat) (hn : 256 ≤ n) (σ : ml_St) (x1 : Int) (x2 : Int) (x3 : Int) (h_x1 : I32 x1) (h_x2 : I32 x2) (h_x3 : I32 x3) (Q : ml_St → Prop) (hw : f_X12_lays σ x1 x2 x3 Q) : Met l yX12_lays (Cond.code yX12_lays cX12_lays 6 none :: ml_T) rm_X12_lays (va_Pc [.ref (base + (215 : Int).toNat), .int (Int32.ofInt x1), .int (Int32.ofInt x2), .int (Int32.ofInt x3)] (ml_U base D cA n σ)) (ml_Qv base D cA n Q) 0 0 (ml_A base) := by
  refine Met.ofW (cc := cX12_lays) (maxL := 6) (ret := none) (by decide) rfl ?_
  intro p e s m args below meth c s₁ B hml hv
  obtain ⟨rfl, hP, hK, hok, hro⟩ := hv
  have X : ml_X p s m c meth _ D cA cX12_lays 6 RX12 none := ⟨B.exec, B.bytes, hml, findClass_of_methodNamed B.named, fun w hw => atoms_spec (ws := Cond.code yX12_lays cX12_lays 6 none :: ml_T) B.pre w (List.mem_cons_of_mem _ hw), hK, B.notSynchronized, B.returns⟩
  have hl := lv_entry [.ref (base + (215 : Int).toNat), .int (Int32.ofInt x1), .int (Int32.ofInt x2), .int (Int32.ofInt x3)] (n := 6) (Nat.le_of_ble_eq_true rfl)
  rw [lg_entry_eq]
  generalize (lg_sl [.ref (base + (215 : Int).toNat), .int (Int32.ofInt x1), .int (Int32.ofInt x2), .int (Int32.ofInt x3)] ++ List.replicate (6 - (lg_sl [.ref (base + (215 : Int).toNat), .int (Int32.ofInt x1), .int (Int32.ofInt x2), .int (Int32.ofInt x3)]).length) Slot.unset).toArray = ls at hl ⊢
  have hl : lv_has ls 6 [(0, .ref (base + (215 : Int).toNat)), (1, .int (Int32.ofInt x1)), (2, .int (Int32.ofInt x2)), (3, .int (Int32.ofInt x3))] := hl
  unfold f_X12_lays at hw
  exact u_X12_lays_0 X hn σ x1 x2 x3 h_x1 h_x2 h_x3 _ (lv_sub hl [0, 1, 2, 3] rfl) hw s.heap [] hP va_S.rf hok hro
