theorem dX12_signs_0 : decode cX12_signs 0 = .ok (.aload_n 0, 1) := by decide +kernel
theorem dX12_signs_1 : decode cX12_signs 1 = .ok (.iload_n 1, 1) := by decide +kernel
theorem dX12_signs_2 : decode cX12_signs 2 = .ok (.invokevirtual 287, 3) := by decide +kernel
theorem dX12_signs_5 : decode cX12_signs 5 = .ok (.ifCond .eq 11, 3) := by decide +kernel
theorem dX12_signs_8 : decode cX12_signs 8 = .ok (.aload_n 0, 1) := by decide +kernel
theorem dX12_signs_9 : decode cX12_signs 9 = .ok (.iload_n 1, 1) := by decide +kernel
theorem dX12_signs_10 : decode cX12_signs 10 = .ok (.invokevirtual 217, 3) := by decide +kernel
theorem dX12_signs_13 : decode cX12_signs 13 = .ok (.goto 6, 3) := by decide +kernel
theorem dX12_signs_16 : decode cX12_signs 16 = .ok (.ldc2_w 290, 3) := by decide +kernel
theorem dX12_signs_19 : decode cX12_signs 19 = .ok (.lreturn, 1) := by decide +kernel
def f_X12_signs_u19 (Q : Int → ml_St → Prop) (σ : ml_St) (s0 : Int) : Prop :=
Q s0 σ
def f_X12_signs_u0 (Q : Int → ml_St → Prop) (σ : ml_St) (x1 : Int) : Prop :=
f_X12_isWord σ x1 (fun r1 σ1 => ∀ _ : ml_B r1,
(r1 = 0 →
f_X12_signs_u19 Q σ1 (-1)) ∧
(r1 ≠ 0 →
False))
def f_X12_signs (σ : ml_St) (x1 : Int) (Q : Int → ml_St → Prop) : Prop := f_X12_signs_u0 Q σ x1
def rm_X12_signs : Room := { frames := 2, cells := 0, slots := 0, locals := 46 }
set_option maxRecDepth 100000 in
set_option maxHeartbeats 4000000 in
theorem u_X12_signs_19 {p : Program} {e : Env} {s : State} {m : MethodId} {args : Array Value} {below : List Frame} {meth : Method} {c : Code} {base : Nat} {D : va_G} {cA : Nat → ClassId} {n : Nat} {l : Launch} {Q : Int → ml_St → Prop} (X : ml_X p s m c meth args D cA cX12_signs 2 RX12 (some .long)) (hn : 256 ≤ n) (σ : ml_St) (s0 : Int) (h_s0 : I64 s0) (ls : Array Slot) (hl : lv_has ls 2 []) (hw : f_X12_signs_u19 Q σ s0) : ml_V p l e rm_X12_signs s m args below meth c (MQ below (ml_Ql base D cA n Q) args s 0 0 (ml_A base)) base D cA 0 0 n n σ (F0 m 19 ls [.long (Int64.ofInt s0)]) := by
  unfold f_X12_signs_u19 at hw
  exact ml_lret (pc := 19) X h_s0 hw dX12_signs_19
set_option maxRecDepth 100000 in
set_option maxHeartbeats 4000000 in
theorem u_X12_signs_0 {p : Program} {e : Env} {s : State} {m : MethodId} {args : Array Value} {below : List Frame} {meth : Method} {c : Code} {base : Nat} {D : va_G} {cA : Nat → ClassId} {n : Nat} {l : Launch} {Q : Int → ml_St → Prop} (X : ml_X p s m c meth args D cA cX12_signs 2 RX12 (some .long)) (hn : 256 ≤ n) (σ : ml_St) (x1 : Int) (h_x1 : I32 x1) (ls : Array Slot) (hl : lv_has ls 2 [(0, .ref (base + (215 : Int).toNat)), (1, .int (Int32.ofInt x1))]) (hw : f_X12_signs_u0 Q σ x1) : ml_V p l e rm_X12_signs s m args below meth c (MQ below (ml_Ql base D cA n Q) args s 0 0 (ml_A base)) base D cA 0 0 n n σ (F0 m 0 ls []) := by
  unfold f_X12_signs_u0 at hw
  refine ml_aload_n (pc := 0) X hl 0 rfl rfl dX12_signs_0 ?_
  refine ml_iload_n (pc := 1) X hl 1 rfl rfl dX12_signs_1 ?_
  refine ml_callzV (pc := 2) (rest := []) X [.int (Int32.ofInt x1)] (by decide) rfl (ml_c215 hn) (c_X12_isWord l base D cA n hn σ x1 h_x1 _ hw) cv_X12_287 ⟨rfl, rfl⟩ ⟨by decide, by decide⟩ rfl rfl hl (Nat.le_of_ble_eq_true rfl) ⟨Nat.zero_le _, Nat.zero_le _⟩ dX12_signs_2 (fun r1 σ1 t1 hw => ?_)
  have hw := hw t1
  refine ml_if_eq (pc := 5) (tgt := 16) X t1.i dX12_signs_5 (by decide) (fun c2 => ?_) (fun c2 => ?_)
  · have hw := hw.1 c2
    refine ml_ldc2 (pc := 16) (v := (-1)) X dX12_signs_16 tc_6_52 ?_
    exact u_X12_signs_19 X hn σ1 (-1) ⟨by decide, by decide⟩ _ (lv_sub hl [] rfl) hw
  · have hw := hw.2 c2
    refine ml_aload_n (pc := 8) X hl 0 rfl rfl dX12_signs_8 ?_
    refine ml_iload_n (pc := 9) X hl 1 rfl rfl dX12_signs_9 ?_
    exact hw.elim
set_option maxRecDepth 100000 in
theorem c_X12_signs (l : Launch) (base : Nat) (D : va_G) (cA : Nat → ClassId) (n : Nat) (hn : 256 ≤ n) (σ : ml_St) (x1 : Int) (h_x1 : I32 x1) (Q : Int → ml_St → Prop) (hw : f_X12_signs σ x1 Q) : Met l yX12_signs (Cond.code yX12_signs cX12_signs 2 (some .long) :: ml_T) rm_X12_signs (va_Pc [.ref (base + (215 : Int).toNat), .int (Int32.ofInt x1)] (ml_U base D cA n σ)) (ml_Ql base D cA n Q) 0 0 (ml_A base) := by
  refine Met.ofW (cc := cX12_signs) (maxL := 2) (ret := (some .long)) (by decide) rfl ?_
  intro p e s m args below meth c s₁ B hml hv
  obtain ⟨rfl, hP, hK, hok, hro⟩ := hv
  have X : ml_X p s m c meth _ D cA cX12_signs 2 RX12 (some .long) := ⟨B.exec, B.bytes, hml, findClass_of_methodNamed B.named, fun w hw => atoms_spec (ws := Cond.code yX12_signs cX12_signs 2 (some .long) :: ml_T) B.pre w (List.mem_cons_of_mem _ hw), hK, B.notSynchronized, B.returns⟩
  have hl := lv_entry [.ref (base + (215 : Int).toNat), .int (Int32.ofInt x1)] (n := 2) (Nat.le_of_ble_eq_true rfl)
  rw [lg_entry_eq]
  generalize (lg_sl [.ref (base + (215 : Int).toNat), .int (Int32.ofInt x1)] ++ List.replicate (2 - (lg_sl [.ref (base + (215 : Int).toNat), .int (Int32.ofInt x1)]).length) Slot.unset).toArray = ls at hl ⊢
  have hl : lv_has ls 2 [(0, .ref (base + (215 : Int).toNat)), (1, .int (Int32.ofInt x1))] := hl
  unfold f_X12_signs at hw
  exact u_X12_signs_0 X hn σ x1 h_x1 _ (lv_sub hl [0, 1] rfl) hw s.heap [] hP va_S.rf hok hro
theorem dX12_isEnd_0 : decode cX12_isEnd 0 = .ok (.iload_n 1, 1) := by decide +kernel
theorem dX12_isEnd_1 : decode cX12_isEnd 1 = .ok (.i2l, 1) := by decide +kernel
theorem dX12_isEnd_2 : decode cX12_isEnd 2 = .ok (.lconst 0, 1) := by decide +kernel
theorem dX12_isEnd_3 : decode cX12_isEnd 3 = .ok (.iconst 2, 1) := by decide +kernel
theorem dX12_isEnd_4 : decode cX12_isEnd 4 = .ok (.aload_n 0, 1) := by decide +kernel
theorem dX12_isEnd_5 : decode cX12_isEnd 5 = .ok (.getfield 13, 3) := by decide +kernel
theorem dX12_isEnd_8 : decode cX12_isEnd 8 = .ok (.imul, 1) := by decide +kernel
theorem dX12_isEnd_9 : decode cX12_isEnd 9 = .ok (.iconst 1, 1) := by decide +kernel
theorem dX12_isEnd_10 : decode cX12_isEnd 10 = .ok (.isub, 1) := by decide +kernel
theorem dX12_isEnd_11 : decode cX12_isEnd 11 = .ok (.i2l, 1) := by decide +kernel
theorem dX12_isEnd_12 : decode cX12_isEnd 12 = .ok (.invokestatic 143, 3) := by decide +kernel
theorem dX12_isEnd_15 : decode cX12_isEnd 15 = .ok (.ireturn, 1) := by decide +kernel
def f_X12_isEnd_u0 (Q : Int → ml_St → Prop) (σ : ml_St) (x1 : Int) : Prop :=
∀ _ : I32 (σ 215 2),
I32 (2 * (σ 215 2)) ∧
I32 ((2 * (σ 215 2)) - 1) ∧
f_X12_lies σ x1 0 ((2 * (σ 215 2)) - 1) (fun r4 σ4 => ∀ _ : ml_B r4,
Q r4 σ4)
def f_X12_isEnd (σ : ml_St) (x1 : Int) (Q : Int → ml_St → Prop) : Prop := f_X12_isEnd_u0 Q σ x1
def rm_X12_isEnd : Room := { frames := 1, cells := 0, slots := 0, locals := 25 }
set_option maxRecDepth 100000 in
set_option maxHeartbeats 4000000 in
theorem u_X12_isEnd_0 {p : Program} {e : Env} {s : State} {m : MethodId} {args : Array Value} {below : List Frame} {meth : Method} {c : Code} {base : Nat} {D : va_G} {cA : Nat → ClassId} {n : Nat} {l : Launch} {Q : Int → ml_St → Prop} (X : ml_X p s m c meth args D cA cX12_isEnd 2 RX12 (some .boolean)) (hn : 256 ≤ n) (σ : ml_St) (x1 : Int) (h_x1 : I32 x1) (ls : Array Slot) (hl : lv_has ls 2 [(0, .ref (base + (215 : Int).toNat)), (1, .int (Int32.ofInt x1))]) (hw : f_X12_isEnd_u0 Q σ x1) : ml_V p l e rm_X12_isEnd s m args below meth c (MQ below (ml_Qi ml_B base D cA n Q) args s 0 0 (ml_A base)) base D cA 0 0 n n σ (F0 m 0 ls []) := by
  unfold f_X12_isEnd_u0 at hw
  refine ml_iload_n (pc := 0) X hl 1 rfl rfl dX12_isEnd_0 ?_
  refine ml_i2l (pc := 1) X h_x1 dX12_isEnd_1 ?_
  refine ml_lconst0 (pc := 2) X dX12_isEnd_2 ?_
  refine ml_iconst (pc := 3) X dX12_isEnd_3 ?_
  refine ml_aload_n (pc := 4) X hl 0 rfl rfl dX12_isEnd_4 ?_
  refine gf_X12_13 (pc := 5) X (ml_c215 hn) dX12_isEnd_5 (fun r1 => ?_)
  have hw := hw r1
  obtain ⟨v2, hw⟩ := hw
  refine ml_imul (pc := 8) X dX12_isEnd_8 ?_
  refine ml_iconst (pc := 9) X dX12_isEnd_9 ?_
  obtain ⟨v3, hw⟩ := hw
  refine ml_isub (pc := 10) X dX12_isEnd_10 ?_
  refine ml_i2l (pc := 11) X v3 dX12_isEnd_11 ?_
  refine ml_callzS (pc := 12) (rest := []) X [.long (Int64.ofInt x1), .long (Int64.ofInt 0), .long (Int64.ofInt ((2 * (σ 215 2)) - 1))] (c_X12_lies l base D cA n hn σ x1 0 ((2 * (σ 215 2)) - 1) (h_x1).l ⟨by decide, by decide⟩ (v3).l _ hw) cv_X12_143 ⟨rfl, rfl⟩ ⟨by decide, by decide⟩ rfl rfl hl (Nat.le_of_ble_eq_true rfl) ⟨Nat.zero_le _, Nat.zero_le _⟩ dX12_isEnd_12 (fun r4 σ4 t4 hw => ?_)
  have hw := hw t4
  exact ml_zret (pc := 15) X t4 hw dX12_isEnd_15
set_option maxRecDepth 100000 in
theorem c_X12_isEnd (l : Launch) (base : Nat) (D : va_G) (cA : Nat → ClassId) (n : Nat) (hn : 256 ≤ n) (σ : ml_St) (x1 : Int) (h_x1 : I32 x1) (Q : Int → ml_St → Prop) (hw : f_X12_isEnd σ x1 Q) : Met l yX12_isEnd (Cond.code yX12_isEnd cX12_isEnd 2 (some .boolean) :: ml_T) rm_X12_isEnd (va_Pc [.ref (base + (215 : Int).toNat), .int (Int32.ofInt x1)] (ml_U base D cA n σ)) (ml_Qi ml_B base D cA n Q) 0 0 (ml_A base) := by
  refine Met.ofW (cc := cX12_isEnd) (maxL := 2) (ret := (some .boolean)) (by decide) rfl ?_
  intro p e s m args below meth c s₁ B hml hv
  obtain ⟨rfl, hP, hK, hok, hro⟩ := hv
  have X : ml_X p s m c meth _ D cA cX12_isEnd 2 RX12 (some .boolean) := ⟨B.exec, B.bytes, hml, findClass_of_methodNamed B.named, fun w hw => atoms_spec (ws := Cond.code yX12_isEnd cX12_isEnd 2 (some .boolean) :: ml_T) B.pre w (List.mem_cons_of_mem _ hw), hK, B.notSynchronized, B.returns⟩
  have hl := lv_entry [.ref (base + (215 : Int).toNat), .int (Int32.ofInt x1)] (n := 2) (Nat.le_of_ble_eq_true rfl)
  rw [lg_entry_eq]
  generalize (lg_sl [.ref (base + (215 : Int).toNat), .int (Int32.ofInt x1)] ++ List.replicate (2 - (lg_sl [.ref (base + (215 : Int).toNat), .int (Int32.ofInt x1)]).length) Slot.unset).toArray = ls at hl ⊢
  have hl : lv_has ls 2 [(0, .ref (base + (215 : Int).toNat)), (1, .int (Int32.ofInt x1))] := hl
  unfold f_X12_isEnd at hw
  exact u_X12_isEnd_0 X hn σ x1 h_x1 _ (lv_sub hl [0, 1] rfl) hw s.heap [] hP va_S.rf hok hro
theorem dX12_isMade_0 : decode cX12_isMade 0 = .ok (.aload_n 0, 1) := by decide +kernel
theorem dX12_isMade_1 : decode cX12_isMade 1 = .ok (.iload_n 1, 1) := by decide +kernel
theorem dX12_isMade_2 : decode cX12_isMade 2 = .ok (.invokevirtual 287, 3) := by decide +kernel
theorem dX12_isMade_5 : decode cX12_isMade 5 = .ok (.ifCond .eq 15, 3) := by decide +kernel
theorem dX12_isMade_8 : decode cX12_isMade 8 = .ok (.aload_n 0, 1) := by decide +kernel
theorem dX12_isMade_9 : decode cX12_isMade 9 = .ok (.iload_n 1, 1) := by decide +kernel
theorem dX12_isMade_10 : decode cX12_isMade 10 = .ok (.invokevirtual 262, 3) := by decide +kernel
theorem dX12_isMade_13 : decode cX12_isMade 13 = .ok (.ifCond .ne 7, 3) := by decide +kernel
theorem dX12_isMade_16 : decode cX12_isMade 16 = .ok (.iconst 1, 1) := by decide +kernel
theorem dX12_isMade_17 : decode cX12_isMade 17 = .ok (.goto 4, 3) := by decide +kernel
theorem dX12_isMade_20 : decode cX12_isMade 20 = .ok (.iconst 0, 1) := by decide +kernel
theorem dX12_isMade_21 : decode cX12_isMade 21 = .ok (.ireturn, 1) := by decide +kernel
def f_X12_isMade_u21 (Q : Int → ml_St → Prop) (σ : ml_St) (s0 : Int) : Prop :=
Q s0 σ
def f_X12_isMade_u20 (Q : Int → ml_St → Prop) (σ : ml_St) : Prop :=
f_X12_isMade_u21 Q σ 0
def f_X12_isMade_u0 (Q : Int → ml_St → Prop) (σ : ml_St) (x1 : Int) : Prop :=
f_X12_isWord σ x1 (fun r1 σ1 => ∀ _ : ml_B r1,
(r1 = 0 →
f_X12_isMade_u20 Q σ1) ∧
(r1 ≠ 0 →
False))
def f_X12_isMade (σ : ml_St) (x1 : Int) (Q : Int → ml_St → Prop) : Prop := f_X12_isMade_u0 Q σ x1
def rm_X12_isMade : Room := { frames := 2, cells := 0, slots := 0, locals := 46 }
set_option maxRecDepth 100000 in
set_option maxHeartbeats 4000000 in
theorem u_X12_isMade_21 {p : Program} {e : Env} {s : State} {m : MethodId} {args : Array Value} {below : List Frame} {meth : Method} {c : Code} {base : Nat} {D : va_G} {cA : Nat → ClassId} {n : Nat} {l : Launch} {Q : Int → ml_St → Prop} (X : ml_X p s m c meth args D cA cX12_isMade 2 RX12 (some .boolean)) (hn : 256 ≤ n) (σ : ml_St) (s0 : Int) (h_s0 : ml_B s0) (ls : Array Slot) (hl : lv_has ls 2 []) (hw : f_X12_isMade_u21 Q σ s0) : ml_V p l e rm_X12_isMade s m args below meth c (MQ below (ml_Qi ml_B base D cA n Q) args s 0 0 (ml_A base)) base D cA 0 0 n n σ (F0 m 21 ls [.int (Int32.ofInt s0)]) := by
  unfold f_X12_isMade_u21 at hw
  exact ml_zret (pc := 21) X h_s0 hw dX12_isMade_21
set_option maxRecDepth 100000 in
set_option maxHeartbeats 4000000 in
theorem u_X12_isMade_20 {p : Program} {e : Env} {s : State} {m : MethodId} {args : Array Value} {below : List Frame} {meth : Method} {c : Code} {base : Nat} {D : va_G} {cA : Nat → ClassId} {n : Nat} {l : Launch} {Q : Int → ml_St → Prop} (X : ml_X p s m c meth args D cA cX12_isMade 2 RX12 (some .boolean)) (hn : 256 ≤ n) (σ : ml_St) (ls : Array Slot) (hl : lv_has ls 2 []) (hw : f_X12_isMade_u20 Q σ) : ml_V p l e rm_X12_isMade s m args below meth c (MQ below (ml_Qi ml_B base D cA n Q) args s 0 0 (ml_A base)) base D cA 0 0 n n σ (F0 m 20 ls []) := by
  unfold f_X12_isMade_u20 at hw
  refine ml_iconst (pc := 20) X dX12_isMade_20 ?_
  exact u_X12_isMade_21 X hn σ 0 ⟨by decide, by decide⟩ _ (lv_sub hl [] rfl) hw
set_option maxRecDepth 100000 in
set_option maxHeartbeats 4000000 in
theorem u_X12_isMade_0 {p : Program} {e : Env} {s : State} {m : MethodId} {args : Array Value} {below : List Frame} {meth : Method} {c : Code} {base : Nat} {D : va_G} {cA : Nat → ClassId} {n : Nat} {l : Launch} {Q : Int → ml_St → Prop} (X : ml_X p s m c meth args D cA cX12_isMade 2 RX12 (some .boolean)) (hn : 256 ≤ n) (σ : ml_St) (x1 : Int) (h_x1 : I32 x1) (ls : Array Slot) (hl : lv_has ls 2 [(0, .ref (base + (215 : Int).toNat)), (1, .int (Int32.ofInt x1))]) (hw : f_X12_isMade_u0 Q σ x1) : ml_V p l e rm_X12_isMade s m args below meth c (MQ below (ml_Qi ml_B base D cA n Q) args s 0 0 (ml_A base)) base D cA 0 0 n n σ (F0 m 0 ls []) := by
  unfold f_X12_isMade_u0 at hw
  refine ml_aload_n (pc := 0) X hl 0 rfl rfl dX12_isMade_0 ?_
  refine ml_iload_n (pc := 1) X hl 1 rfl rfl dX12_isMade_1 ?_
  refine ml_callzV (pc := 2) (rest := []) X [.int (Int32.ofInt x1)] (by decide) rfl (ml_c215 hn) (c_X12_isWord l base D cA n hn σ x1 h_x1 _ hw) cv_X12_287 ⟨rfl, rfl⟩ ⟨by decide, by decide⟩ rfl rfl hl (Nat.le_of_ble_eq_true rfl) ⟨Nat.zero_le _, Nat.zero_le _⟩ dX12_isMade_2 (fun r1 σ1 t1 hw => ?_)
  have hw := hw t1
  refine ml_if_eq (pc := 5) (tgt := 20) X t1.i dX12_isMade_5 (by decide) (fun c2 => ?_) (fun c2 => ?_)
  · have hw := hw.1 c2
    exact u_X12_isMade_20 X hn σ1   _ (lv_sub hl [] rfl) hw
  · have hw := hw.2 c2
    refine ml_aload_n (pc := 8) X hl 0 rfl rfl dX12_isMade_8 ?_
    refine ml_iload_n (pc := 9) X hl 1 rfl rfl dX12_isMade_9 ?_
    exact hw.elim
set_option maxRecDepth 100000 in
theorem c_X12_isMade (l : Launch) (base : Nat) (D : va_G) (cA : Nat → ClassId) (n : Nat) (hn : 256 ≤ n) (σ : ml_St) (x1 : Int) (h_x1 : I32 x1) (Q : Int → ml_St → Prop) (hw : f_X12_isMade σ x1 Q) : Met l yX12_isMade (Cond.code yX12_isMade cX12_isMade 2 (some .boolean) :: ml_T) rm_X12_isMade (va_Pc [.ref (base + (215 : Int).toNat), .int (Int32.ofInt x1)] (ml_U base D cA n σ)) (ml_Qi ml_B base D cA n Q) 0 0 (ml_A base) := by
  refine Met.ofW (cc := cX12_isMade) (maxL := 2) (ret := (some .boolean)) (by decide) rfl ?_
  intro p e s m args below meth c s₁ B hml hv
  obtain ⟨rfl, hP, hK, hok, hro⟩ := hv
  have X : ml_X p s m c meth _ D cA cX12_isMade 2 RX12 (some .boolean) := ⟨B.exec, B.bytes, hml, findClass_of_methodNamed B.named, fun w hw => atoms_spec (ws := Cond.code yX12_isMade cX12_isMade 2 (some .boolean) :: ml_T) B.pre w (List.mem_cons_of_mem _ hw), hK, B.notSynchronized, B.returns⟩
  have hl := lv_entry [.ref (base + (215 : Int).toNat), .int (Int32.ofInt x1)] (n := 2) (Nat.le_of_ble_eq_true rfl)
  rw [lg_entry_eq]
  generalize (lg_sl [.ref (base + (215 : Int).toNat), .int (Int32.ofInt x1)] ++ List.replicate (2 - (lg_sl [.ref (base + (215 : Int).toNat), .int (Int32.ofInt x1)]).length) Slot.unset).toArray = ls at hl ⊢
  have hl : lv_has ls 2 [(0, .ref (base + (215 : Int).toNat)), (1, .int (Int32.ofInt x1))] := hl
  unfold f_X12_isMade at hw
  exact u_X12_isMade_0 X hn σ x1 h_x1 _ (lv_sub hl [0, 1] rfl) hw s.heap [] hP va_S.rf hok hro
theorem dX12_joined_0 : decode cX12_joined 0 = .ok (.aload_n 0, 1) := by decide +kernel
theorem dX12_joined_1 : decode cX12_joined 1 = .ok (.iload_n 1, 1) := by decide +kernel
theorem dX12_joined_2 : decode cX12_joined 2 = .ok (.invokevirtual 292, 3) := by decide +kernel
theorem dX12_joined_5 : decode cX12_joined 5 = .ok (.ifCond .eq 25, 3) := by decide +kernel
theorem dX12_joined_8 : decode cX12_joined 8 = .ok (.aload_n 0, 1) := by decide +kernel
theorem dX12_joined_9 : decode cX12_joined 9 = .ok (.iload_n 2, 1) := by decide +kernel
theorem dX12_joined_10 : decode cX12_joined 10 = .ok (.invokevirtual 295, 3) := by decide +kernel
theorem dX12_joined_13 : decode cX12_joined 13 = .ok (.ifCond .eq 17, 3) := by decide +kernel
theorem dX12_joined_16 : decode cX12_joined 16 = .ok (.aload_n 0, 1) := by decide +kernel
theorem dX12_joined_17 : decode cX12_joined 17 = .ok (.getfield 49, 3) := by decide +kernel
theorem dX12_joined_20 : decode cX12_joined 20 = .ok (.bipush 10, 2) := by decide +kernel
theorem dX12_joined_22 : decode cX12_joined 22 = .ok (.iload_n 1, 1) := by decide +kernel
theorem dX12_joined_23 : decode cX12_joined 23 = .ok (.imul, 1) := by decide +kernel
theorem dX12_joined_24 : decode cX12_joined 24 = .ok (.iload_n 2, 1) := by decide +kernel
theorem dX12_joined_25 : decode cX12_joined 25 = .ok (.iadd, 1) := by decide +kernel
theorem dX12_joined_26 : decode cX12_joined 26 = .ok (.iaload, 1) := by decide +kernel
theorem dX12_joined_27 : decode cX12_joined 27 = .ok (.goto 4, 3) := by decide +kernel
theorem dX12_joined_30 : decode cX12_joined 30 = .ok (.iconst (-1), 1) := by decide +kernel
theorem dX12_joined_31 : decode cX12_joined 31 = .ok (.ireturn, 1) := by decide +kernel
def f_X12_joined_u31 (Q : Int → ml_St → Prop) (σ : ml_St) (s0 : Int) : Prop :=
Q s0 σ
def f_X12_joined_u30 (Q : Int → ml_St → Prop) (σ : ml_St) : Prop :=
f_X12_joined_u31 Q σ (-1)
def f_X12_joined_u0 (Q : Int → ml_St → Prop) (σ : ml_St) (x1 : Int) (x2 : Int) : Prop :=
f_X12_isMade σ x1 (fun r1 σ1 => ∀ _ : ml_B r1,
(r1 = 0 →
f_X12_joined_u30 Q σ1) ∧
(r1 ≠ 0 →
f_X12_isEnd σ1 x2 (fun r3 σ3 => ∀ _ : ml_B r3,
(r3 = 0 →
f_X12_joined_u30 Q σ3) ∧
(r3 ≠ 0 →
I32 (10 * x1) ∧
I32 ((10 * x1) + x2) ∧
(0 : Int) ≤ ((10 * x1) + x2) ∧ (((10 * x1) + x2) : Int) < 640 ∧
∀ _ : I32 (σ3 227 ((10 * x1) + x2)),
f_X12_joined_u31 Q σ3 (σ3 227 ((10 * x1) + x2))))))
def f_X12_joined (σ : ml_St) (x1 : Int) (x2 : Int) (Q : Int → ml_St → Prop) : Prop := f_X12_joined_u0 Q σ x1 x2
def rm_X12_joined : Room := { frames := 3, cells := 0, slots := 0, locals := 67 }
set_option maxRecDepth 100000 in
set_option maxHeartbeats 4000000 in
theorem u_X12_joined_31 {p : Program} {e : Env} {s : State} {m : MethodId} {args : Array Value} {below : List Frame} {meth : Method} {c : Code} {base : Nat} {D : va_G} {cA : Nat → ClassId} {n : Nat} {l : Launch} {Q : Int → ml_St → Prop} (X : ml_X p s m c meth args D cA cX12_joined 3 RX12 (some .int)) (hn : 256 ≤ n) (σ : ml_St) (s0 : Int) (h_s0 : I32 s0) (ls : Array Slot) (hl : lv_has ls 3 []) (hw : f_X12_joined_u31 Q σ s0) : ml_V p l e rm_X12_joined s m args below meth c (MQ below (ml_Qi I32 base D cA n Q) args s 0 0 (ml_A base)) base D cA 0 0 n n σ (F0 m 31 ls [.int (Int32.ofInt s0)]) := by
  unfold f_X12_joined_u31 at hw
  exact ml_iret (pc := 31) X h_s0 hw dX12_joined_31
set_option maxRecDepth 100000 in
set_option maxHeartbeats 4000000 in
theorem u_X12_joined_30 {p : Program} {e : Env} {s : State} {m : MethodId} {args : Array Value} {below : List Frame} {meth : Method} {c : Code} {base : Nat} {D : va_G} {cA : Nat → ClassId} {n : Nat} {l : Launch} {Q : Int → ml_St → Prop} (X : ml_X p s m c meth args D cA cX12_joined 3 RX12 (some .int)) (hn : 256 ≤ n) (σ : ml_St) (ls : Array Slot) (hl : lv_has ls 3 []) (hw : f_X12_joined_u30 Q σ) : ml_V p l e rm_X12_joined s m args below meth c (MQ below (ml_Qi I32 base D cA n Q) args s 0 0 (ml_A base)) base D cA 0 0 n n σ (F0 m 30 ls []) := by
  unfold f_X12_joined_u30 at hw
  refine ml_iconst (pc := 30) X dX12_joined_30 ?_
  exact u_X12_joined_31 X hn σ (-1) ⟨by decide, by decide⟩ _ (lv_sub hl [] rfl) hw
set_option maxRecDepth 100000 in
set_option maxHeartbeats 4000000 in
theorem u_X12_joined_0 {p : Program} {e : Env} {s : State} {m : MethodId} {args : Array Value} {below : List Frame} {meth : Method} {c : Code} {base : Nat} {D : va_G} {cA : Nat → ClassId} {n : Nat} {l : Launch} {Q : Int → ml_St → Prop} (X : ml_X p s m c meth args D cA cX12_joined 3 RX12 (some .int)) (hn : 256 ≤ n) (σ : ml_St) (x1 : Int) (x2 : Int) (h_x1 : I32 x1) (h_x2 : I32 x2) (ls : Array Slot) (hl : lv_has ls 3 [(0, .ref (base + (215 : Int).toNat)), (1, .int (Int32.ofInt x1)), (2, .int (Int32.ofInt x2))]) (hw : f_X12_joined_u0 Q σ x1 x2) : ml_V p l e rm_X12_joined s m args below meth c (MQ below (ml_Qi I32 base D cA n Q) args s 0 0 (ml_A base)) base D cA 0 0 n n σ (F0 m 0 ls []) := by
  unfold f_X12_joined_u0 at hw
  refine ml_aload_n (pc := 0) X hl 0 rfl rfl dX12_joined_0 ?_
  refine ml_iload_n (pc := 1) X hl 1 rfl rfl dX12_joined_1 ?_
  refine ml_callzV (pc := 2) (rest := []) X [.int (Int32.ofInt x1)] (by decide) rfl (ml_c215 hn) (c_X12_isMade l base D cA n hn σ x1 h_x1 _ hw) cv_X12_292 ⟨rfl, rfl⟩ ⟨by decide, by decide⟩ rfl rfl hl (Nat.le_of_ble_eq_true rfl) ⟨Nat.zero_le _, Nat.zero_le _⟩ dX12_joined_2 (fun r1 σ1 t1 hw => ?_)
  have hw := hw t1
  refine ml_if_eq (pc := 5) (tgt := 30) X t1.i dX12_joined_5 (by decide) (fun c2 => ?_) (fun c2 => ?_)
  · have hw := hw.1 c2
    exact u_X12_joined_30 X hn σ1   _ (lv_sub hl [] rfl) hw
  · have hw := hw.2 c2
    refine ml_aload_n (pc := 8) X hl 0 rfl rfl dX12_joined_8 ?_
    refine ml_iload_n (pc := 9) X hl 2 rfl rfl dX12_joined_9 ?_
    refine ml_callzV (pc := 10) (rest := []) X [.int (Int32.ofInt x2)] (by decide) rfl (ml_c215 hn) (c_X12_isEnd l base D cA n hn σ1 x2 h_x2 _ hw) cv_X12_295 ⟨rfl, rfl⟩ ⟨by decide, by decide⟩ rfl rfl hl (Nat.le_of_ble_eq_true rfl) ⟨Nat.zero_le _, Nat.zero_le _⟩ dX12_joined_10 (fun r3 σ3 t3 hw => ?_)
    have hw := hw t3
    refine ml_if_eq (pc := 13) (tgt := 30) X t3.i dX12_joined_13 (by decide) (fun c4 => ?_) (fun c4 => ?_)
    · have hw := hw.1 c4
      exact u_X12_joined_30 X hn σ3   _ (lv_sub hl [] rfl) hw
    · have hw := hw.2 c4
      refine ml_aload_n (pc := 16) X hl 0 rfl rfl dX12_joined_16 ?_
      refine gf_X12_49 (pc := 17) X (ml_c215 hn) dX12_joined_17 ?_
      refine ml_bipush (pc := 20) X dX12_joined_20 (by decide) ?_
      refine ml_iload_n (pc := 22) X hl 1 rfl rfl dX12_joined_22 ?_
      obtain ⟨v5, hw⟩ := hw
      refine ml_imul (pc := 23) X dX12_joined_23 ?_
      refine ml_iload_n (pc := 24) X hl 2 rfl rfl dX12_joined_24 ?_
      obtain ⟨v6, hw⟩ := hw
      refine ml_iadd (pc := 25) X dX12_joined_25 ?_
      obtain ⟨a7, b7, hw⟩ := hw
      refine ml_iald (pc := 26) (N := 640) X (ml_c227 hn) a7 b7 dX12_joined_26 (fun r7 => ?_)
      have hw := hw r7
      refine ml_goto (pc := 27) (tgt := 31) X dX12_joined_27 (by decide) ?_
      exact u_X12_joined_31 X hn σ3 (σ3 227 ((10 * x1) + x2)) r7 _ (lv_sub hl [] rfl) hw
set_option maxRecDepth 100000 in
theorem c_X12_joined (l : Launch) (base : Nat) (D : va_G) (cA : Nat → ClassId) (n : Nat) (hn : 256 ≤ n) (σ : ml_St) (x1 : Int) (x2 : Int) (h_x1 : I32 x1) (h_x2 : I32 x2) (Q : Int → ml_St → Prop) (hw : f_X12_joined σ x1 x2 Q) : Met l yX12_joined (Cond.code yX12_joined cX12_joined 3 (some .int) :: ml_T) rm_X12_joined (va_Pc [.ref (base + (215 : Int).toNat), .int (Int32.ofInt x1), .int (Int32.ofInt x2)] (ml_U base D cA n σ)) (ml_Qi I32 base D cA n Q) 0 0 (ml_A base) := by
  refine Met.ofW (cc := cX12_joined) (maxL := 3) (ret := (some .int)) (by decide) rfl ?_
  intro p e s m args below meth c s₁ B hml hv
  obtain ⟨rfl, hP, hK, hok, hro⟩ := hv
  have X : ml_X p s m c meth _ D cA cX12_joined 3 RX12 (some .int) := ⟨B.exec, B.bytes, hml, findClass_of_methodNamed B.named, fun w hw => atoms_spec (ws := Cond.code yX12_joined cX12_joined 3 (some .int) :: ml_T) B.pre w (List.mem_cons_of_mem _ hw), hK, B.notSynchronized, B.returns⟩
  have hl := lv_entry [.ref (base + (215 : Int).toNat), .int (Int32.ofInt x1), .int (Int32.ofInt x2)] (n := 3) (Nat.le_of_ble_eq_true rfl)
  rw [lg_entry_eq]
  generalize (lg_sl [.ref (base + (215 : Int).toNat), .int (Int32.ofInt x1), .int (Int32.ofInt x2)] ++ List.replicate (3 - (lg_sl [.ref (base + (215 : Int).toNat), .int (Int32.ofInt x1), .int (Int32.ofInt x2)]).length) Slot.unset).toArray = ls at hl ⊢
  have hl : lv_has ls 3 [(0, .ref (base + (215 : Int).toNat)), (1, .int (Int32.ofInt x1)), (2, .int (Int32.ofInt x2))] := hl
  unfold f_X12_joined at hw
  exact u_X12_joined_0 X hn σ x1 x2 h_x1 h_x2 _ (lv_sub hl [0, 1, 2] rfl) hw s.heap [] hP va_S.rf hok hro
theorem dX12_length_0 : decode cX12_length 0 = .ok (.aload_n 0, 1) := by decide +kernel
theorem dX12_length_1 : decode cX12_length 1 = .ok (.iload_n 1, 1) := by decide +kernel
theorem dX12_length_2 : decode cX12_length 2 = .ok (.invokevirtual 292, 3) := by decide +kernel
theorem dX12_length_5 : decode cX12_length 5 = .ok (.ifCond .eq 25, 3) := by decide +kernel
theorem dX12_length_8 : decode cX12_length 8 = .ok (.aload_n 0, 1) := by decide +kernel
theorem dX12_length_9 : decode cX12_length 9 = .ok (.iload_n 2, 1) := by decide +kernel
theorem dX12_length_10 : decode cX12_length 10 = .ok (.invokevirtual 295, 3) := by decide +kernel
theorem dX12_length_13 : decode cX12_length 13 = .ok (.ifCond .eq 17, 3) := by decide +kernel
theorem dX12_length_16 : decode cX12_length 16 = .ok (.aload_n 0, 1) := by decide +kernel
theorem dX12_length_17 : decode cX12_length 17 = .ok (.getfield 52, 3) := by decide +kernel
theorem dX12_length_20 : decode cX12_length 20 = .ok (.bipush 10, 2) := by decide +kernel
theorem dX12_length_22 : decode cX12_length 22 = .ok (.iload_n 1, 1) := by decide +kernel
theorem dX12_length_23 : decode cX12_length 23 = .ok (.imul, 1) := by decide +kernel
theorem dX12_length_24 : decode cX12_length 24 = .ok (.iload_n 2, 1) := by decide +kernel
theorem dX12_length_25 : decode cX12_length 25 = .ok (.iadd, 1) := by decide +kernel
theorem dX12_length_26 : decode cX12_length 26 = .ok (.laload, 1) := by decide +kernel
theorem dX12_length_27 : decode cX12_length 27 = .ok (.goto 6, 3) := by decide +kernel
theorem dX12_length_30 : decode cX12_length 30 = .ok (.ldc2_w 290, 3) := by decide +kernel
theorem dX12_length_33 : decode cX12_length 33 = .ok (.lreturn, 1) := by decide +kernel
def f_X12_length_u33 (Q : Int → ml_St → Prop) (σ : ml_St) (s0 : Int) : Prop :=
Q s0 σ
def f_X12_length_u30 (Q : Int → ml_St → Prop) (σ : ml_St) : Prop :=
f_X12_length_u33 Q σ (-1)
def f_X12_length_u0 (Q : Int → ml_St → Prop) (σ : ml_St) (x1 : Int) (x2 : Int) : Prop :=
f_X12_isMade σ x1 (fun r1 σ1 => ∀ _ : ml_B r1,
(r1 = 0 →
f_X12_length_u30 Q σ1) ∧
(r1 ≠ 0 →
f_X12_isEnd σ1 x2 (fun r3 σ3 => ∀ _ : ml_B r3,
(r3 = 0 →
f_X12_length_u30 Q σ3) ∧
(r3 ≠ 0 →
I32 (10 * x1) ∧
I32 ((10 * x1) + x2) ∧
(0 : Int) ≤ ((10 * x1) + x2) ∧ (((10 * x1) + x2) : Int) < 640 ∧
∀ _ : I64 (σ3 228 ((10 * x1) + x2)),
f_X12_length_u33 Q σ3 (σ3 228 ((10 * x1) + x2))))))
def f_X12_length (σ : ml_St) (x1 : Int) (x2 : Int) (Q : Int → ml_St → Prop) : Prop := f_X12_length_u0 Q σ x1 x2
def rm_X12_length : Room := { frames := 3, cells := 0, slots := 0, locals := 67 }
set_option maxRecDepth 100000 in
set_option maxHeartbeats 4000000 in
theorem u_X12_length_33 {p : Program} {e : Env} {s : State} {m : MethodId} {args : Array Value} {below : List Frame} {meth : Method} {c : Code} {base : Nat} {D : va_G} {cA : Nat → ClassId} {n : Nat} {l : Launch} {Q : Int → ml_St → Prop} (X : ml_X p s m c meth args D cA cX12_length 3 RX12 (some .long)) (hn : 256 ≤ n) (σ : ml_St) (s0 : Int) (h_s0 : I64 s0) (ls : Array Slot) (hl : lv_has ls 3 []) (hw : f_X12_length_u33 Q σ s0) : ml_V p l e rm_X12_length s m args below meth c (MQ below (ml_Ql base D cA n Q) args s 0 0 (ml_A base)) base D cA 0 0 n n σ (F0 m 33 ls [.long (Int64.ofInt s0)]) := by
  unfold f_X12_length_u33 at hw
  exact ml_lret (pc := 33) X h_s0 hw dX12_length_33
set_option maxRecDepth 100000 in
set_option maxHeartbeats 4000000 in
theorem u_X12_length_30 {p : Program} {e : Env} {s : State} {m : MethodId} {args : Array Value} {below : List Frame} {meth : Method} {c : Code} {base : Nat} {D : va_G} {cA : Nat → ClassId} {n : Nat} {l : Launch} {Q : Int → ml_St → Prop} (X : ml_X p s m c meth args D cA cX12_length 3 RX12 (some .long)) (hn : 256 ≤ n) (σ : ml_St) (ls : Array Slot) (hl : lv_has ls 3 []) (hw : f_X12_length_u30 Q σ) : ml_V p l e rm_X12_length s m args below meth c (MQ below (ml_Ql base D cA n Q) args s 0 0 (ml_A base)) base D cA 0 0 n n σ (F0 m 30 ls []) := by
  unfold f_X12_length_u30 at hw
  refine ml_ldc2 (pc := 30) (v := (-1)) X dX12_length_30 tc_6_52 ?_
  exact u_X12_length_33 X hn σ (-1) ⟨by decide, by decide⟩ _ (lv_sub hl [] rfl) hw
set_option maxRecDepth 100000 in
set_option maxHeartbeats 4000000 in
theorem u_X12_length_0 {p : Program} {e : Env} {s : State} {m : MethodId} {args : Array Value} {below : List Frame} {meth : Method} {c : Code} {base : Nat} {D : va_G} {cA : Nat → ClassId} {n : Nat} {l : Launch} {Q : Int → ml_St → Prop} (X : ml_X p s m c meth args D cA cX12_length 3 RX12 (some .long)) (hn : 256 ≤ n) (σ : ml_St) (x1 : Int) (x2 : Int) (h_x1 : I32 x1) (h_x2 : I32 x2) (ls : Array Slot) (hl : lv_has ls 3 [(0, .ref (base + (215 : Int).toNat)), (1, .int (Int32.ofInt x1)), (2, .int (Int32.ofInt x2))]) (hw : f_X12_length_u0 Q σ x1 x2) : ml_V p l e rm_X12_length s m args below meth c (MQ below (ml_Ql base D cA n Q) args s 0 0 (ml_A base)) base D cA 0 0 n n σ (F0 m 0 ls []) := by
  unfold f_X12_length_u0 at hw
  refine ml_aload_n (pc := 0) X hl 0 rfl rfl dX12_length_0 ?_
  refine ml_iload_n (pc := 1) X hl 1 rfl rfl dX12_length_1 ?_
  refine ml_callzV (pc := 2) (rest := []) X [.int (Int32.ofInt x1)] (by decide) rfl (ml_c215 hn) (c_X12_isMade l base D cA n hn σ x1 h_x1 _ hw) cv_X12_292 ⟨rfl, rfl⟩ ⟨by decide, by decide⟩ rfl rfl hl (Nat.le_of_ble_eq_true rfl) ⟨Nat.zero_le _, Nat.zero_le _⟩ dX12_length_2 (fun r1 σ1 t1 hw => ?_)
  have hw := hw t1
  refine ml_if_eq (pc := 5) (tgt := 30) X t1.i dX12_length_5 (by decide) (fun c2 => ?_) (fun c2 => ?_)
  · have hw := hw.1 c2
    exact u_X12_length_30 X hn σ1   _ (lv_sub hl [] rfl) hw
  · have hw := hw.2 c2
    refine ml_aload_n (pc := 8) X hl 0 rfl rfl dX12_length_8 ?_
    refine ml_iload_n (pc := 9) X hl 2 rfl rfl dX12_length_9 ?_
    refine ml_callzV (pc := 10) (rest := []) X [.int (Int32.ofInt x2)] (by decide) rfl (ml_c215 hn) (c_X12_isEnd l base D cA n hn σ1 x2 h_x2 _ hw) cv_X12_295 ⟨rfl, rfl⟩ ⟨by decide, by decide⟩ rfl rfl hl (Nat.le_of_ble_eq_true rfl) ⟨Nat.zero_le _, Nat.zero_le _⟩ dX12_length_10 (fun r3 σ3 t3 hw => ?_)
    have hw := hw t3
    refine ml_if_eq (pc := 13) (tgt := 30) X t3.i dX12_length_13 (by decide) (fun c4 => ?_) (fun c4 => ?_)
    · have hw := hw.1 c4
      exact u_X12_length_30 X hn σ3   _ (lv_sub hl [] rfl) hw
    · have hw := hw.2 c4
      refine ml_aload_n (pc := 16) X hl 0 rfl rfl dX12_length_16 ?_
      refine gf_X12_52 (pc := 17) X (ml_c215 hn) dX12_length_17 ?_
      refine ml_bipush (pc := 20) X dX12_length_20 (by decide) ?_
      refine ml_iload_n (pc := 22) X hl 1 rfl rfl dX12_length_22 ?_
      obtain ⟨v5, hw⟩ := hw
      refine ml_imul (pc := 23) X dX12_length_23 ?_
      refine ml_iload_n (pc := 24) X hl 2 rfl rfl dX12_length_24 ?_
      obtain ⟨v6, hw⟩ := hw
      refine ml_iadd (pc := 25) X dX12_length_25 ?_
      obtain ⟨a7, b7, hw⟩ := hw
      refine ml_lald (pc := 26) (N := 640) X (ml_c228 hn) a7 b7 dX12_length_26 (fun r7 => ?_)
      have hw := hw r7
      refine ml_goto (pc := 27) (tgt := 33) X dX12_length_27 (by decide) ?_
      exact u_X12_length_33 X hn σ3 (σ3 228 ((10 * x1) + x2)) r7 _ (lv_sub hl [] rfl) hw
set_option maxRecDepth 100000 in
theorem c_X12_length (l : Launch) (base : Nat) (D : va_G) (cA : Nat → ClassId) (n : Nat) (hn : 256 ≤ n) (σ : ml_St) (x1 : Int) (x2 : Int) (h_x1 : I32 x1) (h_x2 : I32 x2) (Q : Int → ml_St → Prop) (hw : f_X12_length σ x1 x2 Q) : Met l yX12_length (Cond.code yX12_length cX12_length 3 (some .long) :: ml_T) rm_X12_length (va_Pc [.ref (base + (215 : Int).toNat), .int (Int32.ofInt x1), .int (Int32.ofInt x2)] (ml_U base D cA n σ)) (ml_Ql base D cA n Q) 0 0 (ml_A base) := by
  refine Met.ofW (cc := cX12_length) (maxL := 3) (ret := (some .long)) (by decide) rfl ?_
  intro p e s m args below meth c s₁ B hml hv
  obtain ⟨rfl, hP, hK, hok, hro⟩ := hv
  have X : ml_X p s m c meth _ D cA cX12_length 3 RX12 (some .long) := ⟨B.exec, B.bytes, hml, findClass_of_methodNamed B.named, fun w hw => atoms_spec (ws := Cond.code yX12_length cX12_length 3 (some .long) :: ml_T) B.pre w (List.mem_cons_of_mem _ hw), hK, B.notSynchronized, B.returns⟩
  have hl := lv_entry [.ref (base + (215 : Int).toNat), .int (Int32.ofInt x1), .int (Int32.ofInt x2)] (n := 3) (Nat.le_of_ble_eq_true rfl)
  rw [lg_entry_eq]
  generalize (lg_sl [.ref (base + (215 : Int).toNat), .int (Int32.ofInt x1), .int (Int32.ofInt x2)] ++ List.replicate (3 - (lg_sl [.ref (base + (215 : Int).toNat), .int (Int32.ofInt x1), .int (Int32.ofInt x2)]).length) Slot.unset).toArray = ls at hl ⊢
  have hl : lv_has ls 3 [(0, .ref (base + (215 : Int).toNat)), (1, .int (Int32.ofInt x1)), (2, .int (Int32.ofInt x2))] := hl
  unfold f_X12_length at hw
  exact u_X12_length_0 X hn σ x1 x2 h_x1 h_x2 _ (lv_sub hl [0, 1, 2] rfl) hw s.heap [] hP va_S.rf hok hro
theorem dX12_loops_0 : decode cX12_loops 0 = .ok (.aload_n 0, 1) := by decide +kernel
theorem dX12_loops_1 : decode cX12_loops 1 = .ok (.iload_n 1, 1) := by decide +kernel
theorem dX12_loops_2 : decode cX12_loops 2 = .ok (.invokevirtual 292, 3) := by decide +kernel
theorem dX12_loops_5 : decode cX12_loops 5 = .ok (.ifCond .ne 7, 3) := by decide +kernel
theorem dX12_loops_8 : decode cX12_loops 8 = .ok (.ldc2_w 290, 3) := by decide +kernel
theorem dX12_loops_11 : decode cX12_loops 11 = .ok (.lreturn, 1) := by decide +kernel
theorem dX12_loops_12 : decode cX12_loops 12 = .ok (.iload_n 2, 1) := by decide +kernel
theorem dX12_loops_13 : decode cX12_loops 13 = .ok (.tableswitch 66 0 3 #[31, 38, 45, 52], 31) := by decide +kernel
theorem dX12_loops_44 : decode cX12_loops 44 = .ok (.aload_n 0, 1) := by decide +kernel
theorem dX12_loops_45 : decode cX12_loops 45 = .ok (.getfield 55, 3) := by decide +kernel
theorem dX12_loops_48 : decode cX12_loops 48 = .ok (.iload_n 1, 1) := by decide +kernel
theorem dX12_loops_49 : decode cX12_loops 49 = .ok (.laload, 1) := by decide +kernel
theorem dX12_loops_50 : decode cX12_loops 50 = .ok (.lreturn, 1) := by decide +kernel
theorem dX12_loops_51 : decode cX12_loops 51 = .ok (.aload_n 0, 1) := by decide +kernel
theorem dX12_loops_52 : decode cX12_loops 52 = .ok (.getfield 58, 3) := by decide +kernel
theorem dX12_loops_55 : decode cX12_loops 55 = .ok (.iload_n 1, 1) := by decide +kernel
theorem dX12_loops_56 : decode cX12_loops 56 = .ok (.laload, 1) := by decide +kernel
theorem dX12_loops_57 : decode cX12_loops 57 = .ok (.lreturn, 1) := by decide +kernel
theorem dX12_loops_58 : decode cX12_loops 58 = .ok (.aload_n 0, 1) := by decide +kernel
theorem dX12_loops_59 : decode cX12_loops 59 = .ok (.getfield 61, 3) := by decide +kernel
theorem dX12_loops_62 : decode cX12_loops 62 = .ok (.iload_n 1, 1) := by decide +kernel
theorem dX12_loops_63 : decode cX12_loops 63 = .ok (.laload, 1) := by decide +kernel
theorem dX12_loops_64 : decode cX12_loops 64 = .ok (.lreturn, 1) := by decide +kernel
theorem dX12_loops_65 : decode cX12_loops 65 = .ok (.aload_n 0, 1) := by decide +kernel
theorem dX12_loops_66 : decode cX12_loops 66 = .ok (.getfield 55, 3) := by decide +kernel
theorem dX12_loops_69 : decode cX12_loops 69 = .ok (.iload_n 1, 1) := by decide +kernel
theorem dX12_loops_70 : decode cX12_loops 70 = .ok (.laload, 1) := by decide +kernel
theorem dX12_loops_71 : decode cX12_loops 71 = .ok (.aload_n 0, 1) := by decide +kernel
theorem dX12_loops_72 : decode cX12_loops 72 = .ok (.iload_n 1, 1) := by decide +kernel
theorem dX12_loops_73 : decode cX12_loops 73 = .ok (.invokevirtual 302, 3) := by decide +kernel
theorem dX12_loops_76 : decode cX12_loops 76 = .ok (.i2l, 1) := by decide +kernel
theorem dX12_loops_77 : decode cX12_loops 77 = .ok (.ladd, 1) := by decide +kernel
theorem dX12_loops_78 : decode cX12_loops 78 = .ok (.lreturn, 1) := by decide +kernel
theorem dX12_loops_79 : decode cX12_loops 79 = .ok (.ldc2_w 290, 3) := by decide +kernel
theorem dX12_loops_82 : decode cX12_loops 82 = .ok (.lreturn, 1) := by decide +kernel
def f_X12_loops_u0 (Q : Int → ml_St → Prop) (σ : ml_St) (x1 : Int) (x2 : Int) : Prop :=
f_X12_isMade σ x1 (fun r1 σ1 => ∀ _ : ml_B r1,
(r1 ≠ 0 →
(x2 = 0 →
(0 : Int) ≤ x1 ∧ (x1 : Int) < 64 ∧
∀ _ : I64 (σ1 229 x1),
Q (σ1 229 x1) σ1) ∧
(x2 = 1 →
(0 : Int) ≤ x1 ∧ (x1 : Int) < 64 ∧
∀ _ : I64 (σ1 230 x1),
Q (σ1 230 x1) σ1) ∧
(x2 = 2 →
(0 : Int) ≤ x1 ∧ (x1 : Int) < 64 ∧
∀ _ : I64 (σ1 231 x1),
Q (σ1 231 x1) σ1) ∧
(x2 = 3 →
(0 : Int) ≤ x1 ∧ (x1 : Int) < 64 ∧
∀ _ : I64 (σ1 229 x1),
False) ∧
(x2 < 0 ∨ 3 < x2 →
Q (-1) σ1)) ∧
(r1 = 0 →
Q (-1) σ1))
def f_X12_loops (σ : ml_St) (x1 : Int) (x2 : Int) (Q : Int → ml_St → Prop) : Prop := f_X12_loops_u0 Q σ x1 x2
def rm_X12_loops : Room := { frames := 3, cells := 0, slots := 0, locals := 67 }
set_option maxRecDepth 100000 in
set_option maxHeartbeats 4000000 in
theorem u_X12_loops_0 {p : Program} {e : Env} {s : State} {m : MethodId} {args : Array Value} {below : List Frame} {meth : Method} {c : Code} {base : Nat} {D : va_G} {cA : Nat → ClassId} {n : Nat} {l : Launch} {Q : Int → ml_St → Prop} (X : ml_X p s m c meth args D cA cX12_loops 3 RX12 (some .long)) (hn : 256 ≤ n) (σ : ml_St) (x1 : Int) (x2 : Int) (h_x1 : I32 x1) (h_x2 : I32 x2) (ls : Array Slot) (hl : lv_has ls 3 [(0, .ref (base + (215 : Int).toNat)), (1, .int (Int32.ofInt x1)), (2, .int (Int32.ofInt x2))]) (hw : f_X12_loops_u0 Q σ x1 x2) : ml_V p l e rm_X12_loops s m args below meth c (MQ below (ml_Ql base D cA n Q) args s 0 0 (ml_A base)) base D cA 0 0 n n σ (F0 m 0 ls []) := by
  unfold f_X12_loops_u0 at hw
  refine ml_aload_n (pc := 0) X hl 0 rfl rfl dX12_loops_0 ?_
  refine ml_iload_n (pc := 1) X hl 1 rfl rfl dX12_loops_1 ?_
  refine ml_callzV (pc := 2) (rest := []) X [.int (Int32.ofInt x1)] (by decide) rfl (ml_c215 hn) (c_X12_isMade l base D cA n hn σ x1 h_x1 _ hw) cv_X12_292 ⟨rfl, rfl⟩ ⟨by decide, by decide⟩ rfl rfl hl (Nat.le_of_ble_eq_true rfl) ⟨Nat.zero_le _, Nat.zero_le _⟩ dX12_loops_2 (fun r1 σ1 t1 hw => ?_)
  have hw := hw t1
  refine ml_if_ne (pc := 5) (tgt := 12) X t1.i dX12_loops_5 (by decide) (fun c2 => ?_) (fun c2 => ?_)
  · have hw := hw.1 c2
    refine ml_iload_n (pc := 12) X hl 2 rfl rfl dX12_loops_12 ?_
    rcases (show x2 = 0 ∨ x2 = 1 ∨ x2 = 2 ∨ x2 = 3 ∨ (x2 < 0 ∨ 3 < x2) by omega) with c3 | c3 | c3 | c3 | c3
    · have hw := hw.1 c3
      refine ml_tIn (pc := 13) (off := 31) (tgt := 44) X c3 dX12_loops_13 (by decide) (by decide) (by decide +kernel) (by decide) ?_
      refine ml_aload_n (pc := 44) X hl 0 rfl rfl dX12_loops_44 ?_
      refine gf_X12_55 (pc := 45) X (ml_c215 hn) dX12_loops_45 ?_
      refine ml_iload_n (pc := 48) X hl 1 rfl rfl dX12_loops_48 ?_
      obtain ⟨a4, b4, hw⟩ := hw
      refine ml_lald (pc := 49) (N := 64) X (ml_c229 hn) a4 b4 dX12_loops_49 (fun r4 => ?_)
      have hw := hw r4
      exact ml_lret (pc := 50) X r4 hw dX12_loops_50
    · have hw := hw.2.1 c3
      refine ml_tIn (pc := 13) (off := 38) (tgt := 51) X c3 dX12_loops_13 (by decide) (by decide) (by decide +kernel) (by decide) ?_
      refine ml_aload_n (pc := 51) X hl 0 rfl rfl dX12_loops_51 ?_
      refine gf_X12_58 (pc := 52) X (ml_c215 hn) dX12_loops_52 ?_
      refine ml_iload_n (pc := 55) X hl 1 rfl rfl dX12_loops_55 ?_
      obtain ⟨a5, b5, hw⟩ := hw
      refine ml_lald (pc := 56) (N := 64) X (ml_c230 hn) a5 b5 dX12_loops_56 (fun r5 => ?_)
      have hw := hw r5
      exact ml_lret (pc := 57) X r5 hw dX12_loops_57
    · have hw := hw.2.2.1 c3
      refine ml_tIn (pc := 13) (off := 45) (tgt := 58) X c3 dX12_loops_13 (by decide) (by decide) (by decide +kernel) (by decide) ?_
      refine ml_aload_n (pc := 58) X hl 0 rfl rfl dX12_loops_58 ?_
      refine gf_X12_61 (pc := 59) X (ml_c215 hn) dX12_loops_59 ?_
      refine ml_iload_n (pc := 62) X hl 1 rfl rfl dX12_loops_62 ?_
      obtain ⟨a6, b6, hw⟩ := hw
      refine ml_lald (pc := 63) (N := 64) X (ml_c231 hn) a6 b6 dX12_loops_63 (fun r6 => ?_)
      have hw := hw r6
      exact ml_lret (pc := 64) X r6 hw dX12_loops_64
    · have hw := hw.2.2.2.1 c3
      refine ml_tIn (pc := 13) (off := 52) (tgt := 65) X c3 dX12_loops_13 (by decide) (by decide) (by decide +kernel) (by decide) ?_
      refine ml_aload_n (pc := 65) X hl 0 rfl rfl dX12_loops_65 ?_
      refine gf_X12_55 (pc := 66) X (ml_c215 hn) dX12_loops_66 ?_
      refine ml_iload_n (pc := 69) X hl 1 rfl rfl dX12_loops_69 ?_
      obtain ⟨a7, b7, hw⟩ := hw
      refine ml_lald (pc := 70) (N := 64) X (ml_c229 hn) a7 b7 dX12_loops_70 (fun r7 => ?_)
      have hw := hw r7
      refine ml_aload_n (pc := 71) X hl 0 rfl rfl dX12_loops_71 ?_
      refine ml_iload_n (pc := 72) X hl 1 rfl rfl dX12_loops_72 ?_
      exact hw.elim
    · have hw := hw.2.2.2.2 c3
      refine ml_tOut (pc := 13) (tgt := 79) X h_x2 dX12_loops_13 c3 (by decide) ?_
      refine ml_ldc2 (pc := 79) (v := (-1)) X dX12_loops_79 tc_6_52 ?_
      exact ml_lret (pc := 82) X ⟨by decide, by decide⟩ hw dX12_loops_82
  · have hw := hw.2 c2
    refine ml_ldc2 (pc := 8) (v := (-1)) X dX12_loops_8 tc_6_52 ?_
    exact ml_lret (pc := 11) X ⟨by decide, by decide⟩ hw dX12_loops_11
set_option maxRecDepth 100000 in
theorem c_X12_loops (l : Launch) (base : Nat) (D : va_G) (cA : Nat → ClassId) (n : Nat) (hn : 256 ≤ n) (σ : ml_St) (x1 : Int) (x2 : Int) (h_x1 : I32 x1) (h_x2 : I32 x2) (Q : Int → ml_St → Prop) (hw : f_X12_loops σ x1 x2 Q) : Met l yX12_loops (Cond.code yX12_loops cX12_loops 3 (some .long) :: ml_T) rm_X12_loops (va_Pc [.ref (base + (215 : Int).toNat), .int (Int32.ofInt x1), .int (Int32.ofInt x2)] (ml_U base D cA n σ)) (ml_Ql base D cA n Q) 0 0 (ml_A base) := by
  refine Met.ofW (cc := cX12_loops) (maxL := 3) (ret := (some .long)) (by decide) rfl ?_
  intro p e s m args below meth c s₁ B hml hv
  obtain ⟨rfl, hP, hK, hok, hro⟩ := hv
  have X : ml_X p s m c meth _ D cA cX12_loops 3 RX12 (some .long) := ⟨B.exec, B.bytes, hml, findClass_of_methodNamed B.named, fun w hw => atoms_spec (ws := Cond.code yX12_loops cX12_loops 3 (some .long) :: ml_T) B.pre w (List.mem_cons_of_mem _ hw), hK, B.notSynchronized, B.returns⟩
  have hl := lv_entry [.ref (base + (215 : Int).toNat), .int (Int32.ofInt x1), .int (Int32.ofInt x2)] (n := 3) (Nat.le_of_ble_eq_true rfl)
  rw [lg_entry_eq]
  generalize (lg_sl [.ref (base + (215 : Int).toNat), .int (Int32.ofInt x1), .int (Int32.ofInt x2)] ++ List.replicate (3 - (lg_sl [.ref (base + (215 : Int).toNat), .int (Int32.ofInt x1), .int (Int32.ofInt x2)]).length) Slot.unset).toArray = ls at hl ⊢
  have hl : lv_has ls 3 [(0, .ref (base + (215 : Int).toNat)), (1, .int (Int32.ofInt x1)), (2, .int (Int32.ofInt x2))] := hl
  unfold f_X12_loops at hw
  exact u_X12_loops_0 X hn σ x1 x2 h_x1 h_x2 _ (lv_sub hl [0, 1, 2] rfl) hw s.heap [] hP va_S.rf hok hro
theorem dX12_power_0 : decode cX12_power 0 = .ok (.aload_n 0, 1) := by decide +kernel
theorem dX12_power_1 : decode cX12_power 1 = .ok (.iload_n 1, 1) := by decide +kernel
theorem dX12_power_2 : decode cX12_power 2 = .ok (.invokevirtual 292, 3) := by decide +kernel
theorem dX12_power_5 : decode cX12_power 5 = .ok (.ifCond .eq 13, 3) := by decide +kernel
theorem dX12_power_8 : decode cX12_power 8 = .ok (.iload_n 2, 1) := by decide +kernel
theorem dX12_power_9 : decode cX12_power 9 = .ok (.i2l, 1) := by decide +kernel
theorem dX12_power_10 : decode cX12_power 10 = .ok (.lconst 0, 1) := by decide +kernel
theorem dX12_power_11 : decode cX12_power 11 = .ok (.lconst 1, 1) := by decide +kernel
theorem dX12_power_12 : decode cX12_power 12 = .ok (.invokestatic 143, 3) := by decide +kernel
theorem dX12_power_15 : decode cX12_power 15 = .ok (.ifCond .ne 5, 3) := by decide +kernel
theorem dX12_power_18 : decode cX12_power 18 = .ok (.iconst (-1), 1) := by decide +kernel
theorem dX12_power_19 : decode cX12_power 19 = .ok (.ireturn, 1) := by decide +kernel
theorem dX12_power_20 : decode cX12_power 20 = .ok (.aload_n 0, 1) := by decide +kernel
theorem dX12_power_21 : decode cX12_power 21 = .ok (.iload_n 1, 1) := by decide +kernel
theorem dX12_power_22 : decode cX12_power 22 = .ok (.invokevirtual 322, 3) := by decide +kernel
theorem dX12_power_25 : decode cX12_power 25 = .ok (.iload_n 2, 1) := by decide +kernel
theorem dX12_power_26 : decode cX12_power 26 = .ok (.ifCond .ne 10, 3) := by decide +kernel
theorem dX12_power_29 : decode cX12_power 29 = .ok (.aload_n 0, 1) := by decide +kernel
theorem dX12_power_30 : decode cX12_power 30 = .ok (.getfield 307, 3) := by decide +kernel
theorem dX12_power_33 : decode cX12_power 33 = .ok (.goto 7, 3) := by decide +kernel
theorem dX12_power_36 : decode cX12_power 36 = .ok (.aload_n 0, 1) := by decide +kernel
theorem dX12_power_37 : decode cX12_power 37 = .ok (.getfield 313, 3) := by decide +kernel
theorem dX12_power_40 : decode cX12_power 40 = .ok (.ireturn, 1) := by decide +kernel
def f_X12_power_u18 (Q : Int → ml_St → Prop) (σ : ml_St) : Prop :=
Q (-1) σ
def f_X12_power_u40 (Q : Int → ml_St → Prop) (σ : ml_St) (s0 : Int) : Prop :=
Q s0 σ
def f_X12_power_u0 (Q : Int → ml_St → Prop) (σ : ml_St) (x1 : Int) (x2 : Int) : Prop :=
f_X12_isMade σ x1 (fun r1 σ1 => ∀ _ : ml_B r1,
(r1 = 0 →
f_X12_power_u18 Q σ1) ∧
(r1 ≠ 0 →
f_X12_lies σ1 x2 0 1 (fun r3 σ3 => ∀ _ : ml_B r3,
(r3 ≠ 0 →
False) ∧
(r3 = 0 →
f_X12_power_u18 Q σ3))))
def f_X12_power (σ : ml_St) (x1 : Int) (x2 : Int) (Q : Int → ml_St → Prop) : Prop := f_X12_power_u0 Q σ x1 x2
def rm_X12_power : Room := { frames := 3, cells := 0, slots := 0, locals := 67 }
set_option maxRecDepth 100000 in
set_option maxHeartbeats 4000000 in
theorem u_X12_power_18 {p : Program} {e : Env} {s : State} {m : MethodId} {args : Array Value} {below : List Frame} {meth : Method} {c : Code} {base : Nat} {D : va_G} {cA : Nat → ClassId} {n : Nat} {l : Launch} {Q : Int → ml_St → Prop} (X : ml_X p s m c meth args D cA cX12_power 3 RX12 (some .int)) (hn : 256 ≤ n) (σ : ml_St) (ls : Array Slot) (hl : lv_has ls 3 []) (hw : f_X12_power_u18 Q σ) : ml_V p l e rm_X12_power s m args below meth c (MQ below (ml_Qi I32 base D cA n Q) args s 0 0 (ml_A base)) base D cA 0 0 n n σ (F0 m 18 ls []) := by
  unfold f_X12_power_u18 at hw
  refine ml_iconst (pc := 18) X dX12_power_18 ?_
  exact ml_iret (pc := 19) X ⟨by decide, by decide⟩ hw dX12_power_19
set_option maxRecDepth 100000 in
set_option maxHeartbeats 4000000 in
theorem u_X12_power_40 {p : Program} {e : Env} {s : State} {m : MethodId} {args : Array Value} {below : List Frame} {meth : Method} {c : Code} {base : Nat} {D : va_G} {cA : Nat → ClassId} {n : Nat} {l : Launch} {Q : Int → ml_St → Prop} (X : ml_X p s m c meth args D cA cX12_power 3 RX12 (some .int)) (hn : 256 ≤ n) (σ : ml_St) (s0 : Int) (h_s0 : I32 s0) (ls : Array Slot) (hl : lv_has ls 3 []) (hw : f_X12_power_u40 Q σ s0) : ml_V p l e rm_X12_power s m args below meth c (MQ below (ml_Qi I32 base D cA n Q) args s 0 0 (ml_A base)) base D cA 0 0 n n σ (F0 m 40 ls [.int (Int32.ofInt s0)]) := by
  unfold f_X12_power_u40 at hw
  exact ml_iret (pc := 40) X h_s0 hw dX12_power_40
set_option maxRecDepth 100000 in
set_option maxHeartbeats 4000000 in
theorem u_X12_power_0 {p : Program} {e : Env} {s : State} {m : MethodId} {args : Array Value} {below : List Frame} {meth : Method} {c : Code} {base : Nat} {D : va_G} {cA : Nat → ClassId} {n : Nat} {l : Launch} {Q : Int → ml_St → Prop} (X : ml_X p s m c meth args D cA cX12_power 3 RX12 (some .int)) (hn : 256 ≤ n) (σ : ml_St) (x1 : Int) (x2 : Int) (h_x1 : I32 x1) (h_x2 : I32 x2) (ls : Array Slot) (hl : lv_has ls 3 [(0, .ref (base + (215 : Int).toNat)), (1, .int (Int32.ofInt x1)), (2, .int (Int32.ofInt x2))]) (hw : f_X12_power_u0 Q σ x1 x2) : ml_V p l e rm_X12_power s m args below meth c (MQ below (ml_Qi I32 base D cA n Q) args s 0 0 (ml_A base)) base D cA 0 0 n n σ (F0 m 0 ls []) := by
  unfold f_X12_power_u0 at hw
  refine ml_aload_n (pc := 0) X hl 0 rfl rfl dX12_power_0 ?_
  refine ml_iload_n (pc := 1) X hl 1 rfl rfl dX12_power_1 ?_
  refine ml_callzV (pc := 2) (rest := []) X [.int (Int32.ofInt x1)] (by decide) rfl (ml_c215 hn) (c_X12_isMade l base D cA n hn σ x1 h_x1 _ hw) cv_X12_292 ⟨rfl, rfl⟩ ⟨by decide, by decide⟩ rfl rfl hl (Nat.le_of_ble_eq_true rfl) ⟨Nat.zero_le _, Nat.zero_le _⟩ dX12_power_2 (fun r1 σ1 t1 hw => ?_)
  have hw := hw t1
  refine ml_if_eq (pc := 5) (tgt := 18) X t1.i dX12_power_5 (by decide) (fun c2 => ?_) (fun c2 => ?_)
  · have hw := hw.1 c2
    exact u_X12_power_18 X hn σ1   _ (lv_sub hl [] rfl) hw
  · have hw := hw.2 c2
    refine ml_iload_n (pc := 8) X hl 2 rfl rfl dX12_power_8 ?_
    refine ml_i2l (pc := 9) X h_x2 dX12_power_9 ?_
    refine ml_lconst0 (pc := 10) X dX12_power_10 ?_
    refine ml_lconst1 (pc := 11) X dX12_power_11 ?_
    refine ml_callzS (pc := 12) (rest := []) X [.long (Int64.ofInt x2), .long (Int64.ofInt 0), .long (Int64.ofInt 1)] (c_X12_lies l base D cA n hn σ1 x2 0 1 (h_x2).l ⟨by decide, by decide⟩ ⟨by decide, by decide⟩ _ hw) cv_X12_143 ⟨rfl, rfl⟩ ⟨by decide, by decide⟩ rfl rfl hl (Nat.le_of_ble_eq_true rfl) ⟨Nat.zero_le _, Nat.zero_le _⟩ dX12_power_12 (fun r3 σ3 t3 hw => ?_)
    have hw := hw t3
    refine ml_if_ne (pc := 15) (tgt := 20) X t3.i dX12_power_15 (by decide) (fun c4 => ?_) (fun c4 => ?_)
    · have hw := hw.1 c4
      refine ml_aload_n (pc := 20) X hl 0 rfl rfl dX12_power_20 ?_
      refine ml_iload_n (pc := 21) X hl 1 rfl rfl dX12_power_21 ?_
      exact hw.elim
    · have hw := hw.2 c4
      exact u_X12_power_18 X hn σ3   _ (lv_sub hl [] rfl) hw
set_option maxRecDepth 100000 in
theorem c_X12_power (l : Launch) (base : Nat) (D : va_G) (cA : Nat → ClassId) (n : Nat) (hn : 256 ≤ n) (σ : ml_St) (x1 : Int) (x2 : Int) (h_x1 : I32 x1) (h_x2 : I32 x2) (Q : Int → ml_St → Prop) (hw : f_X12_power σ x1 x2 Q) : Met l yX12_power (Cond.code yX12_power cX12_power 3 (some .int) :: ml_T) rm_X12_power (va_Pc [.ref (base + (215 : Int).toNat), .int (Int32.ofInt x1), .int (Int32.ofInt x2)] (ml_U base D cA n σ)) (ml_Qi I32 base D cA n Q) 0 0 (ml_A base) := by
  refine Met.ofW (cc := cX12_power) (maxL := 3) (ret := (some .int)) (by decide) rfl ?_
  intro p e s m args below meth c s₁ B hml hv
  obtain ⟨rfl, hP, hK, hok, hro⟩ := hv
  have X : ml_X p s m c meth _ D cA cX12_power 3 RX12 (some .int) := ⟨B.exec, B.bytes, hml, findClass_of_methodNamed B.named, fun w hw => atoms_spec (ws := Cond.code yX12_power cX12_power 3 (some .int) :: ml_T) B.pre w (List.mem_cons_of_mem _ hw), hK, B.notSynchronized, B.returns⟩
  have hl := lv_entry [.ref (base + (215 : Int).toNat), .int (Int32.ofInt x1), .int (Int32.ofInt x2)] (n := 3) (Nat.le_of_ble_eq_true rfl)
  rw [lg_entry_eq]
  generalize (lg_sl [.ref (base + (215 : Int).toNat), .int (Int32.ofInt x1), .int (Int32.ofInt x2)] ++ List.replicate (3 - (lg_sl [.ref (base + (215 : Int).toNat), .int (Int32.ofInt x1), .int (Int32.ofInt x2)]).length) Slot.unset).toArray = ls at hl ⊢
  have hl : lv_has ls 3 [(0, .ref (base + (215 : Int).toNat)), (1, .int (Int32.ofInt x1)), (2, .int (Int32.ofInt x2))] := hl
  unfold f_X12_power at hw
  exact u_X12_power_0 X hn σ x1 x2 h_x1 h_x2 _ (lv_sub hl [0, 1, 2] rfl) hw s.heap [] hP va_S.rf hok hro
theorem dX12_rule_0 : decode cX12_rule 0 = .ok (.aload_n 0, 1) := by decide +kernel
theorem dX12_rule_1 : decode cX12_rule 1 = .ok (.iload_n 1, 1) := by decide +kernel
theorem dX12_rule_2 : decode cX12_rule 2 = .ok (.invokevirtual 292, 3) := by decide +kernel
theorem dX12_rule_5 : decode cX12_rule 5 = .ok (.ifCond .eq 15, 3) := by decide +kernel
theorem dX12_rule_8 : decode cX12_rule 8 = .ok (.iload_n 2, 1) := by decide +kernel
theorem dX12_rule_9 : decode cX12_rule 9 = .ok (.i2l, 1) := by decide +kernel
theorem dX12_rule_10 : decode cX12_rule 10 = .ok (.lconst 0, 1) := by decide +kernel
theorem dX12_rule_11 : decode cX12_rule 11 = .ok (.ldc2_w 147, 3) := by decide +kernel
theorem dX12_rule_14 : decode cX12_rule 14 = .ok (.invokestatic 143, 3) := by decide +kernel
theorem dX12_rule_17 : decode cX12_rule 17 = .ok (.ifCond .ne 7, 3) := by decide +kernel
theorem dX12_rule_20 : decode cX12_rule 20 = .ok (.ldc2_w 290, 3) := by decide +kernel
theorem dX12_rule_23 : decode cX12_rule 23 = .ok (.lreturn, 1) := by decide +kernel
theorem dX12_rule_24 : decode cX12_rule 24 = .ok (.aload_n 0, 1) := by decide +kernel
theorem dX12_rule_25 : decode cX12_rule 25 = .ok (.iload_n 1, 1) := by decide +kernel
theorem dX12_rule_26 : decode cX12_rule 26 = .ok (.invokevirtual 322, 3) := by decide +kernel
theorem dX12_rule_29 : decode cX12_rule 29 = .ok (.iconst 1, 1) := by decide +kernel
theorem dX12_rule_30 : decode cX12_rule 30 = .ok (.istore_n 3, 1) := by decide +kernel
theorem dX12_rule_31 : decode cX12_rule 31 = .ok (.aload_n 0, 1) := by decide +kernel
theorem dX12_rule_32 : decode cX12_rule 32 = .ok (.iload_n 3, 1) := by decide +kernel
theorem dX12_rule_33 : decode cX12_rule 33 = .ok (.invokevirtual 325, 3) := by decide +kernel
theorem dX12_rule_36 : decode cX12_rule 36 = .ok (.ifCond .ne 9, 3) := by decide +kernel
theorem dX12_rule_39 : decode cX12_rule 39 = .ok (.iinc 3 1, 3) := by decide +kernel
theorem dX12_rule_42 : decode cX12_rule 42 = .ok (.goto (-11), 3) := by decide +kernel
theorem dX12_rule_45 : decode cX12_rule 45 = .ok (.aload_n 0, 1) := by decide +kernel
theorem dX12_rule_46 : decode cX12_rule 46 = .ok (.getfield 77, 3) := by decide +kernel
theorem dX12_rule_49 : decode cX12_rule 49 = .ok (.aload_n 0, 1) := by decide +kernel
theorem dX12_rule_50 : decode cX12_rule 50 = .ok (.getfield 307, 3) := by decide +kernel
theorem dX12_rule_53 : decode cX12_rule 53 = .ok (.iload_n 3, 1) := by decide +kernel
theorem dX12_rule_54 : decode cX12_rule 54 = .ok (.iadd, 1) := by decide +kernel
theorem dX12_rule_55 : decode cX12_rule 55 = .ok (.laload, 1) := by decide +kernel
theorem dX12_rule_56 : decode cX12_rule 56 = .ok (.aload_n 0, 1) := by decide +kernel
theorem dX12_rule_57 : decode cX12_rule 57 = .ok (.getfield 77, 3) := by decide +kernel
theorem dX12_rule_60 : decode cX12_rule 60 = .ok (.aload_n 0, 1) := by decide +kernel
theorem dX12_rule_61 : decode cX12_rule 61 = .ok (.getfield 307, 3) := by decide +kernel
theorem dX12_rule_64 : decode cX12_rule 64 = .ok (.laload, 1) := by decide +kernel
theorem dX12_rule_65 : decode cX12_rule 65 = .ok (.lsub, 1) := by decide +kernel
theorem dX12_rule_66 : decode cX12_rule 66 = .ok (.lstore 4, 2) := by decide +kernel
theorem dX12_rule_68 : decode cX12_rule 68 = .ok (.aload_n 0, 1) := by decide +kernel
theorem dX12_rule_69 : decode cX12_rule 69 = .ok (.getfield 307, 3) := by decide +kernel
theorem dX12_rule_72 : decode cX12_rule 72 = .ok (.istore 6, 2) := by decide +kernel
theorem dX12_rule_74 : decode cX12_rule 74 = .ok (.iload 6, 2) := by decide +kernel
theorem dX12_rule_76 : decode cX12_rule 76 = .ok (.iconst 1, 1) := by decide +kernel
theorem dX12_rule_77 : decode cX12_rule 77 = .ok (.if_icmp .le 36, 3) := by decide +kernel
theorem dX12_rule_80 : decode cX12_rule 80 = .ok (.aload_n 0, 1) := by decide +kernel
theorem dX12_rule_81 : decode cX12_rule 81 = .ok (.getfield 77, 3) := by decide +kernel
theorem dX12_rule_84 : decode cX12_rule 84 = .ok (.iload 6, 2) := by decide +kernel
theorem dX12_rule_86 : decode cX12_rule 86 = .ok (.iconst 1, 1) := by decide +kernel
theorem dX12_rule_87 : decode cX12_rule 87 = .ok (.isub, 1) := by decide +kernel
theorem dX12_rule_88 : decode cX12_rule 88 = .ok (.iload_n 3, 1) := by decide +kernel
theorem dX12_rule_89 : decode cX12_rule 89 = .ok (.iadd, 1) := by decide +kernel
theorem dX12_rule_90 : decode cX12_rule 90 = .ok (.laload, 1) := by decide +kernel
theorem dX12_rule_91 : decode cX12_rule 91 = .ok (.aload_n 0, 1) := by decide +kernel
theorem dX12_rule_92 : decode cX12_rule 92 = .ok (.getfield 77, 3) := by decide +kernel
theorem dX12_rule_95 : decode cX12_rule 95 = .ok (.iload 6, 2) := by decide +kernel
theorem dX12_rule_97 : decode cX12_rule 97 = .ok (.iconst 1, 1) := by decide +kernel
theorem dX12_rule_98 : decode cX12_rule 98 = .ok (.isub, 1) := by decide +kernel
theorem dX12_rule_99 : decode cX12_rule 99 = .ok (.laload, 1) := by decide +kernel
theorem dX12_rule_100 : decode cX12_rule 100 = .ok (.lsub, 1) := by decide +kernel
theorem dX12_rule_101 : decode cX12_rule 101 = .ok (.lload 4, 2) := by decide +kernel
theorem dX12_rule_103 : decode cX12_rule 103 = .ok (.lcmp, 1) := by decide +kernel
theorem dX12_rule_104 : decode cX12_rule 104 = .ok (.ifCond .ne 9, 3) := by decide +kernel
theorem dX12_rule_107 : decode cX12_rule 107 = .ok (.iinc 6 (-1), 3) := by decide +kernel
theorem dX12_rule_110 : decode cX12_rule 110 = .ok (.goto (-36), 3) := by decide +kernel
theorem dX12_rule_113 : decode cX12_rule 113 = .ok (.iload_n 2, 1) := by decide +kernel
theorem dX12_rule_114 : decode cX12_rule 114 = .ok (.ifCond .ne 8, 3) := by decide +kernel
theorem dX12_rule_117 : decode cX12_rule 117 = .ok (.iload_n 3, 1) := by decide +kernel
theorem dX12_rule_118 : decode cX12_rule 118 = .ok (.i2l, 1) := by decide +kernel
theorem dX12_rule_119 : decode cX12_rule 119 = .ok (.goto 16, 3) := by decide +kernel
theorem dX12_rule_122 : decode cX12_rule 122 = .ok (.iload_n 2, 1) := by decide +kernel
theorem dX12_rule_123 : decode cX12_rule 123 = .ok (.iconst 1, 1) := by decide +kernel
theorem dX12_rule_124 : decode cX12_rule 124 = .ok (.if_icmp .ne 8, 3) := by decide +kernel
theorem dX12_rule_127 : decode cX12_rule 127 = .ok (.lload 4, 2) := by decide +kernel
theorem dX12_rule_129 : decode cX12_rule 129 = .ok (.goto 6, 3) := by decide +kernel
theorem dX12_rule_132 : decode cX12_rule 132 = .ok (.iload 6, 2) := by decide +kernel
theorem dX12_rule_134 : decode cX12_rule 134 = .ok (.i2l, 1) := by decide +kernel
theorem dX12_rule_135 : decode cX12_rule 135 = .ok (.lreturn, 1) := by decide +kernel
def f_X12_rule_u20 (Q : Int → ml_St → Prop) (σ : ml_St) : Prop :=
Q (-1) σ
def f_X12_rule_u31 (Q : Int → ml_St → Prop) (K45 : ml_St → Int → Int → Prop) : Nat → ml_St → Int → Int → Prop
| 0, _, _, _ => False
| N + 1, σ, x2, x3 =>
False
def f_X12_rule_u74 (Q : Int → ml_St → Prop) (K113 : ml_St → Int → Int → Int → Int → Prop) : Nat → ml_St → Int → Int → Int → Int → Prop
| 0, _, _, _, _, _ => False
| N + 1, σ, x2, x3, x4, x6 =>
(x6 ≤ 1 →
K113 σ x2 x3 x4 x6) ∧
(¬ (x6 ≤ 1) →
I32 (x6 - 1) ∧
I32 ((x6 - 1) + x3) ∧
(0 : Int) ≤ ((x6 - 1) + x3) ∧ (((x6 - 1) + x3) : Int) < 2900 ∧
∀ _ : I64 (σ 236 ((x6 - 1) + x3)),
I32 (x6 - 1) ∧
(0 : Int) ≤ (x6 - 1) ∧ ((x6 - 1) : Int) < 2900 ∧
∀ _ : I64 (σ 236 (x6 - 1)),
I64 ((σ 236 ((x6 - 1) + x3)) - (σ 236 (x6 - 1))) ∧
(((σ 236 ((x6 - 1) + x3)) - (σ 236 (x6 - 1))) ≠ x4 →
K113 σ x2 x3 x4 x6) ∧
(((σ 236 ((x6 - 1) + x3)) - (σ 236 (x6 - 1))) = x4 →
I32 (x6 + (-1)) ∧
∀ y9 : Int, y9 = x6 + (-1) →
f_X12_rule_u74 Q K113 N σ x2 x3 x4 y9))
def f_X12_rule_u135 (Q : Int → ml_St → Prop) (σ : ml_St) (s0 : Int) : Prop :=
Q s0 σ
def f_X12_rule_u113 (Q : Int → ml_St → Prop) (σ : ml_St) (x2 : Int) (x3 : Int) (x4 : Int) (x6 : Int) : Prop :=
(x2 ≠ 0 →
(x2 ≠ 1 →
f_X12_rule_u135 Q σ x6) ∧
(x2 = 1 →
f_X12_rule_u135 Q σ x4)) ∧
(x2 = 0 →
f_X12_rule_u135 Q σ x3)
def f_X12_rule_u45 (Q : Int → ml_St → Prop) (σ : ml_St) (x2 : Int) (x3 : Int) : Prop :=
∀ _ : I32 (σ 215 32),
I32 ((σ 215 32) + x3) ∧
(0 : Int) ≤ ((σ 215 32) + x3) ∧ (((σ 215 32) + x3) : Int) < 2900 ∧
∀ _ : I64 (σ 236 ((σ 215 32) + x3)),
∀ _ : I32 (σ 215 32),
(0 : Int) ≤ (σ 215 32) ∧ ((σ 215 32) : Int) < 2900 ∧
∀ _ : I64 (σ 236 (σ 215 32)),
I64 ((σ 236 ((σ 215 32) + x3)) - (σ 236 (σ 215 32))) ∧
∀ y7 : Int, y7 = (σ 236 ((σ 215 32) + x3)) - (σ 236 (σ 215 32)) →
∀ _ : I32 (σ 215 32),
∀ y9 : Int, y9 = σ 215 32 →
∃ N1, f_X12_rule_u74 Q (f_X12_rule_u113 Q) N1 σ x2 x3 y7 y9
def f_X12_rule_u0 (Q : Int → ml_St → Prop) (σ : ml_St) (x1 : Int) (x2 : Int) : Prop :=
f_X12_isMade σ x1 (fun r1 σ1 => ∀ _ : ml_B r1,
(r1 = 0 →
f_X12_rule_u20 Q σ1) ∧
(r1 ≠ 0 →
f_X12_lies σ1 x2 0 2 (fun r3 σ3 => ∀ _ : ml_B r3,
(r3 ≠ 0 →
False) ∧
(r3 = 0 →
f_X12_rule_u20 Q σ3))))
def f_X12_rule (σ : ml_St) (x1 : Int) (x2 : Int) (Q : Int → ml_St → Prop) : Prop := f_X12_rule_u0 Q σ x1 x2
def rm_X12_rule : Room := { frames := 3, cells := 0, slots := 0, locals := 67 }
set_option maxRecDepth 100000 in
set_option maxHeartbeats 4000000 in
theorem u_X12_rule_20 {p : Program} {e : Env} {s : State} {m : MethodId} {args : Array Value} {below : List Frame} {meth : Method} {c : Code} {base : Nat} {D : va_G} {cA : Nat → ClassId} {n : Nat} {l : Launch} {Q : Int → ml_St → Prop} (X : ml_X p s m c meth args D cA cX12_rule 7 RX12 (some .long)) (hn : 256 ≤ n) (σ : ml_St) (ls : Array Slot) (hl : lv_has ls 7 []) (hw : f_X12_rule_u20 Q σ) : ml_V p l e rm_X12_rule s m args below meth c (MQ below (ml_Ql base D cA n Q) args s 0 0 (ml_A base)) base D cA 0 0 n n σ (F0 m 20 ls []) := by
  unfold f_X12_rule_u20 at hw
  refine ml_ldc2 (pc := 20) (v := (-1)) X dX12_rule_20 tc_6_52 ?_
  exact ml_lret (pc := 23) X ⟨by decide, by decide⟩ hw dX12_rule_23
set_option maxRecDepth 100000 in
set_option maxHeartbeats 4000000 in
theorem u_X12_rule_31 {p : Program} {e : Env} {s : State} {m : MethodId} {args : Array Value} {below : List Frame} {meth : Method} {c : Code} {base : Nat} {D : va_G} {cA : Nat → ClassId} {n : Nat} {l : Launch} {Q : Int → ml_St → Prop} {K45 : ml_St → Int → Int → Prop} (X : ml_X p s m c meth args D cA cX12_rule 7 RX12 (some .long)) (hn : 256 ≤ n) (hK45 : ∀ (σ : ml_St) (x2 : Int) (x3 : Int) (h_x2 : I32 x2) (h_x3 : I32 x3) (ls : Array Slot), lv_has ls 7 [(0, .ref (base + (215 : Int).toNat)), (2, .int (Int32.ofInt x2)), (3, .int (Int32.ofInt x3))] → K45 σ x2 x3 → ml_V p l e rm_X12_rule s m args below meth c (MQ below (ml_Ql base D cA n Q) args s 0 0 (ml_A base)) base D cA 0 0 n n σ (F0 m 45 ls [])) : ∀ (N : Nat) (σ : ml_St) (x2 : Int) (x3 : Int) (h_x2 : I32 x2) (h_x3 : I32 x3) (ls : Array Slot), lv_has ls 7 [(0, .ref (base + (215 : Int).toNat)), (2, .int (Int32.ofInt x2)), (3, .int (Int32.ofInt x3))] → f_X12_rule_u31 Q K45 N σ x2 x3 → ml_V p l e rm_X12_rule s m args below meth c (MQ below (ml_Ql base D cA n Q) args s 0 0 (ml_A base)) base D cA 0 0 n n σ (F0 m 31 ls []) := by
  intro N
  induction N with
  | zero => intro σ x2 x3 h_x2 h_x3 ls hl hw; exact False.elim hw
  | succ N ih =>
    intro σ x2 x3 h_x2 h_x3 ls hl hw
    unfold f_X12_rule_u31 at hw
    refine ml_aload_n (pc := 31) X hl 0 rfl rfl dX12_rule_31 ?_
    refine ml_iload_n (pc := 32) X hl 2 rfl rfl dX12_rule_32 ?_
    exact hw.elim
set_option maxRecDepth 100000 in
set_option maxHeartbeats 4000000 in
theorem u_X12_rule_74 {p : Program} {e : Env} {s : State} {m : MethodId} {args : Array Value} {below : List Frame} {meth : Method} {c : Code} {base : Nat} {D : va_G} {cA : Nat → ClassId} {n : Nat} {l : Launch} {Q : Int → ml_St → Prop} {K113 : ml_St → Int → Int → Int → Int → Prop} (X : ml_X p s m c meth args D cA cX12_rule 7 RX12 (some .long)) (hn : 256 ≤ n) (hK113 : ∀ (σ : ml_St) (x2 : Int) (x3 : Int) (x4 : Int) (x6 : Int) (h_x2 : I32 x2) (h_x3 : I32 x3) (h_x4 : I64 x4) (h_x6 : I32 x6) (ls : Array Slot), lv_has ls 7 [(2, .int (Int32.ofInt x2)), (3, .int (Int32.ofInt x3)), (4, .long (Int64.ofInt x4)), (6, .int (Int32.ofInt x6))] → K113 σ x2 x3 x4 x6 → ml_V p l e rm_X12_rule s m args below meth c (MQ below (ml_Ql base D cA n Q) args s 0 0 (ml_A base)) base D cA 0 0 n n σ (F0 m 113 ls [])) : ∀ (N : Nat) (σ : ml_St) (x2 : Int) (x3 : Int) (x4 : Int) (x6 : Int) (h_x2 : I32 x2) (h_x3 : I32 x3) (h_x4 : I64 x4) (h_x6 : I32 x6) (ls : Array Slot), lv_has ls 7 [(0, .ref (base + (215 : Int).toNat)), (2, .int (Int32.ofInt x2)), (3, .int (Int32.ofInt x3)), (4, .long (Int64.ofInt x4)), (6, .int (Int32.ofInt x6))] → f_X12_rule_u74 Q K113 N σ x2 x3 x4 x6 → ml_V p l e rm_X12_rule s m args below meth c (MQ below (ml_Ql base D cA n Q) args s 0 0 (ml_A base)) base D cA 0 0 n n σ (F0 m 74 ls []) := by
  intro N
  induction N with
  | zero => intro σ x2 x3 x4 x6 h_x2 h_x3 h_x4 h_x6 ls hl hw; exact False.elim hw
  | succ N ih =>
    intro σ x2 x3 x4 x6 h_x2 h_x3 h_x4 h_x6 ls hl hw
    unfold f_X12_rule_u74 at hw
    refine ml_iload (pc := 74) X hl 4 rfl dX12_rule_74 ?_
    refine ml_iconst (pc := 76) X dX12_rule_76 ?_
    refine ml_icmp_le (pc := 77) (tgt := 113) X h_x6 ⟨by decide, by decide⟩ dX12_rule_77 (by decide) (fun c1 => ?_) (fun c1 => ?_)
    · have hw := hw.1 c1
      exact hK113 σ x2 x3 x4 x6 h_x2 h_x3 h_x4 h_x6 _ (lv_sub hl [1, 2, 3, 4] rfl) hw
    · have hw := hw.2 c1
      refine ml_aload_n (pc := 80) X hl 0 rfl rfl dX12_rule_80 ?_
      refine gf_X12_77 (pc := 81) X (ml_c215 hn) dX12_rule_81 ?_
      refine ml_iload (pc := 84) X hl 4 rfl dX12_rule_84 ?_
      refine ml_iconst (pc := 86) X dX12_rule_86 ?_
      obtain ⟨v2, hw⟩ := hw
      refine ml_isub (pc := 87) X dX12_rule_87 ?_
      refine ml_iload_n (pc := 88) X hl 2 rfl rfl dX12_rule_88 ?_
      obtain ⟨v3, hw⟩ := hw
      refine ml_iadd (pc := 89) X dX12_rule_89 ?_
      obtain ⟨a4, b4, hw⟩ := hw
      refine ml_lald (pc := 90) (N := 2900) X (ml_c236 hn) a4 b4 dX12_rule_90 (fun r4 => ?_)
      have hw := hw r4
      refine ml_aload_n (pc := 91) X hl 0 rfl rfl dX12_rule_91 ?_
      refine gf_X12_77 (pc := 92) X (ml_c215 hn) dX12_rule_92 ?_
      refine ml_iload (pc := 95) X hl 4 rfl dX12_rule_95 ?_
      refine ml_iconst (pc := 97) X dX12_rule_97 ?_
      obtain ⟨v5, hw⟩ := hw
      refine ml_isub (pc := 98) X dX12_rule_98 ?_
      obtain ⟨a6, b6, hw⟩ := hw
      refine ml_lald (pc := 99) (N := 2900) X (ml_c236 hn) a6 b6 dX12_rule_99 (fun r6 => ?_)
      have hw := hw r6
      obtain ⟨v7, hw⟩ := hw
      refine ml_lsub (pc := 100) X dX12_rule_100 ?_
      refine ml_lload (pc := 101) X hl 3 rfl dX12_rule_101 ?_
      refine ml_lcmp_ne (pc := 103) (tgt := 113) X v7 h_x4 dX12_rule_103 dX12_rule_104 (by decide) (fun c8 => ?_) (fun c8 => ?_)
      · have hw := hw.1 c8
        exact hK113 σ x2 x3 x4 x6 h_x2 h_x3 h_x4 h_x6 _ (lv_sub hl [1, 2, 3, 4] rfl) hw
      · have hw := hw.2 c8
        obtain ⟨v9, hw⟩ := hw
        obtain ⟨y9, e9⟩ : ∃ y : Int, y = x6 + (-1) := ⟨_, rfl⟩
        have hw := hw y9 e9
        rw [← e9] at v9
        refine ml_iinc (pc := 107) X e9 hl 4 rfl (by decide) (lst' := [(6, .int (Int32.ofInt y9)), (0, .ref (base + (215 : Int).toNat)), (2, .int (Int32.ofInt x2)), (3, .int (Int32.ofInt x3)), (4, .long (Int64.ofInt x4))]) rfl dX12_rule_107 (fun ls hl => ?_)
        refine ml_goto (pc := 110) (tgt := 74) X dX12_rule_110 (by decide) ?_
        exact ih σ x2 x3 x4 y9 h_x2 h_x3 h_x4 v9 _ (lv_sub hl [1, 2, 3, 4, 0] rfl) hw
set_option maxRecDepth 100000 in
set_option maxHeartbeats 4000000 in
theorem u_X12_rule_135 {p : Program} {e : Env} {s : State} {m : MethodId} {args : Array Value} {below : List Frame} {meth : Method} {c : Code} {base : Nat} {D : va_G} {cA : Nat → ClassId} {n : Nat} {l : Launch} {Q : Int → ml_St → Prop} (X : ml_X p s m c meth args D cA cX12_rule 7 RX12 (some .long)) (hn : 256 ≤ n) (σ : ml_St) (s0 : Int) (h_s0 : I64 s0) (ls : Array Slot) (hl : lv_has ls 7 []) (hw : f_X12_rule_u135 Q σ s0) : ml_V p l e rm_X12_rule s m args below meth c (MQ below (ml_Ql base D cA n Q) args s 0 0 (ml_A base)) base D cA 0 0 n n σ (F0 m 135 ls [.long (Int64.ofInt s0)]) := by
  unfold f_X12_rule_u135 at hw
  exact ml_lret (pc := 135) X h_s0 hw dX12_rule_135
set_option maxRecDepth 100000 in
set_option maxHeartbeats 4000000 in
theorem u_X12_rule_113 {p : Program} {e : Env} {s : State} {m : MethodId} {args : Array Value} {below : List Frame} {meth : Method} {c : Code} {base : Nat} {D : va_G} {cA : Nat → ClassId} {n : Nat} {l : Launch} {Q : Int → ml_St → Prop} (X : ml_X p s m c meth args D cA cX12_rule 7 RX12 (some .long)) (hn : 256 ≤ n) (σ : ml_St) (x2 : Int) (x3 : Int) (x4 : Int) (x6 : Int) (h_x2 : I32 x2) (h_x3 : I32 x3) (h_x4 : I64 x4) (h_x6 : I32 x6) (ls : Array Slot) (hl : lv_has ls 7 [(2, .int (Int32.ofInt x2)), (3, .int (Int32.ofInt x3)), (4, .long (Int64.ofInt x4)), (6, .int (Int32.ofInt x6))]) (hw : f_X12_rule_u113 Q σ x2 x3 x4 x6) : ml_V p l e rm_X12_rule s m args below meth c (MQ below (ml_Ql base D cA n Q) args s 0 0 (ml_A base)) base D cA 0 0 n n σ (F0 m 113 ls []) := by
  unfold f_X12_rule_u113 at hw
  refine ml_iload_n (pc := 113) X hl 0 rfl rfl dX12_rule_113 ?_
  refine ml_if_ne (pc := 114) (tgt := 122) X h_x2 dX12_rule_114 (by decide) (fun c1 => ?_) (fun c1 => ?_)
  · have hw := hw.1 c1
    refine ml_iload_n (pc := 122) X hl 0 rfl rfl dX12_rule_122 ?_
    refine ml_iconst (pc := 123) X dX12_rule_123 ?_
    refine ml_icmp_ne (pc := 124) (tgt := 132) X h_x2 ⟨by decide, by decide⟩ dX12_rule_124 (by decide) (fun c2 => ?_) (fun c2 => ?_)
    · have hw := hw.1 c2
      refine ml_iload (pc := 132) X hl 3 rfl dX12_rule_132 ?_
      refine ml_i2l (pc := 134) X h_x6 dX12_rule_134 ?_
      exact u_X12_rule_135 X hn σ x6 (h_x6).l _ (lv_sub hl [] rfl) hw
    · have hw := hw.2 c2
      refine ml_lload (pc := 127) X hl 2 rfl dX12_rule_127 ?_
      refine ml_goto (pc := 129) (tgt := 135) X dX12_rule_129 (by decide) ?_
      exact u_X12_rule_135 X hn σ x4 h_x4 _ (lv_sub hl [] rfl) hw
  · have hw := hw.2 c1
    refine ml_iload_n (pc := 117) X hl 1 rfl rfl dX12_rule_117 ?_
    refine ml_i2l (pc := 118) X h_x3 dX12_rule_118 ?_
    refine ml_goto (pc := 119) (tgt := 135) X dX12_rule_119 (by decide) ?_
    exact u_X12_rule_135 X hn σ x3 (h_x3).l _ (lv_sub hl [] rfl) hw
set_option maxRecDepth 100000 in
set_option maxHeartbeats 4000000 in
theorem u_X12_rule_45 {p : Program} {e : Env} {s : State} {m : MethodId} {args : Array Value} {below : List Frame} {meth : Method} {c : Code} {base : Nat} {D : va_G} {cA : Nat → ClassId} {n : Nat} {l : Launch} {Q : Int → ml_St → Prop} (X : ml_X p s m c meth args D cA cX12_rule 7 RX12 (some .long)) (hn : 256 ≤ n) (σ : ml_St) (x2 : Int) (x3 : Int) (h_x2 : I32 x2) (h_x3 : I32 x3) (ls : Array Slot) (hl : lv_has ls 7 [(0, .ref (base + (215 : Int).toNat)), (2, .int (Int32.ofInt x2)), (3, .int (Int32.ofInt x3))]) (hw : f_X12_rule_u45 Q σ x2 x3) : ml_V p l e rm_X12_rule s m args below meth c (MQ below (ml_Ql base D cA n Q) args s 0 0 (ml_A base)) base D cA 0 0 n n σ (F0 m 45 ls []) := by
  unfold f_X12_rule_u45 at hw
  refine ml_aload_n (pc := 45) X hl 0 rfl rfl dX12_rule_45 ?_
  refine gf_X12_77 (pc := 46) X (ml_c215 hn) dX12_rule_46 ?_
  refine ml_aload_n (pc := 49) X hl 0 rfl rfl dX12_rule_49 ?_
  refine gf_X12_307 (pc := 50) X (ml_c215 hn) dX12_rule_50 (fun r1 => ?_)
  have hw := hw r1
  refine ml_iload_n (pc := 53) X hl 2 rfl rfl dX12_rule_53 ?_
  obtain ⟨v2, hw⟩ := hw
  refine ml_iadd (pc := 54) X dX12_rule_54 ?_
  obtain ⟨a3, b3, hw⟩ := hw
  refine ml_lald (pc := 55) (N := 2900) X (ml_c236 hn) a3 b3 dX12_rule_55 (fun r3 => ?_)
  have hw := hw r3
  refine ml_aload_n (pc := 56) X hl 0 rfl rfl dX12_rule_56 ?_
  refine gf_X12_77 (pc := 57) X (ml_c215 hn) dX12_rule_57 ?_
  refine ml_aload_n (pc := 60) X hl 0 rfl rfl dX12_rule_60 ?_
  refine gf_X12_307 (pc := 61) X (ml_c215 hn) dX12_rule_61 (fun r4 => ?_)
  have hw := hw r4
  obtain ⟨a5, b5, hw⟩ := hw
  refine ml_lald (pc := 64) (N := 2900) X (ml_c236 hn) a5 b5 dX12_rule_64 (fun r5 => ?_)
  have hw := hw r5
  obtain ⟨v6, hw⟩ := hw
  refine ml_lsub (pc := 65) X dX12_rule_65 ?_
  refine ml_topL (pc := 66) (fun y7 e7 => ?_)
  have hw := hw y7 e7
  have q7 : I64 y7 := by rw [e7]; exact v6
  refine ml_lstore (pc := 66) X hl (by decide) (lst' := [(4, .long (Int64.ofInt y7)), (0, .ref (base + (215 : Int).toNat)), (2, .int (Int32.ofInt x2)), (3, .int (Int32.ofInt x3))]) rfl dX12_rule_66 (fun ls hl => ?_)
  refine ml_aload_n (pc := 68) X hl 1 rfl rfl dX12_rule_68 ?_
  refine gf_X12_307 (pc := 69) X (ml_c215 hn) dX12_rule_69 (fun r8 => ?_)
  have hw := hw r8
  refine ml_topI (pc := 72) (fun y9 e9 => ?_)
  have hw := hw y9 e9
  have q9 : I32 y9 := by rw [e9]; exact r8
  refine ml_istore (pc := 72) X hl (by decide) (lst' := [(6, .int (Int32.ofInt y9)), (4, .long (Int64.ofInt y7)), (0, .ref (base + (215 : Int).toNat)), (2, .int (Int32.ofInt x2)), (3, .int (Int32.ofInt x3))]) rfl dX12_rule_72 (fun ls hl => ?_)
  obtain ⟨N0, hw⟩ := hw
  exact u_X12_rule_74 X hn (fun σ x2 x3 x4 x6 h_x2 h_x3 h_x4 h_x6 ls hl hw => u_X12_rule_113 X hn σ x2 x3 x4 x6 h_x2 h_x3 h_x4 h_x6 ls hl hw) N0 σ x2 x3 y7 y9 h_x2 h_x3 q7 q9 _ (lv_sub hl [2, 3, 4, 1, 0] rfl) hw
set_option maxRecDepth 100000 in
set_option maxHeartbeats 4000000 in
theorem u_X12_rule_0 {p : Program} {e : Env} {s : State} {m : MethodId} {args : Array Value} {below : List Frame} {meth : Method} {c : Code} {base : Nat} {D : va_G} {cA : Nat → ClassId} {n : Nat} {l : Launch} {Q : Int → ml_St → Prop} (X : ml_X p s m c meth args D cA cX12_rule 7 RX12 (some .long)) (hn : 256 ≤ n) (σ : ml_St) (x1 : Int) (x2 : Int) (h_x1 : I32 x1) (h_x2 : I32 x2) (ls : Array Slot) (hl : lv_has ls 7 [(0, .ref (base + (215 : Int).toNat)), (1, .int (Int32.ofInt x1)), (2, .int (Int32.ofInt x2))]) (hw : f_X12_rule_u0 Q σ x1 x2) : ml_V p l e rm_X12_rule s m args below meth c (MQ below (ml_Ql base D cA n Q) args s 0 0 (ml_A base)) base D cA 0 0 n n σ (F0 m 0 ls []) := by
  unfold f_X12_rule_u0 at hw
  refine ml_aload_n (pc := 0) X hl 0 rfl rfl dX12_rule_0 ?_
  refine ml_iload_n (pc := 1) X hl 1 rfl rfl dX12_rule_1 ?_
  refine ml_callzV (pc := 2) (rest := []) X [.int (Int32.ofInt x1)] (by decide) rfl (ml_c215 hn) (c_X12_isMade l base D cA n hn σ x1 h_x1 _ hw) cv_X12_292 ⟨rfl, rfl⟩ ⟨by decide, by decide⟩ rfl rfl hl (Nat.le_of_ble_eq_true rfl) ⟨Nat.zero_le _, Nat.zero_le _⟩ dX12_rule_2 (fun r1 σ1 t1 hw => ?_)
  have hw := hw t1
  refine ml_if_eq (pc := 5) (tgt := 20) X t1.i dX12_rule_5 (by decide) (fun c2 => ?_) (fun c2 => ?_)
  · have hw := hw.1 c2
    exact u_X12_rule_20 X hn σ1   _ (lv_sub hl [] rfl) hw
  · have hw := hw.2 c2
    refine ml_iload_n (pc := 8) X hl 2 rfl rfl dX12_rule_8 ?_
    refine ml_i2l (pc := 9) X h_x2 dX12_rule_9 ?_
    refine ml_lconst0 (pc := 10) X dX12_rule_10 ?_
    refine ml_ldc2 (pc := 11) (v := 2) X dX12_rule_11 tc_5_143 ?_
    refine ml_callzS (pc := 14) (rest := []) X [.long (Int64.ofInt x2), .long (Int64.ofInt 0), .long (Int64.ofInt 2)] (c_X12_lies l base D cA n hn σ1 x2 0 2 (h_x2).l ⟨by decide, by decide⟩ ⟨by decide, by decide⟩ _ hw) cv_X12_143 ⟨rfl, rfl⟩ ⟨by decide, by decide⟩ rfl rfl hl (Nat.le_of_ble_eq_true rfl) ⟨Nat.zero_le _, Nat.zero_le _⟩ dX12_rule_14 (fun r3 σ3 t3 hw => ?_)
    have hw := hw t3
    refine ml_if_ne (pc := 17) (tgt := 24) X t3.i dX12_rule_17 (by decide) (fun c4 => ?_) (fun c4 => ?_)
    · have hw := hw.1 c4
      refine ml_aload_n (pc := 24) X hl 0 rfl rfl dX12_rule_24 ?_
      refine ml_iload_n (pc := 25) X hl 1 rfl rfl dX12_rule_25 ?_
      exact hw.elim
    · have hw := hw.2 c4
      exact u_X12_rule_20 X hn σ3   _ (lv_sub hl [] rfl) hw
set_option maxRecDepth 100000 in
theorem c_X12_rule (l : Launch) (base : Nat) (D : va_G) (cA : Nat → ClassId) (n : Nat) (hn : 256 ≤ n) (σ : ml_St) (x1 : Int) (x2 : Int) (h_x1 : I32 x1) (h_x2 : I32 x2) (Q : Int → ml_St → Prop) (hw : f_X12_rule σ x1 x2 Q) : Met l yX12_rule (Cond.code yX12_rule cX12_rule 7 (some .long) :: ml_T) rm_X12_rule (va_Pc [.ref (base + (215 : Int).toNat), .int (Int32.ofInt x1), .int (Int32.ofInt x2)] (ml_U base D cA n σ)) (ml_Ql base D cA n Q) 0 0 (ml_A base) := by
  refine Met.ofW (cc := cX12_rule) (maxL := 7) (ret := (some .long)) (by decide) rfl ?_
  intro p e s m args below meth c s₁ B hml hv
  obtain ⟨rfl, hP, hK, hok, hro⟩ := hv
  have X : ml_X p s m c meth _ D cA cX12_rule 7 RX12 (some .long) := ⟨B.exec, B.bytes, hml, findClass_of_methodNamed B.named, fun w hw => atoms_spec (ws := Cond.code yX12_rule cX12_rule 7 (some .long) :: ml_T) B.pre w (List.mem_cons_of_mem _ hw), hK, B.notSynchronized, B.returns⟩
  have hl := lv_entry [.ref (base + (215 : Int).toNat), .int (Int32.ofInt x1), .int (Int32.ofInt x2)] (n := 7) (Nat.le_of_ble_eq_true rfl)
  rw [lg_entry_eq]
  generalize (lg_sl [.ref (base + (215 : Int).toNat), .int (Int32.ofInt x1), .int (Int32.ofInt x2)] ++ List.replicate (7 - (lg_sl [.ref (base + (215 : Int).toNat), .int (Int32.ofInt x1), .int (Int32.ofInt x2)]).length) Slot.unset).toArray = ls at hl ⊢
  have hl : lv_has ls 7 [(0, .ref (base + (215 : Int).toNat)), (1, .int (Int32.ofInt x1)), (2, .int (Int32.ofInt x2))] := hl
  unfold f_X12_rule at hw
  exact u_X12_rule_0 X hn σ x1 x2 h_x1 h_x2 _ (lv_sub hl [0, 1, 2] rfl) hw s.heap [] hP va_S.rf hok hro
theorem dX12_left_0 : decode cX12_left 0 = .ok (.aload_n 0, 1) := by decide +kernel
theorem dX12_left_1 : decode cX12_left 1 = .ok (.iload_n 1, 1) := by decide +kernel
theorem dX12_left_2 : decode cX12_left 2 = .ok (.invokevirtual 292, 3) := by decide +kernel
theorem dX12_left_5 : decode cX12_left 5 = .ok (.ifCond .eq 10, 3) := by decide +kernel
theorem dX12_left_8 : decode cX12_left 8 = .ok (.lload_n 2, 1) := by decide +kernel
theorem dX12_left_9 : decode cX12_left 9 = .ok (.invokestatic 330, 3) := by decide +kernel
theorem dX12_left_12 : decode cX12_left 12 = .ok (.ifCond .ne 7, 3) := by decide +kernel
theorem dX12_left_15 : decode cX12_left 15 = .ok (.ldc2_w 290, 3) := by decide +kernel
theorem dX12_left_18 : decode cX12_left 18 = .ok (.lreturn, 1) := by decide +kernel
theorem dX12_left_19 : decode cX12_left 19 = .ok (.aload_n 0, 1) := by decide +kernel
theorem dX12_left_20 : decode cX12_left 20 = .ok (.iload_n 1, 1) := by decide +kernel
theorem dX12_left_21 : decode cX12_left 21 = .ok (.invokevirtual 322, 3) := by decide +kernel
theorem dX12_left_24 : decode cX12_left 24 = .ok (.lload_n 2, 1) := by decide +kernel
theorem dX12_left_25 : decode cX12_left 25 = .ok (.aload_n 0, 1) := by decide +kernel
theorem dX12_left_26 : decode cX12_left 26 = .ok (.getfield 316, 3) := by decide +kernel
theorem dX12_left_29 : decode cX12_left 29 = .ok (.i2l, 1) := by decide +kernel
theorem dX12_left_30 : decode cX12_left 30 = .ok (.lcmp, 1) := by decide +kernel
theorem dX12_left_31 : decode cX12_left 31 = .ok (.ifCond .gt 11, 3) := by decide +kernel
theorem dX12_left_34 : decode cX12_left 34 = .ok (.aload_n 0, 1) := by decide +kernel
theorem dX12_left_35 : decode cX12_left 35 = .ok (.getfield 77, 3) := by decide +kernel
theorem dX12_left_38 : decode cX12_left 38 = .ok (.lload_n 2, 1) := by decide +kernel
theorem dX12_left_39 : decode cX12_left 39 = .ok (.l2i, 1) := by decide +kernel
theorem dX12_left_40 : decode cX12_left 40 = .ok (.laload, 1) := by decide +kernel
theorem dX12_left_41 : decode cX12_left 41 = .ok (.lreturn, 1) := by decide +kernel
theorem dX12_left_42 : decode cX12_left 42 = .ok (.aload_n 0, 1) := by decide +kernel
theorem dX12_left_43 : decode cX12_left 43 = .ok (.getfield 307, 3) := by decide +kernel
theorem dX12_left_46 : decode cX12_left 46 = .ok (.lload_n 2, 1) := by decide +kernel
theorem dX12_left_47 : decode cX12_left 47 = .ok (.aload_n 0, 1) := by decide +kernel
theorem dX12_left_48 : decode cX12_left 48 = .ok (.getfield 307, 3) := by decide +kernel
theorem dX12_left_51 : decode cX12_left 51 = .ok (.i2l, 1) := by decide +kernel
theorem dX12_left_52 : decode cX12_left 52 = .ok (.lsub, 1) := by decide +kernel
theorem dX12_left_53 : decode cX12_left 53 = .ok (.aload_n 0, 1) := by decide +kernel
theorem dX12_left_54 : decode cX12_left 54 = .ok (.getfield 313, 3) := by decide +kernel
theorem dX12_left_57 : decode cX12_left 57 = .ok (.i2l, 1) := by decide +kernel
theorem dX12_left_58 : decode cX12_left 58 = .ok (.lrem, 1) := by decide +kernel
theorem dX12_left_59 : decode cX12_left 59 = .ok (.l2i, 1) := by decide +kernel
theorem dX12_left_60 : decode cX12_left 60 = .ok (.iadd, 1) := by decide +kernel
theorem dX12_left_61 : decode cX12_left 61 = .ok (.istore 4, 2) := by decide +kernel
theorem dX12_left_63 : decode cX12_left 63 = .ok (.aload_n 0, 1) := by decide +kernel
theorem dX12_left_64 : decode cX12_left 64 = .ok (.getfield 77, 3) := by decide +kernel
theorem dX12_left_67 : decode cX12_left 67 = .ok (.iload 4, 2) := by decide +kernel
theorem dX12_left_69 : decode cX12_left 69 = .ok (.laload, 1) := by decide +kernel
theorem dX12_left_70 : decode cX12_left 70 = .ok (.lload_n 2, 1) := by decide +kernel
theorem dX12_left_71 : decode cX12_left 71 = .ok (.iload 4, 2) := by decide +kernel
theorem dX12_left_73 : decode cX12_left 73 = .ok (.i2l, 1) := by decide +kernel
theorem dX12_left_74 : decode cX12_left 74 = .ok (.lsub, 1) := by decide +kernel
theorem dX12_left_75 : decode cX12_left 75 = .ok (.aload_n 0, 1) := by decide +kernel
theorem dX12_left_76 : decode cX12_left 76 = .ok (.getfield 313, 3) := by decide +kernel
theorem dX12_left_79 : decode cX12_left 79 = .ok (.i2l, 1) := by decide +kernel
theorem dX12_left_80 : decode cX12_left 80 = .ok (.ldiv, 1) := by decide +kernel
theorem dX12_left_81 : decode cX12_left 81 = .ok (.aload_n 0, 1) := by decide +kernel
theorem dX12_left_82 : decode cX12_left 82 = .ok (.getfield 319, 3) := by decide +kernel
theorem dX12_left_85 : decode cX12_left 85 = .ok (.invokestatic 210, 3) := by decide +kernel
theorem dX12_left_88 : decode cX12_left 88 = .ok (.invokestatic 214, 3) := by decide +kernel
theorem dX12_left_91 : decode cX12_left 91 = .ok (.lreturn, 1) := by decide +kernel
def f_X12_left_u15 (Q : Int → ml_St → Prop) (σ : ml_St) : Prop :=
Q (-1) σ
def f_X12_left_u0 (Q : Int → ml_St → Prop) (σ : ml_St) (x1 : Int) (x2 : Int) : Prop :=
f_X12_isMade σ x1 (fun r1 σ1 => ∀ _ : ml_B r1,
(r1 = 0 →
f_X12_left_u15 Q σ1) ∧
(r1 ≠ 0 →
False))
def f_X12_left (σ : ml_St) (x1 : Int) (x2 : Int) (Q : Int → ml_St → Prop) : Prop := f_X12_left_u0 Q σ x1 x2
def rm_X12_left : Room := { frames := 3, cells := 0, slots := 0, locals := 67 }
set_option maxRecDepth 100000 in
set_option maxHeartbeats 4000000 in
theorem u_X12_left_15 {p : Program} {e : Env} {s : State} {m : MethodId} {args : Array Value} {below : List Frame} {meth : Method} {c : Code} {base : Nat} {D : va_G} {cA : Nat → ClassId} {n : Nat} {l : Launch} {Q : Int → ml_St → Prop} (X : ml_X p s m c meth args D cA cX12_left 5 RX12 (some .long)) (hn : 256 ≤ n) (σ : ml_St) (ls : Array Slot) (hl : lv_has ls 5 []) (hw : f_X12_left_u15 Q σ) : ml_V p l e rm_X12_left s m args below meth c (MQ below (ml_Ql base D cA n Q) args s 0 0 (ml_A base)) base D cA 0 0 n n σ (F0 m 15 ls []) := by
  unfold f_X12_left_u15 at hw
  refine ml_ldc2 (pc := 15) (v := (-1)) X dX12_left_15 tc_6_52 ?_
  exact ml_lret (pc := 18) X ⟨by decide, by decide⟩ hw dX12_left_18
set_option maxRecDepth 100000 in
set_option maxHeartbeats 4000000 in
theorem u_X12_left_0 {p : Program} {e : Env} {s : State} {m : MethodId} {args : Array Value} {below : List Frame} {meth : Method} {c : Code} {base : Nat} {D : va_G} {cA : Nat → ClassId} {n : Nat} {l : Launch} {Q : Int → ml_St → Prop} (X : ml_X p s m c meth args D cA cX12_left 5 RX12 (some .long)) (hn : 256 ≤ n) (σ : ml_St) (x1 : Int) (x2 : Int) (h_x1 : I32 x1) (h_x2 : I64 x2) (ls : Array Slot) (hl : lv_has ls 5 [(0, .ref (base + (215 : Int).toNat)), (1, .int (Int32.ofInt x1)), (2, .long (Int64.ofInt x2))]) (hw : f_X12_left_u0 Q σ x1 x2) : ml_V p l e rm_X12_left s m args below meth c (MQ below (ml_Ql base D cA n Q) args s 0 0 (ml_A base)) base D cA 0 0 n n σ (F0 m 0 ls []) := by
  unfold f_X12_left_u0 at hw
  refine ml_aload_n (pc := 0) X hl 0 rfl rfl dX12_left_0 ?_
  refine ml_iload_n (pc := 1) X hl 1 rfl rfl dX12_left_1 ?_
  refine ml_callzV (pc := 2) (rest := []) X [.int (Int32.ofInt x1)] (by decide) rfl (ml_c215 hn) (c_X12_isMade l base D cA n hn σ x1 h_x1 _ hw) cv_X12_292 ⟨rfl, rfl⟩ ⟨by decide, by decide⟩ rfl rfl hl (Nat.le_of_ble_eq_true rfl) ⟨Nat.zero_le _, Nat.zero_le _⟩ dX12_left_2 (fun r1 σ1 t1 hw => ?_)
  have hw := hw t1
  refine ml_if_eq (pc := 5) (tgt := 15) X t1.i dX12_left_5 (by decide) (fun c2 => ?_) (fun c2 => ?_)
  · have hw := hw.1 c2
    exact u_X12_left_15 X hn σ1   _ (lv_sub hl [] rfl) hw
  · have hw := hw.2 c2
    refine ml_lload_n (pc := 8) X hl 2 rfl rfl dX12_left_8 ?_
    exact hw.elim
set_option maxRecDepth 100000 in
theorem c_X12_left (l : Launch) (base : Nat) (D : va_G) (cA : Nat → ClassId) (n : Nat) (hn : 256 ≤ n) (σ : ml_St) (x1 : Int) (x2 : Int) (h_x1 : I32 x1) (h_x2 : I64 x2) (Q : Int → ml_St → Prop) (hw : f_X12_left σ x1 x2 Q) : Met l yX12_left (Cond.code yX12_left cX12_left 5 (some .long) :: ml_T) rm_X12_left (va_Pc [.ref (base + (215 : Int).toNat), .int (Int32.ofInt x1), .long (Int64.ofInt x2)] (ml_U base D cA n σ)) (ml_Ql base D cA n Q) 0 0 (ml_A base) := by
  refine Met.ofW (cc := cX12_left) (maxL := 5) (ret := (some .long)) (by decide) rfl ?_
  intro p e s m args below meth c s₁ B hml hv
  obtain ⟨rfl, hP, hK, hok, hro⟩ := hv
  have X : ml_X p s m c meth _ D cA cX12_left 5 RX12 (some .long) := ⟨B.exec, B.bytes, hml, findClass_of_methodNamed B.named, fun w hw => atoms_spec (ws := Cond.code yX12_left cX12_left 5 (some .long) :: ml_T) B.pre w (List.mem_cons_of_mem _ hw), hK, B.notSynchronized, B.returns⟩
  have hl := lv_entry [.ref (base + (215 : Int).toNat), .int (Int32.ofInt x1), .long (Int64.ofInt x2)] (n := 5) (Nat.le_of_ble_eq_true rfl)
  rw [lg_entry_eq]
  generalize (lg_sl [.ref (base + (215 : Int).toNat), .int (Int32.ofInt x1), .long (Int64.ofInt x2)] ++ List.replicate (5 - (lg_sl [.ref (base + (215 : Int).toNat), .int (Int32.ofInt x1), .long (Int64.ofInt x2)]).length) Slot.unset).toArray = ls at hl ⊢
  have hl : lv_has ls 5 [(0, .ref (base + (215 : Int).toNat)), (1, .int (Int32.ofInt x1)), (2, .long (Int64.ofInt x2))] := hl
  unfold f_X12_left at hw
  exact u_X12_left_0 X hn σ x1 x2 h_x1 h_x2 _ (lv_sub hl [0, 1, 2] rfl) hw s.heap [] hP va_S.rf hok hro
theorem dX12_those_0 : decode cX12_those 0 = .ok (.aload_n 0, 1) := by decide +kernel
theorem dX12_those_1 : decode cX12_those 1 = .ok (.iload_n 1, 1) := by decide +kernel
theorem dX12_those_2 : decode cX12_those 2 = .ok (.invokevirtual 292, 3) := by decide +kernel
theorem dX12_those_5 : decode cX12_those 5 = .ok (.ifCond .eq 47, 3) := by decide +kernel
theorem dX12_those_8 : decode cX12_those 8 = .ok (.lload_n 2, 1) := by decide +kernel
theorem dX12_those_9 : decode cX12_those 9 = .ok (.invokestatic 344, 3) := by decide +kernel
theorem dX12_those_12 : decode cX12_those 12 = .ok (.ifCond .eq 40, 3) := by decide +kernel
theorem dX12_those_15 : decode cX12_those 15 = .ok (.lload 4, 2) := by decide +kernel
theorem dX12_those_17 : decode cX12_those 17 = .ok (.invokestatic 330, 3) := by decide +kernel
theorem dX12_those_20 : decode cX12_those 20 = .ok (.ifCond .eq 32, 3) := by decide +kernel
theorem dX12_those_23 : decode cX12_those 23 = .ok (.lload 6, 2) := by decide +kernel
theorem dX12_those_25 : decode cX12_those 25 = .ok (.invokestatic 330, 3) := by decide +kernel
theorem dX12_those_28 : decode cX12_those 28 = .ok (.ifCond .eq 24, 3) := by decide +kernel
theorem dX12_those_31 : decode cX12_those 31 = .ok (.lload 4, 2) := by decide +kernel
theorem dX12_those_33 : decode cX12_those 33 = .ok (.lload 6, 2) := by decide +kernel
theorem dX12_those_35 : decode cX12_those 35 = .ok (.lcmp, 1) := by decide +kernel
theorem dX12_those_36 : decode cX12_those 36 = .ok (.ifCond .gt 16, 3) := by decide +kernel
theorem dX12_those_39 : decode cX12_those 39 = .ok (.aload_n 0, 1) := by decide +kernel
theorem dX12_those_40 : decode cX12_those 40 = .ok (.iload_n 1, 1) := by decide +kernel
theorem dX12_those_41 : decode cX12_those 41 = .ok (.lload_n 2, 1) := by decide +kernel
theorem dX12_those_42 : decode cX12_those 42 = .ok (.lload 4, 2) := by decide +kernel
theorem dX12_those_44 : decode cX12_those 44 = .ok (.lload 6, 2) := by decide +kernel
theorem dX12_those_46 : decode cX12_those 46 = .ok (.invokevirtual 347, 3) := by decide +kernel
theorem dX12_those_49 : decode cX12_those 49 = .ok (.goto 6, 3) := by decide +kernel
theorem dX12_those_52 : decode cX12_those 52 = .ok (.ldc2_w 290, 3) := by decide +kernel
theorem dX12_those_55 : decode cX12_those 55 = .ok (.lreturn, 1) := by decide +kernel
def f_X12_those_u55 (Q : Int → ml_St → Prop) (σ : ml_St) (s0 : Int) : Prop :=
Q s0 σ
def f_X12_those_u52 (Q : Int → ml_St → Prop) (σ : ml_St) : Prop :=
f_X12_those_u55 Q σ (-1)
def f_X12_those_u0 (Q : Int → ml_St → Prop) (σ : ml_St) (x1 : Int) (x2 : Int) (x4 : Int) (x6 : Int) : Prop :=
f_X12_isMade σ x1 (fun r1 σ1 => ∀ _ : ml_B r1,
(r1 = 0 →
f_X12_those_u52 Q σ1) ∧
(r1 ≠ 0 →
False))
def f_X12_those (σ : ml_St) (x1 : Int) (x2 : Int) (x4 : Int) (x6 : Int) (Q : Int → ml_St → Prop) : Prop := f_X12_those_u0 Q σ x1 x2 x4 x6
def rm_X12_those : Room := { frames := 3, cells := 0, slots := 0, locals := 67 }
set_option maxRecDepth 100000 in
set_option maxHeartbeats 4000000 in
theorem u_X12_those_55 {p : Program} {e : Env} {s : State} {m : MethodId} {args : Array Value} {below : List Frame} {meth : Method} {c : Code} {base : Nat} {D : va_G} {cA : Nat → ClassId} {n : Nat} {l : Launch} {Q : Int → ml_St → Prop} (X : ml_X p s m c meth args D cA cX12_those 8 RX12 (some .long)) (hn : 256 ≤ n) (σ : ml_St) (s0 : Int) (h_s0 : I64 s0) (ls : Array Slot) (hl : lv_has ls 8 []) (hw : f_X12_those_u55 Q σ s0) : ml_V p l e rm_X12_those s m args below meth c (MQ below (ml_Ql base D cA n Q) args s 0 0 (ml_A base)) base D cA 0 0 n n σ (F0 m 55 ls [.long (Int64.ofInt s0)]) := by
  unfold f_X12_those_u55 at hw
  exact ml_lret (pc := 55) X h_s0 hw dX12_those_55
set_option maxRecDepth 100000 in
set_option maxHeartbeats 4000000 in
theorem u_X12_those_52 {p : Program} {e : Env} {s : State} {m : MethodId} {args : Array Value} {below : List Frame} {meth : Method} {c : Code} {base : Nat} {D : va_G} {cA : Nat → ClassId} {n : Nat} {l : Launch} {Q : Int → ml_St → Prop} (X : ml_X p s m c meth args D cA cX12_those 8 RX12 (some .long)) (hn : 256 ≤ n) (σ : ml_St) (ls : Array Slot) (hl : lv_has ls 8 []) (hw : f_X12_those_u52 Q σ) : ml_V p l e rm_X12_those s m args below meth c (MQ below (ml_Ql base D cA n Q) args s 0 0 (ml_A base)) base D cA 0 0 n n σ (F0 m 52 ls []) := by
  unfold f_X12_those_u52 at hw
  refine ml_ldc2 (pc := 52) (v := (-1)) X dX12_those_52 tc_6_52 ?_
  exact u_X12_those_55 X hn σ (-1) ⟨by decide, by decide⟩ _ (lv_sub hl [] rfl) hw
set_option maxRecDepth 100000 in
set_option maxHeartbeats 4000000 in
theorem u_X12_those_0 {p : Program} {e : Env} {s : State} {m : MethodId} {args : Array Value} {below : List Frame} {meth : Method} {c : Code} {base : Nat} {D : va_G} {cA : Nat → ClassId} {n : Nat} {l : Launch} {Q : Int → ml_St → Prop} (X : ml_X p s m c meth args D cA cX12_those 8 RX12 (some .long)) (hn : 256 ≤ n) (σ : ml_St) (x1 : Int) (x2 : Int) (x4 : Int) (x6 : Int) (h_x1 : I32 x1) (h_x2 : I64 x2) (h_x4 : I64 x4) (h_x6 : I64 x6) (ls : Array Slot) (hl : lv_has ls 8 [(0, .ref (base + (215 : Int).toNat)), (1, .int (Int32.ofInt x1)), (2, .long (Int64.ofInt x2)), (4, .long (Int64.ofInt x4)), (6, .long (Int64.ofInt x6))]) (hw : f_X12_those_u0 Q σ x1 x2 x4 x6) : ml_V p l e rm_X12_those s m args below meth c (MQ below (ml_Ql base D cA n Q) args s 0 0 (ml_A base)) base D cA 0 0 n n σ (F0 m 0 ls []) := by
  unfold f_X12_those_u0 at hw
  refine ml_aload_n (pc := 0) X hl 0 rfl rfl dX12_those_0 ?_
  refine ml_iload_n (pc := 1) X hl 1 rfl rfl dX12_those_1 ?_
  refine ml_callzV (pc := 2) (rest := []) X [.int (Int32.ofInt x1)] (by decide) rfl (ml_c215 hn) (c_X12_isMade l base D cA n hn σ x1 h_x1 _ hw) cv_X12_292 ⟨rfl, rfl⟩ ⟨by decide, by decide⟩ rfl rfl hl (Nat.le_of_ble_eq_true rfl) ⟨Nat.zero_le _, Nat.zero_le _⟩ dX12_those_2 (fun r1 σ1 t1 hw => ?_)
  have hw := hw t1
  refine ml_if_eq (pc := 5) (tgt := 52) X t1.i dX12_those_5 (by decide) (fun c2 => ?_) (fun c2 => ?_)
  · have hw := hw.1 c2
    exact u_X12_those_52 X hn σ1   _ (lv_sub hl [] rfl) hw
  · have hw := hw.2 c2
    refine ml_lload_n (pc := 8) X hl 2 rfl rfl dX12_those_8 ?_
    exact hw.elim
set_option maxRecDepth 100000 in
theorem c_X12_those (l : Launch) (base : Nat) (D : va_G) (cA : Nat → ClassId) (n : Nat) (hn : 256 ≤ n) (σ : ml_St) (x1 : Int) (x2 : Int) (x4 : Int) (x6 : Int) (h_x1 : I32 x1) (h_x2 : I64 x2) (h_x4 : I64 x4) (h_x6 : I64 x6) (Q : Int → ml_St → Prop) (hw : f_X12_those σ x1 x2 x4 x6 Q) : Met l yX12_those (Cond.code yX12_those cX12_those 8 (some .long) :: ml_T) rm_X12_those (va_Pc [.ref (base + (215 : Int).toNat), .int (Int32.ofInt x1), .long (Int64.ofInt x2), .long (Int64.ofInt x4), .long (Int64.ofInt x6)] (ml_U base D cA n σ)) (ml_Ql base D cA n Q) 0 0 (ml_A base) := by
  refine Met.ofW (cc := cX12_those) (maxL := 8) (ret := (some .long)) (by decide) rfl ?_
  intro p e s m args below meth c s₁ B hml hv
  obtain ⟨rfl, hP, hK, hok, hro⟩ := hv
  have X : ml_X p s m c meth _ D cA cX12_those 8 RX12 (some .long) := ⟨B.exec, B.bytes, hml, findClass_of_methodNamed B.named, fun w hw => atoms_spec (ws := Cond.code yX12_those cX12_those 8 (some .long) :: ml_T) B.pre w (List.mem_cons_of_mem _ hw), hK, B.notSynchronized, B.returns⟩
  have hl := lv_entry [.ref (base + (215 : Int).toNat), .int (Int32.ofInt x1), .long (Int64.ofInt x2), .long (Int64.ofInt x4), .long (Int64.ofInt x6)] (n := 8) (Nat.le_of_ble_eq_true rfl)
  rw [lg_entry_eq]
  generalize (lg_sl [.ref (base + (215 : Int).toNat), .int (Int32.ofInt x1), .long (Int64.ofInt x2), .long (Int64.ofInt x4), .long (Int64.ofInt x6)] ++ List.replicate (8 - (lg_sl [.ref (base + (215 : Int).toNat), .int (Int32.ofInt x1), .long (Int64.ofInt x2), .long (Int64.ofInt x4), .long (Int64.ofInt x6)]).length) Slot.unset).toArray = ls at hl ⊢
  have hl : lv_has ls 8 [(0, .ref (base + (215 : Int).toNat)), (1, .int (Int32.ofInt x1)), (2, .long (Int64.ofInt x2)), (4, .long (Int64.ofInt x4)), (6, .long (Int64.ofInt x6))] := hl
  unfold f_X12_those at hw
  exact u_X12_those_0 X hn σ x1 x2 x4 x6 h_x1 h_x2 h_x4 h_x6 _ (lv_sub hl [0, 1, 2, 3, 4] rfl) hw s.heap [] hP va_S.rf hok hro
theorem dX12_first_0 : decode cX12_first 0 = .ok (.aload_n 0, 1) := by decide +kernel
theorem dX12_first_1 : decode cX12_first 1 = .ok (.iload_n 1, 1) := by decide +kernel
theorem dX12_first_2 : decode cX12_first 2 = .ok (.invokevirtual 292, 3) := by decide +kernel
theorem dX12_first_5 : decode cX12_first 5 = .ok (.ifCond .eq 10, 3) := by decide +kernel
theorem dX12_first_8 : decode cX12_first 8 = .ok (.lload_n 2, 1) := by decide +kernel
theorem dX12_first_9 : decode cX12_first 9 = .ok (.invokestatic 344, 3) := by decide +kernel
theorem dX12_first_12 : decode cX12_first 12 = .ok (.ifCond .ne 7, 3) := by decide +kernel
theorem dX12_first_15 : decode cX12_first 15 = .ok (.ldc2_w 290, 3) := by decide +kernel
theorem dX12_first_18 : decode cX12_first 18 = .ok (.lreturn, 1) := by decide +kernel
theorem dX12_first_19 : decode cX12_first 19 = .ok (.aload_n 0, 1) := by decide +kernel
theorem dX12_first_20 : decode cX12_first 20 = .ok (.iload_n 1, 1) := by decide +kernel
theorem dX12_first_21 : decode cX12_first 21 = .ok (.lload_n 2, 1) := by decide +kernel
theorem dX12_first_22 : decode cX12_first 22 = .ok (.lconst 1, 1) := by decide +kernel
theorem dX12_first_23 : decode cX12_first 23 = .ok (.ldc2_w 328, 3) := by decide +kernel
theorem dX12_first_26 : decode cX12_first 26 = .ok (.invokevirtual 347, 3) := by decide +kernel
theorem dX12_first_29 : decode cX12_first 29 = .ok (.lconst 0, 1) := by decide +kernel
theorem dX12_first_30 : decode cX12_first 30 = .ok (.lcmp, 1) := by decide +kernel
theorem dX12_first_31 : decode cX12_first 31 = .ok (.ifCond .ne 9, 3) := by decide +kernel
theorem dX12_first_34 : decode cX12_first 34 = .ok (.ldc2_w 290, 3) := by decide +kernel
theorem dX12_first_37 : decode cX12_first 37 = .ok (.goto 7, 3) := by decide +kernel
theorem dX12_first_40 : decode cX12_first 40 = .ok (.aload_n 0, 1) := by decide +kernel
theorem dX12_first_41 : decode cX12_first 41 = .ok (.getfield 337, 3) := by decide +kernel
theorem dX12_first_44 : decode cX12_first 44 = .ok (.lreturn, 1) := by decide +kernel
def f_X12_first_u15 (Q : Int → ml_St → Prop) (σ : ml_St) : Prop :=
Q (-1) σ
def f_X12_first_u44 (Q : Int → ml_St → Prop) (σ : ml_St) (s0 : Int) : Prop :=
Q s0 σ
def f_X12_first_u0 (Q : Int → ml_St → Prop) (σ : ml_St) (x1 : Int) (x2 : Int) : Prop :=
f_X12_isMade σ x1 (fun r1 σ1 => ∀ _ : ml_B r1,
(r1 = 0 →
f_X12_first_u15 Q σ1) ∧
(r1 ≠ 0 →
False))
def f_X12_first (σ : ml_St) (x1 : Int) (x2 : Int) (Q : Int → ml_St → Prop) : Prop := f_X12_first_u0 Q σ x1 x2
def rm_X12_first : Room := { frames := 3, cells := 0, slots := 0, locals := 67 }
set_option maxRecDepth 100000 in
set_option maxHeartbeats 4000000 in
theorem u_X12_first_15 {p : Program} {e : Env} {s : State} {m : MethodId} {args : Array Value} {below : List Frame} {meth : Method} {c : Code} {base : Nat} {D : va_G} {cA : Nat → ClassId} {n : Nat} {l : Launch} {Q : Int → ml_St → Prop} (X : ml_X p s m c meth args D cA cX12_first 4 RX12 (some .long)) (hn : 256 ≤ n) (σ : ml_St) (ls : Array Slot) (hl : lv_has ls 4 []) (hw : f_X12_first_u15 Q σ) : ml_V p l e rm_X12_first s m args below meth c (MQ below (ml_Ql base D cA n Q) args s 0 0 (ml_A base)) base D cA 0 0 n n σ (F0 m 15 ls []) := by
  unfold f_X12_first_u15 at hw
  refine ml_ldc2 (pc := 15) (v := (-1)) X dX12_first_15 tc_6_52 ?_
  exact ml_lret (pc := 18) X ⟨by decide, by decide⟩ hw dX12_first_18
set_option maxRecDepth 100000 in
set_option maxHeartbeats 4000000 in
theorem u_X12_first_44 {p : Program} {e : Env} {s : State} {m : MethodId} {args : Array Value} {below : List Frame} {meth : Method} {c : Code} {base : Nat} {D : va_G} {cA : Nat → ClassId} {n : Nat} {l : Launch} {Q : Int → ml_St → Prop} (X : ml_X p s m c meth args D cA cX12_first 4 RX12 (some .long)) (hn : 256 ≤ n) (σ : ml_St) (s0 : Int) (h_s0 : I64 s0) (ls : Array Slot) (hl : lv_has ls 4 []) (hw : f_X12_first_u44 Q σ s0) : ml_V p l e rm_X12_first s m args below meth c (MQ below (ml_Ql base D cA n Q) args s 0 0 (ml_A base)) base D cA 0 0 n n σ (F0 m 44 ls [.long (Int64.ofInt s0)]) := by
  unfold f_X12_first_u44 at hw
  exact ml_lret (pc := 44) X h_s0 hw dX12_first_44
set_option maxRecDepth 100000 in
set_option maxHeartbeats 4000000 in
theorem u_X12_first_0 {p : Program} {e : Env} {s : State} {m : MethodId} {args : Array Value} {below : List Frame} {meth : Method} {c : Code} {base : Nat} {D : va_G} {cA : Nat → ClassId} {n : Nat} {l : Launch} {Q : Int → ml_St → Prop} (X : ml_X p s m c meth args D cA cX12_first 4 RX12 (some .long)) (hn : 256 ≤ n) (σ : ml_St) (x1 : Int) (x2 : Int) (h_x1 : I32 x1) (h_x2 : I64 x2) (ls : Array Slot) (hl : lv_has ls 4 [(0, .ref (base + (215 : Int).toNat)), (1, .int (Int32.ofInt x1)), (2, .long (Int64.ofInt x2))]) (hw : f_X12_first_u0 Q σ x1 x2) : ml_V p l e rm_X12_first s m args below meth c (MQ below (ml_Ql base D cA n Q) args s 0 0 (ml_A base)) base D cA 0 0 n n σ (F0 m 0 ls []) := by
  unfold f_X12_first_u0 at hw
  refine ml_aload_n (pc := 0) X hl 0 rfl rfl dX12_first_0 ?_
  refine ml_iload_n (pc := 1) X hl 1 rfl rfl dX12_first_1 ?_
  refine ml_callzV (pc := 2) (rest := []) X [.int (Int32.ofInt x1)] (by decide) rfl (ml_c215 hn) (c_X12_isMade l base D cA n hn σ x1 h_x1 _ hw) cv_X12_292 ⟨rfl, rfl⟩ ⟨by decide, by decide⟩ rfl rfl hl (Nat.le_of_ble_eq_true rfl) ⟨Nat.zero_le _, Nat.zero_le _⟩ dX12_first_2 (fun r1 σ1 t1 hw => ?_)
  have hw := hw t1
  refine ml_if_eq (pc := 5) (tgt := 15) X t1.i dX12_first_5 (by decide) (fun c2 => ?_) (fun c2 => ?_)
  · have hw := hw.1 c2
    exact u_X12_first_15 X hn σ1   _ (lv_sub hl [] rfl) hw
  · have hw := hw.2 c2
    refine ml_lload_n (pc := 8) X hl 2 rfl rfl dX12_first_8 ?_
    exact hw.elim
set_option maxRecDepth 100000 in
theorem c_X12_first (l : Launch) (base : Nat) (D : va_G) (cA : Nat → ClassId) (n : Nat) (hn : 256 ≤ n) (σ : ml_St) (x1 : Int) (x2 : Int) (h_x1 : I32 x1) (h_x2 : I64 x2) (Q : Int → ml_St → Prop) (hw : f_X12_first σ x1 x2 Q) : Met l yX12_first (Cond.code yX12_first cX12_first 4 (some .long) :: ml_T) rm_X12_first (va_Pc [.ref (base + (215 : Int).toNat), .int (Int32.ofInt x1), .long (Int64.ofInt x2)] (ml_U base D cA n σ)) (ml_Ql base D cA n Q) 0 0 (ml_A base) := by
  refine Met.ofW (cc := cX12_first) (maxL := 4) (ret := (some .long)) (by decide) rfl ?_
  intro p e s m args below meth c s₁ B hml hv
  obtain ⟨rfl, hP, hK, hok, hro⟩ := hv
  have X : ml_X p s m c meth _ D cA cX12_first 4 RX12 (some .long) := ⟨B.exec, B.bytes, hml, findClass_of_methodNamed B.named, fun w hw => atoms_spec (ws := Cond.code yX12_first cX12_first 4 (some .long) :: ml_T) B.pre w (List.mem_cons_of_mem _ hw), hK, B.notSynchronized, B.returns⟩
  have hl := lv_entry [.ref (base + (215 : Int).toNat), .int (Int32.ofInt x1), .long (Int64.ofInt x2)] (n := 4) (Nat.le_of_ble_eq_true rfl)
  rw [lg_entry_eq]
  generalize (lg_sl [.ref (base + (215 : Int).toNat), .int (Int32.ofInt x1), .long (Int64.ofInt x2)] ++ List.replicate (4 - (lg_sl [.ref (base + (215 : Int).toNat), .int (Int32.ofInt x1), .long (Int64.ofInt x2)]).length) Slot.unset).toArray = ls at hl ⊢
  have hl : lv_has ls 4 [(0, .ref (base + (215 : Int).toNat)), (1, .int (Int32.ofInt x1)), (2, .long (Int64.ofInt x2))] := hl
  unfold f_X12_first at hw
  exact u_X12_first_0 X hn σ x1 x2 h_x1 h_x2 _ (lv_sub hl [0, 1, 2] rfl) hw s.heap [] hP va_S.rf hok hro
theorem dX12_both_0 : decode cX12_both 0 = .ok (.aload_n 0, 1) := by decide +kernel
theorem dX12_both_1 : decode cX12_both 1 = .ok (.iload_n 1, 1) := by decide +kernel
theorem dX12_both_2 : decode cX12_both 2 = .ok (.invokevirtual 292, 3) := by decide +kernel
theorem dX12_both_5 : decode cX12_both 5 = .ok (.ifCond .eq 23, 3) := by decide +kernel
theorem dX12_both_8 : decode cX12_both 8 = .ok (.aload_n 0, 1) := by decide +kernel
theorem dX12_both_9 : decode cX12_both 9 = .ok (.iload_n 2, 1) := by decide +kernel
theorem dX12_both_10 : decode cX12_both 10 = .ok (.invokevirtual 292, 3) := by decide +kernel
theorem dX12_both_13 : decode cX12_both 13 = .ok (.ifCond .eq 15, 3) := by decide +kernel
theorem dX12_both_16 : decode cX12_both 16 = .ok (.iload_n 3, 1) := by decide +kernel
theorem dX12_both_17 : decode cX12_both 17 = .ok (.i2l, 1) := by decide +kernel
theorem dX12_both_18 : decode cX12_both 18 = .ok (.lconst 0, 1) := by decide +kernel
theorem dX12_both_19 : decode cX12_both 19 = .ok (.ldc2_w 353, 3) := by decide +kernel
theorem dX12_both_22 : decode cX12_both 22 = .ok (.invokestatic 143, 3) := by decide +kernel
theorem dX12_both_25 : decode cX12_both 25 = .ok (.ifCond .ne 5, 3) := by decide +kernel
theorem dX12_both_28 : decode cX12_both 28 = .ok (.iconst (-1), 1) := by decide +kernel
theorem dX12_both_29 : decode cX12_both 29 = .ok (.ireturn, 1) := by decide +kernel
theorem dX12_both_30 : decode cX12_both 30 = .ok (.iload_n 3, 1) := by decide +kernel
theorem dX12_both_31 : decode cX12_both 31 = .ok (.ifCond .ne 18, 3) := by decide +kernel
theorem dX12_both_34 : decode cX12_both 34 = .ok (.aload_n 0, 1) := by decide +kernel
theorem dX12_both_35 : decode cX12_both 35 = .ok (.iload_n 1, 1) := by decide +kernel
theorem dX12_both_36 : decode cX12_both 36 = .ok (.iload_n 2, 1) := by decide +kernel
theorem dX12_both_37 : decode cX12_both 37 = .ok (.invokevirtual 355, 3) := by decide +kernel
theorem dX12_both_40 : decode cX12_both 40 = .ok (.ifCond .eq 7, 3) := by decide +kernel
theorem dX12_both_43 : decode cX12_both 43 = .ok (.iconst 1, 1) := by decide +kernel
theorem dX12_both_44 : decode cX12_both 44 = .ok (.goto 4, 3) := by decide +kernel
theorem dX12_both_47 : decode cX12_both 47 = .ok (.iconst 0, 1) := by decide +kernel
theorem dX12_both_48 : decode cX12_both 48 = .ok (.ireturn, 1) := by decide +kernel
theorem dX12_both_49 : decode cX12_both 49 = .ok (.aload_n 0, 1) := by decide +kernel
theorem dX12_both_50 : decode cX12_both 50 = .ok (.iload_n 1, 1) := by decide +kernel
theorem dX12_both_51 : decode cX12_both 51 = .ok (.iload_n 2, 1) := by decide +kernel
theorem dX12_both_52 : decode cX12_both 52 = .ok (.bipush 61, 2) := by decide +kernel
theorem dX12_both_54 : decode cX12_both 54 = .ok (.invokevirtual 245, 3) := by decide +kernel
theorem dX12_both_57 : decode cX12_both 57 = .ok (.iload_n 3, 1) := by decide +kernel
theorem dX12_both_58 : decode cX12_both 58 = .ok (.iconst 1, 1) := by decide +kernel
theorem dX12_both_59 : decode cX12_both 59 = .ok (.if_icmp .ne 28, 3) := by decide +kernel
theorem dX12_both_62 : decode cX12_both 62 = .ok (.aload_n 0, 1) := by decide +kernel
theorem dX12_both_63 : decode cX12_both 63 = .ok (.iload_n 2, 1) := by decide +kernel
theorem dX12_both_64 : decode cX12_both 64 = .ok (.iload_n 1, 1) := by decide +kernel
theorem dX12_both_65 : decode cX12_both 65 = .ok (.bipush 62, 2) := by decide +kernel
theorem dX12_both_67 : decode cX12_both 67 = .ok (.invokevirtual 245, 3) := by decide +kernel
theorem dX12_both_70 : decode cX12_both 70 = .ok (.aload_n 0, 1) := by decide +kernel
theorem dX12_both_71 : decode cX12_both 71 = .ok (.bipush 61, 2) := by decide +kernel
theorem dX12_both_73 : decode cX12_both 73 = .ok (.bipush 62, 2) := by decide +kernel
theorem dX12_both_75 : decode cX12_both 75 = .ok (.invokevirtual 355, 3) := by decide +kernel
theorem dX12_both_78 : decode cX12_both 78 = .ok (.ifCond .eq 7, 3) := by decide +kernel
theorem dX12_both_81 : decode cX12_both 81 = .ok (.iconst 1, 1) := by decide +kernel
theorem dX12_both_82 : decode cX12_both 82 = .ok (.goto 4, 3) := by decide +kernel
theorem dX12_both_85 : decode cX12_both 85 = .ok (.iconst 0, 1) := by decide +kernel
theorem dX12_both_86 : decode cX12_both 86 = .ok (.ireturn, 1) := by decide +kernel
theorem dX12_both_87 : decode cX12_both 87 = .ok (.iload_n 3, 1) := by decide +kernel
theorem dX12_both_88 : decode cX12_both 88 = .ok (.iconst 2, 1) := by decide +kernel
theorem dX12_both_89 : decode cX12_both 89 = .ok (.if_icmp .ne 19, 3) := by decide +kernel
theorem dX12_both_92 : decode cX12_both 92 = .ok (.aload_n 0, 1) := by decide +kernel
theorem dX12_both_93 : decode cX12_both 93 = .ok (.bipush 61, 2) := by decide +kernel
theorem dX12_both_95 : decode cX12_both 95 = .ok (.iload_n 1, 1) := by decide +kernel
theorem dX12_both_96 : decode cX12_both 96 = .ok (.invokevirtual 355, 3) := by decide +kernel
theorem dX12_both_99 : decode cX12_both 99 = .ok (.ifCond .eq 7, 3) := by decide +kernel
theorem dX12_both_102 : decode cX12_both 102 = .ok (.iconst 1, 1) := by decide +kernel
theorem dX12_both_103 : decode cX12_both 103 = .ok (.goto 4, 3) := by decide +kernel
theorem dX12_both_106 : decode cX12_both 106 = .ok (.iconst 0, 1) := by decide +kernel
theorem dX12_both_107 : decode cX12_both 107 = .ok (.ireturn, 1) := by decide +kernel
theorem dX12_both_108 : decode cX12_both 108 = .ok (.aload_n 0, 1) := by decide +kernel
theorem dX12_both_109 : decode cX12_both 109 = .ok (.bipush 62, 2) := by decide +kernel
theorem dX12_both_111 : decode cX12_both 111 = .ok (.invokevirtual 227, 3) := by decide +kernel
theorem dX12_both_114 : decode cX12_both 114 = .ok (.aload_n 0, 1) := by decide +kernel
theorem dX12_both_115 : decode cX12_both 115 = .ok (.bipush 61, 2) := by decide +kernel
theorem dX12_both_117 : decode cX12_both 117 = .ok (.bipush 62, 2) := by decide +kernel
theorem dX12_both_119 : decode cX12_both 119 = .ok (.invokevirtual 355, 3) := by decide +kernel
theorem dX12_both_122 : decode cX12_both 122 = .ok (.ifCond .eq 7, 3) := by decide +kernel
theorem dX12_both_125 : decode cX12_both 125 = .ok (.iconst 1, 1) := by decide +kernel
theorem dX12_both_126 : decode cX12_both 126 = .ok (.goto 4, 3) := by decide +kernel
theorem dX12_both_129 : decode cX12_both 129 = .ok (.iconst 0, 1) := by decide +kernel
theorem dX12_both_130 : decode cX12_both 130 = .ok (.ireturn, 1) := by decide +kernel
def f_X12_both_u28 (Q : Int → ml_St → Prop) (σ : ml_St) : Prop :=
Q (-1) σ
def f_X12_both_u48 (Q : Int → ml_St → Prop) (σ : ml_St) (s0 : Int) : Prop :=
Q s0 σ
def f_X12_both_u86 (Q : Int → ml_St → Prop) (σ : ml_St) (s0 : Int) : Prop :=
Q s0 σ
def f_X12_both_u107 (Q : Int → ml_St → Prop) (σ : ml_St) (s0 : Int) : Prop :=
Q s0 σ
def f_X12_both_u130 (Q : Int → ml_St → Prop) (σ : ml_St) (s0 : Int) : Prop :=
Q s0 σ
def f_X12_both_u0 (Q : Int → ml_St → Prop) (σ : ml_St) (x1 : Int) (x2 : Int) (x3 : Int) : Prop :=
f_X12_isMade σ x1 (fun r1 σ1 => ∀ _ : ml_B r1,
(r1 = 0 →
f_X12_both_u28 Q σ1) ∧
(r1 ≠ 0 →
f_X12_isMade σ1 x2 (fun r3 σ3 => ∀ _ : ml_B r3,
(r3 = 0 →
f_X12_both_u28 Q σ3) ∧
(r3 ≠ 0 →
f_X12_lies σ3 x3 0 3 (fun r5 σ5 => ∀ _ : ml_B r5,
(r5 ≠ 0 →
(x3 ≠ 0 →
False) ∧
(x3 = 0 →
False)) ∧
(r5 = 0 →
f_X12_both_u28 Q σ5))))))
def f_X12_both (σ : ml_St) (x1 : Int) (x2 : Int) (x3 : Int) (Q : Int → ml_St → Prop) : Prop := f_X12_both_u0 Q σ x1 x2 x3
def rm_X12_both : Room := { frames := 3, cells := 0, slots := 0, locals := 67 }
set_option maxRecDepth 100000 in
set_option maxHeartbeats 4000000 in
theorem u_X12_both_28 {p : Program} {e : Env} {s : State} {m : MethodId} {args : Array Value} {below : List Frame} {meth : Method} {c : Code} {base : Nat} {D : va_G} {cA : Nat → ClassId} {n : Nat} {l : Launch} {Q : Int → ml_St → Prop} (X : ml_X p s m c meth args D cA cX12_both 4 RX12 (some .int)) (hn : 256 ≤ n) (σ : ml_St) (ls : Array Slot) (hl : lv_has ls 4 []) (hw : f_X12_both_u28 Q σ) : ml_V p l e rm_X12_both s m args below meth c (MQ below (ml_Qi I32 base D cA n Q) args s 0 0 (ml_A base)) base D cA 0 0 n n σ (F0 m 28 ls []) := by
  unfold f_X12_both_u28 at hw
  refine ml_iconst (pc := 28) X dX12_both_28 ?_
  exact ml_iret (pc := 29) X ⟨by decide, by decide⟩ hw dX12_both_29
set_option maxRecDepth 100000 in
set_option maxHeartbeats 4000000 in
theorem u_X12_both_48 {p : Program} {e : Env} {s : State} {m : MethodId} {args : Array Value} {below : List Frame} {meth : Method} {c : Code} {base : Nat} {D : va_G} {cA : Nat → ClassId} {n : Nat} {l : Launch} {Q : Int → ml_St → Prop} (X : ml_X p s m c meth args D cA cX12_both 4 RX12 (some .int)) (hn : 256 ≤ n) (σ : ml_St) (s0 : Int) (h_s0 : ml_B s0) (ls : Array Slot) (hl : lv_has ls 4 []) (hw : f_X12_both_u48 Q σ s0) : ml_V p l e rm_X12_both s m args below meth c (MQ below (ml_Qi I32 base D cA n Q) args s 0 0 (ml_A base)) base D cA 0 0 n n σ (F0 m 48 ls [.int (Int32.ofInt s0)]) := by
  unfold f_X12_both_u48 at hw
  exact ml_iret (pc := 48) X h_s0.i hw dX12_both_48
set_option maxRecDepth 100000 in
set_option maxHeartbeats 4000000 in
theorem u_X12_both_86 {p : Program} {e : Env} {s : State} {m : MethodId} {args : Array Value} {below : List Frame} {meth : Method} {c : Code} {base : Nat} {D : va_G} {cA : Nat → ClassId} {n : Nat} {l : Launch} {Q : Int → ml_St → Prop} (X : ml_X p s m c meth args D cA cX12_both 4 RX12 (some .int)) (hn : 256 ≤ n) (σ : ml_St) (s0 : Int) (h_s0 : ml_B s0) (ls : Array Slot) (hl : lv_has ls 4 []) (hw : f_X12_both_u86 Q σ s0) : ml_V p l e rm_X12_both s m args below meth c (MQ below (ml_Qi I32 base D cA n Q) args s 0 0 (ml_A base)) base D cA 0 0 n n σ (F0 m 86 ls [.int (Int32.ofInt s0)]) := by
  unfold f_X12_both_u86 at hw
  exact ml_iret (pc := 86) X h_s0.i hw dX12_both_86
set_option maxRecDepth 100000 in
set_option maxHeartbeats 4000000 in
theorem u_X12_both_107 {p : Program} {e : Env} {s : State} {m : MethodId} {args : Array Value} {below : List Frame} {meth : Method} {c : Code} {base : Nat} {D : va_G} {cA : Nat → ClassId} {n : Nat} {l : Launch} {Q : Int → ml_St → Prop} (X : ml_X p s m c meth args D cA cX12_both 4 RX12 (some .int)) (hn : 256 ≤ n) (σ : ml_St) (s0 : Int) (h_s0 : ml_B s0) (ls : Array Slot) (hl : lv_has ls 4 []) (hw : f_X12_both_u107 Q σ s0) : ml_V p l e rm_X12_both s m args below meth c (MQ below (ml_Qi I32 base D cA n Q) args s 0 0 (ml_A base)) base D cA 0 0 n n σ (F0 m 107 ls [.int (Int32.ofInt s0)]) := by
  unfold f_X12_both_u107 at hw
  exact ml_iret (pc := 107) X h_s0.i hw dX12_both_107
set_option maxRecDepth 100000 in
set_option maxHeartbeats 4000000 in
theorem u_X12_both_130 {p : Program} {e : Env} {s : State} {m : MethodId} {args : Array Value} {below : List Frame} {meth : Method} {c : Code} {base : Nat} {D : va_G} {cA : Nat → ClassId} {n : Nat} {l : Launch} {Q : Int → ml_St → Prop} (X : ml_X p s m c meth args D cA cX12_both 4 RX12 (some .int)) (hn : 256 ≤ n) (σ : ml_St) (s0 : Int) (h_s0 : ml_B s0) (ls : Array Slot) (hl : lv_has ls 4 []) (hw : f_X12_both_u130 Q σ s0) : ml_V p l e rm_X12_both s m args below meth c (MQ below (ml_Qi I32 base D cA n Q) args s 0 0 (ml_A base)) base D cA 0 0 n n σ (F0 m 130 ls [.int (Int32.ofInt s0)]) := by
  unfold f_X12_both_u130 at hw
  exact ml_iret (pc := 130) X h_s0.i hw dX12_both_130
set_option maxRecDepth 100000 in
set_option maxHeartbeats 4000000 in
theorem u_X12_both_0 {p : Program} {e : Env} {s : State} {m : MethodId} {args : Array Value} {below : List Frame} {meth : Method} {c : Code} {base : Nat} {D : va_G} {cA : Nat → ClassId} {n : Nat} {l : Launch} {Q : Int → ml_St → Prop} (X : ml_X p s m c meth args D cA cX12_both 4 RX12 (some .int)) (hn : 256 ≤ n) (σ : ml_St) (x1 : Int) (x2 : Int) (x3 : Int) (h_x1 : I32 x1) (h_x2 : I32 x2) (h_x3 : I32 x3) (ls : Array Slot) (hl : lv_has ls 4 [(0, .ref (base + (215 : Int).toNat)), (1, .int (Int32.ofInt x1)), (2, .int (Int32.ofInt x2)), (3, .int (Int32.ofInt x3))]) (hw : f_X12_both_u0 Q σ x1 x2 x3) : ml_V p l e rm_X12_both s m args below meth c (MQ below (ml_Qi I32 base D cA n Q) args s 0 0 (ml_A base)) base D cA 0 0 n n σ (F0 m 0 ls []) := by
  unfold f_X12_both_u0 at hw
  refine ml_aload_n (pc := 0) X hl 0 rfl rfl dX12_both_0 ?_
  refine ml_iload_n (pc := 1) X hl 1 rfl rfl dX12_both_1 ?_
  refine ml_callzV (pc := 2) (rest := []) X [.int (Int32.ofInt x1)] (by decide) rfl (ml_c215 hn) (c_X12_isMade l base D cA n hn σ x1 h_x1 _ hw) cv_X12_292 ⟨rfl, rfl⟩ ⟨by decide, by decide⟩ rfl rfl hl (Nat.le_of_ble_eq_true rfl) ⟨Nat.zero_le _, Nat.zero_le _⟩ dX12_both_2 (fun r1 σ1 t1 hw => ?_)
  have hw := hw t1
  refine ml_if_eq (pc := 5) (tgt := 28) X t1.i dX12_both_5 (by decide) (fun c2 => ?_) (fun c2 => ?_)
  · have hw := hw.1 c2
    exact u_X12_both_28 X hn σ1   _ (lv_sub hl [] rfl) hw
  · have hw := hw.2 c2
    refine ml_aload_n (pc := 8) X hl 0 rfl rfl dX12_both_8 ?_
    refine ml_iload_n (pc := 9) X hl 2 rfl rfl dX12_both_9 ?_
    refine ml_callzV (pc := 10) (rest := []) X [.int (Int32.ofInt x2)] (by decide) rfl (ml_c215 hn) (c_X12_isMade l base D cA n hn σ1 x2 h_x2 _ hw) cv_X12_292 ⟨rfl, rfl⟩ ⟨by decide, by decide⟩ rfl rfl hl (Nat.le_of_ble_eq_true rfl) ⟨Nat.zero_le _, Nat.zero_le _⟩ dX12_both_10 (fun r3 σ3 t3 hw => ?_)
    have hw := hw t3
    refine ml_if_eq (pc := 13) (tgt := 28) X t3.i dX12_both_13 (by decide) (fun c4 => ?_) (fun c4 => ?_)
    · have hw := hw.1 c4
      exact u_X12_both_28 X hn σ3   _ (lv_sub hl [] rfl) hw
    · have hw := hw.2 c4
      refine ml_iload_n (pc := 16) X hl 3 rfl rfl dX12_both_16 ?_
      refine ml_i2l (pc := 17) X h_x3 dX12_both_17 ?_
      refine ml_lconst0 (pc := 18) X dX12_both_18 ?_
      refine ml_ldc2 (pc := 19) (v := 3) X dX12_both_19 tc_6_133 ?_
      refine ml_callzS (pc := 22) (rest := []) X [.long (Int64.ofInt x3), .long (Int64.ofInt 0), .long (Int64.ofInt 3)] (c_X12_lies l base D cA n hn σ3 x3 0 3 (h_x3).l ⟨by decide, by decide⟩ ⟨by decide, by decide⟩ _ hw) cv_X12_143 ⟨rfl, rfl⟩ ⟨by decide, by decide⟩ rfl rfl hl (Nat.le_of_ble_eq_true rfl) ⟨Nat.zero_le _, Nat.zero_le _⟩ dX12_both_22 (fun r5 σ5 t5 hw => ?_)
      have hw := hw t5
      refine ml_if_ne (pc := 25) (tgt := 30) X t5.i dX12_both_25 (by decide) (fun c6 => ?_) (fun c6 => ?_)
      · have hw := hw.1 c6
        refine ml_iload_n (pc := 30) X hl 3 rfl rfl dX12_both_30 ?_
        refine ml_if_ne (pc := 31) (tgt := 49) X h_x3 dX12_both_31 (by decide) (fun c7 => ?_) (fun c7 => ?_)
        · have hw := hw.1 c7
          refine ml_aload_n (pc := 49) X hl 0 rfl rfl dX12_both_49 ?_
          refine ml_iload_n (pc := 50) X hl 1 rfl rfl dX12_both_50 ?_
          refine ml_iload_n (pc := 51) X hl 2 rfl rfl dX12_both_51 ?_
          refine ml_bipush (pc := 52) X dX12_both_52 (by decide) ?_
          exact hw.elim
        · have hw := hw.2 c7
          refine ml_aload_n (pc := 34) X hl 0 rfl rfl dX12_both_34 ?_
          refine ml_iload_n (pc := 35) X hl 1 rfl rfl dX12_both_35 ?_
          refine ml_iload_n (pc := 36) X hl 2 rfl rfl dX12_both_36 ?_
          exact hw.elim
      · have hw := hw.2 c6
        exact u_X12_both_28 X hn σ5   _ (lv_sub hl [] rfl) hw
set_option maxRecDepth 100000 in
theorem c_X12_both (l : Launch) (base : Nat) (D : va_G) (cA : Nat → ClassId) (n : Nat) (hn : 256 ≤ n) (σ : ml_St) (x1 : Int) (x2 : Int) (x3 : Int) (h_x1 : I32 x1) (h_x2 : I32 x2) (h_x3 : I32 x3) (Q : Int → ml_St → Prop) (hw : f_X12_both σ x1 x2 x3 Q) : Met l yX12_both (Cond.code yX12_both cX12_both 4 (some .int) :: ml_T) rm_X12_both (va_Pc [.ref (base + (215 : Int).toNat), .int (Int32.ofInt x1), .int (Int32.ofInt x2), .int (Int32.ofInt x3)] (ml_U base D cA n σ)) (ml_Qi I32 base D cA n Q) 0 0 (ml_A base) := by
  refine Met.ofW (cc := cX12_both) (maxL := 4) (ret := (some .int)) (by decide) rfl ?_
  intro p e s m args below meth c s₁ B hml hv
  obtain ⟨rfl, hP, hK, hok, hro⟩ := hv
  have X : ml_X p s m c meth _ D cA cX12_both 4 RX12 (some .int) := ⟨B.exec, B.bytes, hml, findClass_of_methodNamed B.named, fun w hw => atoms_spec (ws := Cond.code yX12_both cX12_both 4 (some .int) :: ml_T) B.pre w (List.mem_cons_of_mem _ hw), hK, B.notSynchronized, B.returns⟩
  have hl := lv_entry [.ref (base + (215 : Int).toNat), .int (Int32.ofInt x1), .int (Int32.ofInt x2), .int (Int32.ofInt x3)] (n := 4) (Nat.le_of_ble_eq_true rfl)
  rw [lg_entry_eq]
  generalize (lg_sl [.ref (base + (215 : Int).toNat), .int (Int32.ofInt x1), .int (Int32.ofInt x2), .int (Int32.ofInt x3)] ++ List.replicate (4 - (lg_sl [.ref (base + (215 : Int).toNat), .int (Int32.ofInt x1), .int (Int32.ofInt x2), .int (Int32.ofInt x3)]).length) Slot.unset).toArray = ls at hl ⊢
  have hl : lv_has ls 4 [(0, .ref (base + (215 : Int).toNat)), (1, .int (Int32.ofInt x1)), (2, .int (Int32.ofInt x2)), (3, .int (Int32.ofInt x3))] := hl
  unfold f_X12_both at hw
  exact u_X12_both_0 X hn σ x1 x2 x3 h_x1 h_x2 h_x3 _ (lv_sub hl [0, 1, 2, 3] rfl) hw s.heap [] hP va_S.rf hok hro
theorem dX12_is_0 : decode cX12_is 0 = .ok (.aload_n 0, 1) := by decide +kernel
theorem dX12_is_1 : decode cX12_is 1 = .ok (.iload_n 1, 1) := by decide +kernel
theorem dX12_is_2 : decode cX12_is 2 = .ok (.invokevirtual 287, 3) := by decide +kernel
theorem dX12_is_5 : decode cX12_is 5 = .ok (.ifCond .eq 15, 3) := by decide +kernel
theorem dX12_is_8 : decode cX12_is 8 = .ok (.iload_n 2, 1) := by decide +kernel
theorem dX12_is_9 : decode cX12_is 9 = .ok (.i2l, 1) := by decide +kernel
theorem dX12_is_10 : decode cX12_is 10 = .ok (.lconst 0, 1) := by decide +kernel
theorem dX12_is_11 : decode cX12_is 11 = .ok (.ldc2_w 353, 3) := by decide +kernel
theorem dX12_is_14 : decode cX12_is 14 = .ok (.invokestatic 143, 3) := by decide +kernel
theorem dX12_is_17 : decode cX12_is 17 = .ok (.ifCond .ne 5, 3) := by decide +kernel
theorem dX12_is_20 : decode cX12_is 20 = .ok (.iconst (-1), 1) := by decide +kernel
theorem dX12_is_21 : decode cX12_is 21 = .ok (.ireturn, 1) := by decide +kernel
theorem dX12_is_22 : decode cX12_is 22 = .ok (.iload_n 2, 1) := by decide +kernel
theorem dX12_is_23 : decode cX12_is 23 = .ok (.ifCond .ne 22, 3) := by decide +kernel
theorem dX12_is_26 : decode cX12_is 26 = .ok (.aload_n 0, 1) := by decide +kernel
theorem dX12_is_27 : decode cX12_is 27 = .ok (.getfield 30, 3) := by decide +kernel
theorem dX12_is_30 : decode cX12_is 30 = .ok (.iload_n 1, 1) := by decide +kernel
theorem dX12_is_31 : decode cX12_is 31 = .ok (.laload, 1) := by decide +kernel
theorem dX12_is_32 : decode cX12_is 32 = .ok (.lconst 0, 1) := by decide +kernel
theorem dX12_is_33 : decode cX12_is 33 = .ok (.lcmp, 1) := by decide +kernel
theorem dX12_is_34 : decode cX12_is 34 = .ok (.ifCond .ne 7, 3) := by decide +kernel
theorem dX12_is_37 : decode cX12_is 37 = .ok (.iconst 1, 1) := by decide +kernel
theorem dX12_is_38 : decode cX12_is 38 = .ok (.goto 49, 3) := by decide +kernel
theorem dX12_is_41 : decode cX12_is 41 = .ok (.iconst 0, 1) := by decide +kernel
theorem dX12_is_42 : decode cX12_is 42 = .ok (.goto 45, 3) := by decide +kernel
theorem dX12_is_45 : decode cX12_is 45 = .ok (.iload_n 2, 1) := by decide +kernel
theorem dX12_is_46 : decode cX12_is 46 = .ok (.iconst 1, 1) := by decide +kernel
theorem dX12_is_47 : decode cX12_is 47 = .ok (.if_icmp .ne 22, 3) := by decide +kernel
theorem dX12_is_50 : decode cX12_is 50 = .ok (.aload_n 0, 1) := by decide +kernel
theorem dX12_is_51 : decode cX12_is 51 = .ok (.getfield 34, 3) := by decide +kernel
theorem dX12_is_54 : decode cX12_is 54 = .ok (.iload_n 1, 1) := by decide +kernel
theorem dX12_is_55 : decode cX12_is 55 = .ok (.laload, 1) := by decide +kernel
theorem dX12_is_56 : decode cX12_is 56 = .ok (.lconst 0, 1) := by decide +kernel
theorem dX12_is_57 : decode cX12_is 57 = .ok (.lcmp, 1) := by decide +kernel
theorem dX12_is_58 : decode cX12_is 58 = .ok (.ifCond .ne 7, 3) := by decide +kernel
theorem dX12_is_61 : decode cX12_is 61 = .ok (.iconst 1, 1) := by decide +kernel
theorem dX12_is_62 : decode cX12_is 62 = .ok (.goto 25, 3) := by decide +kernel
theorem dX12_is_65 : decode cX12_is 65 = .ok (.iconst 0, 1) := by decide +kernel
theorem dX12_is_66 : decode cX12_is 66 = .ok (.goto 21, 3) := by decide +kernel
theorem dX12_is_69 : decode cX12_is 69 = .ok (.iload_n 2, 1) := by decide +kernel
theorem dX12_is_70 : decode cX12_is 70 = .ok (.iconst 2, 1) := by decide +kernel
theorem dX12_is_71 : decode cX12_is 71 = .ok (.if_icmp .ne 11, 3) := by decide +kernel
theorem dX12_is_74 : decode cX12_is 74 = .ok (.aload_n 0, 1) := by decide +kernel
theorem dX12_is_75 : decode cX12_is 75 = .ok (.iload_n 1, 1) := by decide +kernel
theorem dX12_is_76 : decode cX12_is 76 = .ok (.invokevirtual 358, 3) := by decide +kernel
theorem dX12_is_79 : decode cX12_is 79 = .ok (.goto 8, 3) := by decide +kernel
theorem dX12_is_82 : decode cX12_is 82 = .ok (.aload_n 0, 1) := by decide +kernel
theorem dX12_is_83 : decode cX12_is 83 = .ok (.iload_n 1, 1) := by decide +kernel
theorem dX12_is_84 : decode cX12_is 84 = .ok (.invokevirtual 262, 3) := by decide +kernel
theorem dX12_is_87 : decode cX12_is 87 = .ok (.istore_n 3, 1) := by decide +kernel
theorem dX12_is_88 : decode cX12_is 88 = .ok (.iload_n 3, 1) := by decide +kernel
theorem dX12_is_89 : decode cX12_is 89 = .ok (.ifCond .eq 7, 3) := by decide +kernel
theorem dX12_is_92 : decode cX12_is 92 = .ok (.iconst 1, 1) := by decide +kernel
theorem dX12_is_93 : decode cX12_is 93 = .ok (.goto 4, 3) := by decide +kernel
theorem dX12_is_96 : decode cX12_is 96 = .ok (.iconst 0, 1) := by decide +kernel
theorem dX12_is_97 : decode cX12_is 97 = .ok (.ireturn, 1) := by decide +kernel
def f_X12_is_u20 (Q : Int → ml_St → Prop) (σ : ml_St) : Prop :=
Q (-1) σ
def f_X12_is_u97 (Q : Int → ml_St → Prop) (σ : ml_St) (s0 : Int) : Prop :=
Q s0 σ
def f_X12_is_u87 (Q : Int → ml_St → Prop) (σ : ml_St) (s0 : Int) : Prop :=
(s0 = 0 →
f_X12_is_u97 Q σ 0) ∧
(s0 ≠ 0 →
f_X12_is_u97 Q σ 1)
def f_X12_is_u0 (Q : Int → ml_St → Prop) (σ : ml_St) (x1 : Int) (x2 : Int) : Prop :=
f_X12_isWord σ x1 (fun r1 σ1 => ∀ _ : ml_B r1,
(r1 = 0 →
f_X12_is_u20 Q σ1) ∧
(r1 ≠ 0 →
f_X12_lies σ1 x2 0 3 (fun r3 σ3 => ∀ _ : ml_B r3,
(r3 ≠ 0 →
(x2 ≠ 0 →
(x2 ≠ 1 →
(x2 ≠ 2 →
False) ∧
(x2 = 2 →
False)) ∧
(x2 = 1 →
(0 : Int) ≤ x1 ∧ (x1 : Int) < 16 ∧
∀ _ : I64 (σ3 222 x1),
(((σ3 222 x1) : Int) ≠ 0 →
f_X12_is_u87 Q σ3 0) ∧
((σ3 222 x1) = 0 →
f_X12_is_u87 Q σ3 1))) ∧
(x2 = 0 →
(0 : Int) ≤ x1 ∧ (x1 : Int) < 16 ∧
∀ _ : I64 (σ3 221 x1),
(((σ3 221 x1) : Int) ≠ 0 →
f_X12_is_u87 Q σ3 0) ∧
((σ3 221 x1) = 0 →
f_X12_is_u87 Q σ3 1))) ∧
(r3 = 0 →
f_X12_is_u20 Q σ3))))
def f_X12_is (σ : ml_St) (x1 : Int) (x2 : Int) (Q : Int → ml_St → Prop) : Prop := f_X12_is_u0 Q σ x1 x2
def rm_X12_is : Room := { frames := 2, cells := 0, slots := 0, locals := 46 }
set_option maxRecDepth 100000 in
set_option maxHeartbeats 4000000 in
theorem u_X12_is_20 {p : Program} {e : Env} {s : State} {m : MethodId} {args : Array Value} {below : List Frame} {meth : Method} {c : Code} {base : Nat} {D : va_G} {cA : Nat → ClassId} {n : Nat} {l : Launch} {Q : Int → ml_St → Prop} (X : ml_X p s m c meth args D cA cX12_is 4 RX12 (some .int)) (hn : 256 ≤ n) (σ : ml_St) (ls : Array Slot) (hl : lv_has ls 4 []) (hw : f_X12_is_u20 Q σ) : ml_V p l e rm_X12_is s m args below meth c (MQ below (ml_Qi I32 base D cA n Q) args s 0 0 (ml_A base)) base D cA 0 0 n n σ (F0 m 20 ls []) := by
  unfold f_X12_is_u20 at hw
  refine ml_iconst (pc := 20) X dX12_is_20 ?_
  exact ml_iret (pc := 21) X ⟨by decide, by decide⟩ hw dX12_is_21
set_option maxRecDepth 100000 in
set_option maxHeartbeats 4000000 in
theorem u_X12_is_97 {p : Program} {e : Env} {s : State} {m : MethodId} {args : Array Value} {below : List Frame} {meth : Method} {c : Code} {base : Nat} {D : va_G} {cA : Nat → ClassId} {n : Nat} {l : Launch} {Q : Int → ml_St → Prop} (X : ml_X p s m c meth args D cA cX12_is 4 RX12 (some .int)) (hn : 256 ≤ n) (σ : ml_St) (s0 : Int) (h_s0 : ml_B s0) (ls : Array Slot) (hl : lv_has ls 4 []) (hw : f_X12_is_u97 Q σ s0) : ml_V p l e rm_X12_is s m args below meth c (MQ below (ml_Qi I32 base D cA n Q) args s 0 0 (ml_A base)) base D cA 0 0 n n σ (F0 m 97 ls [.int (Int32.ofInt s0)]) := by
  unfold f_X12_is_u97 at hw
  exact ml_iret (pc := 97) X h_s0.i hw dX12_is_97
set_option maxRecDepth 100000 in
set_option maxHeartbeats 4000000 in
theorem u_X12_is_87 {p : Program} {e : Env} {s : State} {m : MethodId} {args : Array Value} {below : List Frame} {meth : Method} {c : Code} {base : Nat} {D : va_G} {cA : Nat → ClassId} {n : Nat} {l : Launch} {Q : Int → ml_St → Prop} (X : ml_X p s m c meth args D cA cX12_is 4 RX12 (some .int)) (hn : 256 ≤ n) (σ : ml_St) (s0 : Int) (h_s0 : ml_B s0) (ls : Array Slot) (hl : lv_has ls 4 []) (hw : f_X12_is_u87 Q σ s0) : ml_V p l e rm_X12_is s m args below meth c (MQ below (ml_Qi I32 base D cA n Q) args s 0 0 (ml_A base)) base D cA 0 0 n n σ (F0 m 87 ls [.int (Int32.ofInt s0)]) := by
  unfold f_X12_is_u87 at hw
  refine ml_istore_n (pc := 87) X rfl hl (by decide) (lst' := [(3, .int (Int32.ofInt s0))]) rfl dX12_is_87 (fun ls hl => ?_)
  refine ml_iload_n (pc := 88) X hl 0 rfl rfl dX12_is_88 ?_
  refine ml_if_eq (pc := 89) (tgt := 96) X h_s0.i dX12_is_89 (by decide) (fun c1 => ?_) (fun c1 => ?_)
  · have hw := hw.1 c1
    refine ml_iconst (pc := 96) X dX12_is_96 ?_
    exact u_X12_is_97 X hn σ 0 ⟨by decide, by decide⟩ _ (lv_sub hl [] rfl) hw
  · have hw := hw.2 c1
    refine ml_iconst (pc := 92) X dX12_is_92 ?_
    refine ml_goto (pc := 93) (tgt := 97) X dX12_is_93 (by decide) ?_
    exact u_X12_is_97 X hn σ 1 ⟨by decide, by decide⟩ _ (lv_sub hl [] rfl) hw
set_option maxRecDepth 100000 in
set_option maxHeartbeats 4000000 in
theorem u_X12_is_0 {p : Program} {e : Env} {s : State} {m : MethodId} {args : Array Value} {below : List Frame} {meth : Method} {c : Code} {base : Nat} {D : va_G} {cA : Nat → ClassId} {n : Nat} {l : Launch} {Q : Int → ml_St → Prop} (X : ml_X p s m c meth args D cA cX12_is 4 RX12 (some .int)) (hn : 256 ≤ n) (σ : ml_St) (x1 : Int) (x2 : Int) (h_x1 : I32 x1) (h_x2 : I32 x2) (ls : Array Slot) (hl : lv_has ls 4 [(0, .ref (base + (215 : Int).toNat)), (1, .int (Int32.ofInt x1)), (2, .int (Int32.ofInt x2))]) (hw : f_X12_is_u0 Q σ x1 x2) : ml_V p l e rm_X12_is s m args below meth c (MQ below (ml_Qi I32 base D cA n Q) args s 0 0 (ml_A base)) base D cA 0 0 n n σ (F0 m 0 ls []) := by
  unfold f_X12_is_u0 at hw
  refine ml_aload_n (pc := 0) X hl 0 rfl rfl dX12_is_0 ?_
  refine ml_iload_n (pc := 1) X hl 1 rfl rfl dX12_is_1 ?_
  refine ml_callzV (pc := 2) (rest := []) X [.int (Int32.ofInt x1)] (by decide) rfl (ml_c215 hn) (c_X12_isWord l base D cA n hn σ x1 h_x1 _ hw) cv_X12_287 ⟨rfl, rfl⟩ ⟨by decide, by decide⟩ rfl rfl hl (Nat.le_of_ble_eq_true rfl) ⟨Nat.zero_le _, Nat.zero_le _⟩ dX12_is_2 (fun r1 σ1 t1 hw => ?_)
  have hw := hw t1
  refine ml_if_eq (pc := 5) (tgt := 20) X t1.i dX12_is_5 (by decide) (fun c2 => ?_) (fun c2 => ?_)
  · have hw := hw.1 c2
    exact u_X12_is_20 X hn σ1   _ (lv_sub hl [] rfl) hw
  · have hw := hw.2 c2
    refine ml_iload_n (pc := 8) X hl 2 rfl rfl dX12_is_8 ?_
    refine ml_i2l (pc := 9) X h_x2 dX12_is_9 ?_
    refine ml_lconst0 (pc := 10) X dX12_is_10 ?_
    refine ml_ldc2 (pc := 11) (v := 3) X dX12_is_11 tc_6_133 ?_
    refine ml_callzS (pc := 14) (rest := []) X [.long (Int64.ofInt x2), .long (Int64.ofInt 0), .long (Int64.ofInt 3)] (c_X12_lies l base D cA n hn σ1 x2 0 3 (h_x2).l ⟨by decide, by decide⟩ ⟨by decide, by decide⟩ _ hw) cv_X12_143 ⟨rfl, rfl⟩ ⟨by decide, by decide⟩ rfl rfl hl (Nat.le_of_ble_eq_true rfl) ⟨Nat.zero_le _, Nat.zero_le _⟩ dX12_is_14 (fun r3 σ3 t3 hw => ?_)
    have hw := hw t3
    refine ml_if_ne (pc := 17) (tgt := 22) X t3.i dX12_is_17 (by decide) (fun c4 => ?_) (fun c4 => ?_)
    · have hw := hw.1 c4
      refine ml_iload_n (pc := 22) X hl 2 rfl rfl dX12_is_22 ?_
      refine ml_if_ne (pc := 23) (tgt := 45) X h_x2 dX12_is_23 (by decide) (fun c5 => ?_) (fun c5 => ?_)
      · have hw := hw.1 c5
        refine ml_iload_n (pc := 45) X hl 2 rfl rfl dX12_is_45 ?_
        refine ml_iconst (pc := 46) X dX12_is_46 ?_
        refine ml_icmp_ne (pc := 47) (tgt := 69) X h_x2 ⟨by decide, by decide⟩ dX12_is_47 (by decide) (fun c6 => ?_) (fun c6 => ?_)
        · have hw := hw.1 c6
          refine ml_iload_n (pc := 69) X hl 2 rfl rfl dX12_is_69 ?_
          refine ml_iconst (pc := 70) X dX12_is_70 ?_
          refine ml_icmp_ne (pc := 71) (tgt := 82) X h_x2 ⟨by decide, by decide⟩ dX12_is_71 (by decide) (fun c7 => ?_) (fun c7 => ?_)
          · have hw := hw.1 c7
            refine ml_aload_n (pc := 82) X hl 0 rfl rfl dX12_is_82 ?_
            refine ml_iload_n (pc := 83) X hl 1 rfl rfl dX12_is_83 ?_
            exact hw.elim
          · have hw := hw.2 c7
            refine ml_aload_n (pc := 74) X hl 0 rfl rfl dX12_is_74 ?_
            refine ml_iload_n (pc := 75) X hl 1 rfl rfl dX12_is_75 ?_
            exact hw.elim
        · have hw := hw.2 c6
          refine ml_aload_n (pc := 50) X hl 0 rfl rfl dX12_is_50 ?_
          refine gf_X12_34 (pc := 51) X (ml_c215 hn) dX12_is_51 ?_
          refine ml_iload_n (pc := 54) X hl 1 rfl rfl dX12_is_54 ?_
          obtain ⟨a8, b8, hw⟩ := hw
          refine ml_lald (pc := 55) (N := 16) X (ml_c222 hn) a8 b8 dX12_is_55 (fun r8 => ?_)
          have hw := hw r8
          refine ml_lconst0 (pc := 56) X dX12_is_56 ?_
          refine ml_lcmp_ne (pc := 57) (tgt := 65) X r8 ⟨by decide, by decide⟩ dX12_is_57 dX12_is_58 (by decide) (fun c9 => ?_) (fun c9 => ?_)
          · have hw := hw.1 c9
            refine ml_iconst (pc := 65) X dX12_is_65 ?_
            refine ml_goto (pc := 66) (tgt := 87) X dX12_is_66 (by decide) ?_
            exact u_X12_is_87 X hn σ3 0 ⟨by decide, by decide⟩ _ (lv_sub hl [] rfl) hw
          · have hw := hw.2 c9
            refine ml_iconst (pc := 61) X dX12_is_61 ?_
            refine ml_goto (pc := 62) (tgt := 87) X dX12_is_62 (by decide) ?_
            exact u_X12_is_87 X hn σ3 1 ⟨by decide, by decide⟩ _ (lv_sub hl [] rfl) hw
      · have hw := hw.2 c5
        refine ml_aload_n (pc := 26) X hl 0 rfl rfl dX12_is_26 ?_
        refine gf_X12_30 (pc := 27) X (ml_c215 hn) dX12_is_27 ?_
        refine ml_iload_n (pc := 30) X hl 1 rfl rfl dX12_is_30 ?_
        obtain ⟨a10, b10, hw⟩ := hw
        refine ml_lald (pc := 31) (N := 16) X (ml_c221 hn) a10 b10 dX12_is_31 (fun r10 => ?_)
        have hw := hw r10
        refine ml_lconst0 (pc := 32) X dX12_is_32 ?_
        refine ml_lcmp_ne (pc := 33) (tgt := 41) X r10 ⟨by decide, by decide⟩ dX12_is_33 dX12_is_34 (by decide) (fun c11 => ?_) (fun c11 => ?_)
        · have hw := hw.1 c11
          refine ml_iconst (pc := 41) X dX12_is_41 ?_
          refine ml_goto (pc := 42) (tgt := 87) X dX12_is_42 (by decide) ?_
          exact u_X12_is_87 X hn σ3 0 ⟨by decide, by decide⟩ _ (lv_sub hl [] rfl) hw
        · have hw := hw.2 c11
          refine ml_iconst (pc := 37) X dX12_is_37 ?_
          refine ml_goto (pc := 38) (tgt := 87) X dX12_is_38 (by decide) ?_
          exact u_X12_is_87 X hn σ3 1 ⟨by decide, by decide⟩ _ (lv_sub hl [] rfl) hw
    · have hw := hw.2 c4
      exact u_X12_is_20 X hn σ3   _ (lv_sub hl [] rfl) hw
set_option maxRecDepth 100000 in
theorem c_X12_is (l : Launch) (base : Nat) (D : va_G) (cA : Nat → ClassId) (n : Nat) (hn : 256 ≤ n) (σ : ml_St) (x1 : Int) (x2 : Int) (h_x1 : I32 x1) (h_x2 : I32 x2) (Q : Int → ml_St → Prop) (hw : f_X12_is σ x1 x2 Q) : Met l yX12_is (Cond.code yX12_is cX12_is 4 (some .int) :: ml_T) rm_X12_is (va_Pc [.ref (base + (215 : Int).toNat), .int (Int32.ofInt x1), .int (Int32.ofInt x2)] (ml_U base D cA n σ)) (ml_Qi I32 base D cA n Q) 0 0 (ml_A base) := by
  refine Met.ofW (cc := cX12_is) (maxL := 4) (ret := (some .int)) (by decide) rfl ?_
  intro p e s m args below meth c s₁ B hml hv
  obtain ⟨rfl, hP, hK, hok, hro⟩ := hv
  have X : ml_X p s m c meth _ D cA cX12_is 4 RX12 (some .int) := ⟨B.exec, B.bytes, hml, findClass_of_methodNamed B.named, fun w hw => atoms_spec (ws := Cond.code yX12_is cX12_is 4 (some .int) :: ml_T) B.pre w (List.mem_cons_of_mem _ hw), hK, B.notSynchronized, B.returns⟩
  have hl := lv_entry [.ref (base + (215 : Int).toNat), .int (Int32.ofInt x1), .int (Int32.ofInt x2)] (n := 4) (Nat.le_of_ble_eq_true rfl)
  rw [lg_entry_eq]
  generalize (lg_sl [.ref (base + (215 : Int).toNat), .int (Int32.ofInt x1), .int (Int32.ofInt x2)] ++ List.replicate (4 - (lg_sl [.ref (base + (215 : Int).toNat), .int (Int32.ofInt x1), .int (Int32.ofInt x2)]).length) Slot.unset).toArray = ls at hl ⊢
  have hl : lv_has ls 4 [(0, .ref (base + (215 : Int).toNat)), (1, .int (Int32.ofInt x1)), (2, .int (Int32.ofInt x2))] := hl
  unfold f_X12_is at hw
  exact u_X12_is_0 X hn σ x1 x2 h_x1 h_x2 _ (lv_sub hl [0, 1, 2] rfl) hw s.heap [] hP va_S.rf hok hro
theorem dX12_isLetters_0 : decode cX12_isLetters 0 = .ok (.iconst 0, 1) := by decide +kernel
theorem dX12_isLetters_1 : decode cX12_isLetters 1 = .ok (.istore_n 2, 1) := by decide +kernel
theorem dX12_isLetters_2 : decode cX12_isLetters 2 = .ok (.iload_n 1, 1) := by decide +kernel
theorem dX12_isLetters_3 : decode cX12_isLetters 3 = .ok (.i2l, 1) := by decide +kernel
theorem dX12_isLetters_4 : decode cX12_isLetters 4 = .ok (.lconst 1, 1) := by decide +kernel
theorem dX12_isLetters_5 : decode cX12_isLetters 5 = .ok (.iconst 1, 1) := by decide +kernel
theorem dX12_isLetters_6 : decode cX12_isLetters 6 = .ok (.aload_n 0, 1) := by decide +kernel
theorem dX12_isLetters_7 : decode cX12_isLetters 7 = .ok (.getfield 140, 3) := by decide +kernel
theorem dX12_isLetters_10 : decode cX12_isLetters 10 = .ok (.ishl, 1) := by decide +kernel
theorem dX12_isLetters_11 : decode cX12_isLetters 11 = .ok (.iconst 1, 1) := by decide +kernel
theorem dX12_isLetters_12 : decode cX12_isLetters 12 = .ok (.isub, 1) := by decide +kernel
theorem dX12_isLetters_13 : decode cX12_isLetters 13 = .ok (.i2l, 1) := by decide +kernel
theorem dX12_isLetters_14 : decode cX12_isLetters 14 = .ok (.invokestatic 143, 3) := by decide +kernel
theorem dX12_isLetters_17 : decode cX12_isLetters 17 = .ok (.ifCond .ne 5, 3) := by decide +kernel
theorem dX12_isLetters_20 : decode cX12_isLetters 20 = .ok (.iconst 0, 1) := by decide +kernel
theorem dX12_isLetters_21 : decode cX12_isLetters 21 = .ok (.ireturn, 1) := by decide +kernel
theorem dX12_isLetters_22 : decode cX12_isLetters 22 = .ok (.iconst 0, 1) := by decide +kernel
theorem dX12_isLetters_23 : decode cX12_isLetters 23 = .ok (.istore_n 3, 1) := by decide +kernel
theorem dX12_isLetters_24 : decode cX12_isLetters 24 = .ok (.iload_n 3, 1) := by decide +kernel
theorem dX12_isLetters_25 : decode cX12_isLetters 25 = .ok (.aload_n 0, 1) := by decide +kernel
theorem dX12_isLetters_26 : decode cX12_isLetters 26 = .ok (.getfield 140, 3) := by decide +kernel
theorem dX12_isLetters_29 : decode cX12_isLetters 29 = .ok (.if_icmp .ge 46, 3) := by decide +kernel
theorem dX12_isLetters_32 : decode cX12_isLetters 32 = .ok (.iload_n 1, 1) := by decide +kernel
theorem dX12_isLetters_33 : decode cX12_isLetters 33 = .ok (.iload_n 3, 1) := by decide +kernel
theorem dX12_isLetters_34 : decode cX12_isLetters 34 = .ok (.invokestatic 361, 3) := by decide +kernel
theorem dX12_isLetters_37 : decode cX12_isLetters 37 = .ok (.ifCond .ne 6, 3) := by decide +kernel
theorem dX12_isLetters_40 : decode cX12_isLetters 40 = .ok (.goto 29, 3) := by decide +kernel
theorem dX12_isLetters_43 : decode cX12_isLetters 43 = .ok (.aload_n 0, 1) := by decide +kernel
theorem dX12_isLetters_44 : decode cX12_isLetters 44 = .ok (.iload_n 3, 1) := by decide +kernel
theorem dX12_isLetters_45 : decode cX12_isLetters 45 = .ok (.invokevirtual 262, 3) := by decide +kernel
theorem dX12_isLetters_48 : decode cX12_isLetters 48 = .ok (.ifCond .ne 9, 3) := by decide +kernel
theorem dX12_isLetters_51 : decode cX12_isLetters 51 = .ok (.iload_n 2, 1) := by decide +kernel
theorem dX12_isLetters_52 : decode cX12_isLetters 52 = .ok (.bipush 6, 2) := by decide +kernel
theorem dX12_isLetters_54 : decode cX12_isLetters 54 = .ok (.if_icmp .ne 5, 3) := by decide +kernel
theorem dX12_isLetters_57 : decode cX12_isLetters 57 = .ok (.iconst 0, 1) := by decide +kernel
theorem dX12_isLetters_58 : decode cX12_isLetters 58 = .ok (.ireturn, 1) := by decide +kernel
theorem dX12_isLetters_59 : decode cX12_isLetters 59 = .ok (.aload_n 0, 1) := by decide +kernel
theorem dX12_isLetters_60 : decode cX12_isLetters 60 = .ok (.getfield 80, 3) := by decide +kernel
theorem dX12_isLetters_63 : decode cX12_isLetters 63 = .ok (.iload_n 2, 1) := by decide +kernel
theorem dX12_isLetters_64 : decode cX12_isLetters 64 = .ok (.iload_n 3, 1) := by decide +kernel
theorem dX12_isLetters_65 : decode cX12_isLetters 65 = .ok (.iastore, 1) := by decide +kernel
theorem dX12_isLetters_66 : decode cX12_isLetters 66 = .ok (.iinc 2 1, 3) := by decide +kernel
theorem dX12_isLetters_69 : decode cX12_isLetters 69 = .ok (.iinc 3 1, 3) := by decide +kernel
theorem dX12_isLetters_72 : decode cX12_isLetters 72 = .ok (.goto (-48), 3) := by decide +kernel
theorem dX12_isLetters_75 : decode cX12_isLetters 75 = .ok (.aload_n 0, 1) := by decide +kernel
theorem dX12_isLetters_76 : decode cX12_isLetters 76 = .ok (.iload_n 2, 1) := by decide +kernel
theorem dX12_isLetters_77 : decode cX12_isLetters 77 = .ok (.putfield 364, 3) := by decide +kernel
theorem dX12_isLetters_80 : decode cX12_isLetters 80 = .ok (.iconst 1, 1) := by decide +kernel
theorem dX12_isLetters_81 : decode cX12_isLetters 81 = .ok (.ireturn, 1) := by decide +kernel
def f_X12_isLetters_u69 (Q : Int → ml_St → Prop) (K24 : ml_St → Int → Int → Int → Prop) (σ : ml_St) (x1 : Int) (x2 : Int) (x3 : Int) : Prop :=
I32 (x3 + 1) ∧
∀ y1 : Int, y1 = x3 + 1 →
K24 σ x1 x2 y1
def f_X12_isLetters_u24 (Q : Int → ml_St → Prop) (K57 : ml_St → Prop) (K75 : ml_St → Int → Prop) : Nat → ml_St → Int → Int → Int → Prop
| 0, _, _, _, _ => False
| N + 1, σ, x1, x2, x3 =>
∀ _ : I32 (σ 215 3),
((σ 215 3) ≤ x3 →
K75 σ x2) ∧
(¬ ((σ 215 3) ≤ x3) →
False)
def f_X12_isLetters_u57 (Q : Int → ml_St → Prop) (σ : ml_St) : Prop :=
Q 0 σ
def f_X12_isLetters_u75 (Q : Int → ml_St → Prop) (σ : ml_St) (x2 : Int) : Prop :=
∀ σ1, σ1 = ml_up σ 215 38 x2 →
Q 1 σ1
def f_X12_isLetters_u0 (Q : Int → ml_St → Prop) (σ : ml_St) (x1 : Int) : Prop :=
∀ _ : I32 (σ 215 3),
I32 ((b_shl 1 (σ 215 3)) - 1) ∧
f_X12_lies σ x1 1 ((b_shl 1 (σ 215 3)) - 1) (fun r3 σ3 => ∀ _ : ml_B r3,
(r3 ≠ 0 →
∃ N1, f_X12_isLetters_u24 Q (f_X12_isLetters_u57 Q) (f_X12_isLetters_u75 Q) N1 σ3 x1 0 0) ∧
(r3 = 0 →
Q 0 σ3))
def f_X12_isLetters (σ : ml_St) (x1 : Int) (Q : Int → ml_St → Prop) : Prop := f_X12_isLetters_u0 Q σ x1
def rm_X12_isLetters : Room := { frames := 1, cells := 0, slots := 0, locals := 25 }
set_option maxRecDepth 100000 in
set_option maxHeartbeats 4000000 in
theorem u_X12_isLetters_69 {p : Program} {e : Env} {s : State} {m : MethodId} {args : Array Value} {below : List Frame} {meth : Method} {c : Code} {base : Nat} {D : va_G} {cA : Nat → ClassId} {n : Nat} {l : Launch} {Q : Int → ml_St → Prop} {K24 : ml_St → Int → Int → Int → Prop} (X : ml_X p s m c meth args D cA cX12_isLetters 4 RX12 (some .boolean)) (hn : 256 ≤ n) (hK24 : ∀ (σ : ml_St) (x1 : Int) (x2 : Int) (x3 : Int) (h_x1 : I32 x1) (h_x2 : I32 x2) (h_x3 : I32 x3) (ls : Array Slot), lv_has ls 4 [(0, .ref (base + (215 : Int).toNat)), (1, .int (Int32.ofInt x1)), (2, .int (Int32.ofInt x2)), (3, .int (Int32.ofInt x3))] → K24 σ x1 x2 x3 → ml_V p l e rm_X12_isLetters s m args below meth c (MQ below (ml_Qi ml_B base D cA n Q) args s 0 0 (ml_A base)) base D cA 0 0 n n σ (F0 m 24 ls [])) (σ : ml_St) (x1 : Int) (x2 : Int) (x3 : Int) (h_x1 : I32 x1) (h_x2 : I32 x2) (h_x3 : I32 x3) (ls : Array Slot) (hl : lv_has ls 4 [(0, .ref (base + (215 : Int).toNat)), (1, .int (Int32.ofInt x1)), (2, .int (Int32.ofInt x2)), (3, .int (Int32.ofInt x3))]) (hw : f_X12_isLetters_u69 Q K24 σ x1 x2 x3) : ml_V p l e rm_X12_isLetters s m args below meth c (MQ below (ml_Qi ml_B base D cA n Q) args s 0 0 (ml_A base)) base D cA 0 0 n n σ (F0 m 69 ls []) := by
  unfold f_X12_isLetters_u69 at hw
  obtain ⟨v1, hw⟩ := hw
  obtain ⟨y1, e1⟩ : ∃ y : Int, y = x3 + 1 := ⟨_, rfl⟩
  have hw := hw y1 e1
  rw [← e1] at v1
  refine ml_iinc (pc := 69) X e1 hl 3 rfl (by decide) (lst' := [(3, .int (Int32.ofInt y1)), (0, .ref (base + (215 : Int).toNat)), (1, .int (Int32.ofInt x1)), (2, .int (Int32.ofInt x2))]) rfl dX12_isLetters_69 (fun ls hl => ?_)
  refine ml_goto (pc := 72) (tgt := 24) X dX12_isLetters_72 (by decide) ?_
  exact hK24 σ x1 x2 y1 h_x1 h_x2 v1 _ (lv_sub hl [1, 2, 3, 0] rfl) hw
set_option maxRecDepth 100000 in
set_option maxHeartbeats 4000000 in
theorem u_X12_isLetters_24 {p : Program} {e : Env} {s : State} {m : MethodId} {args : Array Value} {below : List Frame} {meth : Method} {c : Code} {base : Nat} {D : va_G} {cA : Nat → ClassId} {n : Nat} {l : Launch} {Q : Int → ml_St → Prop} {K57 : ml_St → Prop} {K75 : ml_St → Int → Prop} (X : ml_X p s m c meth args D cA cX12_isLetters 4 RX12 (some .boolean)) (hn : 256 ≤ n) (hK57 : ∀ (σ : ml_St) (ls : Array Slot), lv_has ls 4 [] → K57 σ → ml_V p l e rm_X12_isLetters s m args below meth c (MQ below (ml_Qi ml_B base D cA n Q) args s 0 0 (ml_A base)) base D cA 0 0 n n σ (F0 m 57 ls [])) (hK75 : ∀ (σ : ml_St) (x2 : Int) (h_x2 : I32 x2) (ls : Array Slot), lv_has ls 4 [(0, .ref (base + (215 : Int).toNat)), (2, .int (Int32.ofInt x2))] → K75 σ x2 → ml_V p l e rm_X12_isLetters s m args below meth c (MQ below (ml_Qi ml_B base D cA n Q) args s 0 0 (ml_A base)) base D cA 0 0 n n σ (F0 m 75 ls [])) : ∀ (N : Nat) (σ : ml_St) (x1 : Int) (x2 : Int) (x3 : Int) (h_x1 : I32 x1) (h_x2 : I32 x2) (h_x3 : I32 x3) (ls : Array Slot), lv_has ls 4 [(0, .ref (base + (215 : Int).toNat)), (1, .int (Int32.ofInt x1)), (2, .int (Int32.ofInt x2)), (3, .int (Int32.ofInt x3))] → f_X12_isLetters_u24 Q K57 K75 N σ x1 x2 x3 → ml_V p l e rm_X12_isLetters s m args below meth c (MQ below (ml_Qi ml_B base D cA n Q) args s 0 0 (ml_A base)) base D cA 0 0 n n σ (F0 m 24 ls []) := by
  intro N
  induction N with
  | zero => intro σ x1 x2 x3 h_x1 h_x2 h_x3 ls hl hw; exact False.elim hw
  | succ N ih =>
    intro σ x1 x2 x3 h_x1 h_x2 h_x3 ls hl hw
    unfold f_X12_isLetters_u24 at hw
    refine ml_iload_n (pc := 24) X hl 3 rfl rfl dX12_isLetters_24 ?_
    refine ml_aload_n (pc := 25) X hl 0 rfl rfl dX12_isLetters_25 ?_
    refine gf_X12_140 (pc := 26) X (ml_c215 hn) dX12_isLetters_26 (fun r1 => ?_)
    have hw := hw r1
    refine ml_icmp_ge (pc := 29) (tgt := 75) X h_x3 r1 dX12_isLetters_29 (by decide) (fun c2 => ?_) (fun c2 => ?_)
    · have hw := hw.1 c2
      exact hK75 σ x2 h_x2 _ (lv_sub hl [0, 2] rfl) hw
    · have hw := hw.2 c2
      refine ml_iload_n (pc := 32) X hl 1 rfl rfl dX12_isLetters_32 ?_
      refine ml_iload_n (pc := 33) X hl 3 rfl rfl dX12_isLetters_33 ?_
      exact hw.elim
set_option maxRecDepth 100000 in
set_option maxHeartbeats 4000000 in
theorem u_X12_isLetters_57 {p : Program} {e : Env} {s : State} {m : MethodId} {args : Array Value} {below : List Frame} {meth : Method} {c : Code} {base : Nat} {D : va_G} {cA : Nat → ClassId} {n : Nat} {l : Launch} {Q : Int → ml_St → Prop} (X : ml_X p s m c meth args D cA cX12_isLetters 4 RX12 (some .boolean)) (hn : 256 ≤ n) (σ : ml_St) (ls : Array Slot) (hl : lv_has ls 4 []) (hw : f_X12_isLetters_u57 Q σ) : ml_V p l e rm_X12_isLetters s m args below meth c (MQ below (ml_Qi ml_B base D cA n Q) args s 0 0 (ml_A base)) base D cA 0 0 n n σ (F0 m 57 ls []) := by
  unfold f_X12_isLetters_u57 at hw
  refine ml_iconst (pc := 57) X dX12_isLetters_57 ?_
  exact ml_zret (pc := 58) X ⟨by decide, by decide⟩ hw dX12_isLetters_58
set_option maxRecDepth 100000 in
set_option maxHeartbeats 4000000 in
theorem u_X12_isLetters_75 {p : Program} {e : Env} {s : State} {m : MethodId} {args : Array Value} {below : List Frame} {meth : Method} {c : Code} {base : Nat} {D : va_G} {cA : Nat → ClassId} {n : Nat} {l : Launch} {Q : Int → ml_St → Prop} (X : ml_X p s m c meth args D cA cX12_isLetters 4 RX12 (some .boolean)) (hn : 256 ≤ n) (σ : ml_St) (x2 : Int) (h_x2 : I32 x2) (ls : Array Slot) (hl : lv_has ls 4 [(0, .ref (base + (215 : Int).toNat)), (2, .int (Int32.ofInt x2))]) (hw : f_X12_isLetters_u75 Q σ x2) : ml_V p l e rm_X12_isLetters s m args below meth c (MQ below (ml_Qi ml_B base D cA n Q) args s 0 0 (ml_A base)) base D cA 0 0 n n σ (F0 m 75 ls []) := by
  unfold f_X12_isLetters_u75 at hw
  refine ml_aload_n (pc := 75) X hl 0 rfl rfl dX12_isLetters_75 ?_
  refine ml_iload_n (pc := 76) X hl 1 rfl rfl dX12_isLetters_76 ?_
  refine pf_X12_364 (pc := 77) X (ml_c215 hn) h_x2 dX12_isLetters_77 (fun σ1 g1 => ?_)
  have hw := hw σ1 g1
  refine ml_iconst (pc := 80) X dX12_isLetters_80 ?_
  exact ml_zret (pc := 81) X ⟨by decide, by decide⟩ hw dX12_isLetters_81
set_option maxRecDepth 100000 in
set_option maxHeartbeats 4000000 in
theorem u_X12_isLetters_0 {p : Program} {e : Env} {s : State} {m : MethodId} {args : Array Value} {below : List Frame} {meth : Method} {c : Code} {base : Nat} {D : va_G} {cA : Nat → ClassId} {n : Nat} {l : Launch} {Q : Int → ml_St → Prop} (X : ml_X p s m c meth args D cA cX12_isLetters 4 RX12 (some .boolean)) (hn : 256 ≤ n) (σ : ml_St) (x1 : Int) (h_x1 : I32 x1) (ls : Array Slot) (hl : lv_has ls 4 [(0, .ref (base + (215 : Int).toNat)), (1, .int (Int32.ofInt x1))]) (hw : f_X12_isLetters_u0 Q σ x1) : ml_V p l e rm_X12_isLetters s m args below meth c (MQ below (ml_Qi ml_B base D cA n Q) args s 0 0 (ml_A base)) base D cA 0 0 n n σ (F0 m 0 ls []) := by
  unfold f_X12_isLetters_u0 at hw
  refine ml_iconst (pc := 0) X dX12_isLetters_0 ?_
  refine ml_istore_n (pc := 1) X rfl hl (by decide) (lst' := [(2, .int (Int32.ofInt 0)), (0, .ref (base + (215 : Int).toNat)), (1, .int (Int32.ofInt x1))]) rfl dX12_isLetters_1 (fun ls hl => ?_)
  refine ml_iload_n (pc := 2) X hl 2 rfl rfl dX12_isLetters_2 ?_
  refine ml_i2l (pc := 3) X h_x1 dX12_isLetters_3 ?_
  refine ml_lconst1 (pc := 4) X dX12_isLetters_4 ?_
  refine ml_iconst (pc := 5) X dX12_isLetters_5 ?_
  refine ml_aload_n (pc := 6) X hl 1 rfl rfl dX12_isLetters_6 ?_
  refine gf_X12_140 (pc := 7) X (ml_c215 hn) dX12_isLetters_7 (fun r1 => ?_)
  have hw := hw r1
  refine ml_ishl (pc := 10) X dX12_isLetters_10 ?_
  refine ml_iconst (pc := 11) X dX12_isLetters_11 ?_
  obtain ⟨v2, hw⟩ := hw
  refine ml_isub (pc := 12) X dX12_isLetters_12 ?_
  refine ml_i2l (pc := 13) X v2 dX12_isLetters_13 ?_
  refine ml_callzS (pc := 14) (rest := []) X [.long (Int64.ofInt x1), .long (Int64.ofInt 1), .long (Int64.ofInt ((b_shl 1 (σ 215 3)) - 1))] (c_X12_lies l base D cA n hn σ x1 1 ((b_shl 1 (σ 215 3)) - 1) (h_x1).l ⟨by decide, by decide⟩ (v2).l _ hw) cv_X12_143 ⟨rfl, rfl⟩ ⟨by decide, by decide⟩ rfl rfl hl (Nat.le_of_ble_eq_true rfl) ⟨Nat.zero_le _, Nat.zero_le _⟩ dX12_isLetters_14 (fun r3 σ3 t3 hw => ?_)
  have hw := hw t3
  refine ml_if_ne (pc := 17) (tgt := 22) X t3.i dX12_isLetters_17 (by decide) (fun c4 => ?_) (fun c4 => ?_)
  · have hw := hw.1 c4
    refine ml_iconst (pc := 22) X dX12_isLetters_22 ?_
    refine ml_istore_n (pc := 23) X rfl hl (by decide) (lst' := [(3, .int (Int32.ofInt 0)), (2, .int (Int32.ofInt 0)), (0, .ref (base + (215 : Int).toNat)), (1, .int (Int32.ofInt x1))]) rfl dX12_isLetters_23 (fun ls hl => ?_)
    obtain ⟨N0, hw⟩ := hw
    exact u_X12_isLetters_24 X hn (fun σ   ls hl hw => u_X12_isLetters_57 X hn σ   ls hl hw) (fun σ x2 h_x2 ls hl hw => u_X12_isLetters_75 X hn σ x2 h_x2 ls hl hw) N0 σ3 x1 0 0 h_x1 ⟨by decide, by decide⟩ ⟨by decide, by decide⟩ _ (lv_sub hl [2, 3, 1, 0] rfl) hw
  · have hw := hw.2 c4
    refine ml_iconst (pc := 20) X dX12_isLetters_20 ?_
    exact ml_zret (pc := 21) X ⟨by decide, by decide⟩ hw dX12_isLetters_21
set_option maxRecDepth 100000 in
theorem c_X12_isLetters (l : Launch) (base : Nat) (D : va_G) (cA : Nat → ClassId) (n : Nat) (hn : 256 ≤ n) (σ : ml_St) (x1 : Int) (h_x1 : I32 x1) (Q : Int → ml_St → Prop) (hw : f_X12_isLetters σ x1 Q) : Met l yX12_isLetters (Cond.code yX12_isLetters cX12_isLetters 4 (some .boolean) :: ml_T) rm_X12_isLetters (va_Pc [.ref (base + (215 : Int).toNat), .int (Int32.ofInt x1)] (ml_U base D cA n σ)) (ml_Qi ml_B base D cA n Q) 0 0 (ml_A base) := by
  refine Met.ofW (cc := cX12_isLetters) (maxL := 4) (ret := (some .boolean)) (by decide) rfl ?_
  intro p e s m args below meth c s₁ B hml hv
  obtain ⟨rfl, hP, hK, hok, hro⟩ := hv
  have X : ml_X p s m c meth _ D cA cX12_isLetters 4 RX12 (some .boolean) := ⟨B.exec, B.bytes, hml, findClass_of_methodNamed B.named, fun w hw => atoms_spec (ws := Cond.code yX12_isLetters cX12_isLetters 4 (some .boolean) :: ml_T) B.pre w (List.mem_cons_of_mem _ hw), hK, B.notSynchronized, B.returns⟩
  have hl := lv_entry [.ref (base + (215 : Int).toNat), .int (Int32.ofInt x1)] (n := 4) (Nat.le_of_ble_eq_true rfl)
  rw [lg_entry_eq]
  generalize (lg_sl [.ref (base + (215 : Int).toNat), .int (Int32.ofInt x1)] ++ List.replicate (4 - (lg_sl [.ref (base + (215 : Int).toNat), .int (Int32.ofInt x1)]).length) Slot.unset).toArray = ls at hl ⊢
  have hl : lv_has ls 4 [(0, .ref (base + (215 : Int).toNat)), (1, .int (Int32.ofInt x1))] := hl
  unfold f_X12_isLetters at hw
  exact u_X12_isLetters_0 X hn σ x1 h_x1 _ (lv_sub hl [0, 1] rfl) hw s.heap [] hP va_S.rf hok hro
theorem dX12_many_0 : decode cX12_many 0 = .ok (.aload_n 0, 1) := by decide +kernel
theorem dX12_many_1 : decode cX12_many 1 = .ok (.iload_n 1, 1) := by decide +kernel
theorem dX12_many_2 : decode cX12_many 2 = .ok (.invokevirtual 379, 3) := by decide +kernel
theorem dX12_many_5 : decode cX12_many 5 = .ok (.ifCond .eq 27, 3) := by decide +kernel
theorem dX12_many_8 : decode cX12_many 8 = .ok (.iload_n 2, 1) := by decide +kernel
theorem dX12_many_9 : decode cX12_many 9 = .ok (.i2l, 1) := by decide +kernel
theorem dX12_many_10 : decode cX12_many 10 = .ok (.lconst 1, 1) := by decide +kernel
theorem dX12_many_11 : decode cX12_many 11 = .ok (.ldc2_w 382, 3) := by decide +kernel
theorem dX12_many_14 : decode cX12_many 14 = .ok (.invokestatic 143, 3) := by decide +kernel
theorem dX12_many_17 : decode cX12_many 17 = .ok (.ifCond .eq 15, 3) := by decide +kernel
theorem dX12_many_20 : decode cX12_many 20 = .ok (.iload_n 3, 1) := by decide +kernel
theorem dX12_many_21 : decode cX12_many 21 = .ok (.i2l, 1) := by decide +kernel
theorem dX12_many_22 : decode cX12_many 22 = .ok (.lconst 0, 1) := by decide +kernel
theorem dX12_many_23 : decode cX12_many 23 = .ok (.ldc2_w 353, 3) := by decide +kernel
theorem dX12_many_26 : decode cX12_many 26 = .ok (.invokestatic 143, 3) := by decide +kernel
theorem dX12_many_29 : decode cX12_many 29 = .ok (.ifCond .ne 5, 3) := by decide +kernel
theorem dX12_many_32 : decode cX12_many 32 = .ok (.iconst (-1), 1) := by decide +kernel
theorem dX12_many_33 : decode cX12_many 33 = .ok (.ireturn, 1) := by decide +kernel
theorem dX12_many_34 : decode cX12_many 34 = .ok (.aload_n 0, 1) := by decide +kernel
theorem dX12_many_35 : decode cX12_many 35 = .ok (.invokevirtual 384, 3) := by decide +kernel
theorem dX12_many_38 : decode cX12_many 38 = .ok (.iconst 0, 1) := by decide +kernel
theorem dX12_many_39 : decode cX12_many 39 = .ok (.istore 4, 2) := by decide +kernel
theorem dX12_many_41 : decode cX12_many 41 = .ok (.iload 4, 2) := by decide +kernel
theorem dX12_many_43 : decode cX12_many 43 = .ok (.iconst 4, 1) := by decide +kernel
theorem dX12_many_44 : decode cX12_many 44 = .ok (.aload_n 0, 1) := by decide +kernel
theorem dX12_many_45 : decode cX12_many 45 = .ok (.getfield 367, 3) := by decide +kernel
theorem dX12_many_48 : decode cX12_many 48 = .ok (.imul, 1) := by decide +kernel
theorem dX12_many_49 : decode cX12_many 49 = .ok (.if_icmp .ge 17, 3) := by decide +kernel
theorem dX12_many_52 : decode cX12_many 52 = .ok (.aload_n 0, 1) := by decide +kernel
theorem dX12_many_53 : decode cX12_many 53 = .ok (.getfield 101, 3) := by decide +kernel
theorem dX12_many_56 : decode cX12_many 56 = .ok (.iload 4, 2) := by decide +kernel
theorem dX12_many_58 : decode cX12_many 58 = .ok (.lconst 0, 1) := by decide +kernel
theorem dX12_many_59 : decode cX12_many 59 = .ok (.lastore, 1) := by decide +kernel
theorem dX12_many_60 : decode cX12_many 60 = .ok (.iinc 4 1, 3) := by decide +kernel
theorem dX12_many_63 : decode cX12_many 63 = .ok (.goto (-22), 3) := by decide +kernel
theorem dX12_many_66 : decode cX12_many 66 = .ok (.iconst 0, 1) := by decide +kernel
theorem dX12_many_67 : decode cX12_many 67 = .ok (.istore 4, 2) := by decide +kernel
theorem dX12_many_69 : decode cX12_many 69 = .ok (.iload 4, 2) := by decide +kernel
theorem dX12_many_71 : decode cX12_many 71 = .ok (.aload_n 0, 1) := by decide +kernel
theorem dX12_many_72 : decode cX12_many 72 = .ok (.getfield 364, 3) := by decide +kernel
theorem dX12_many_75 : decode cX12_many 75 = .ok (.if_icmp .ge 60, 3) := by decide +kernel
theorem dX12_many_78 : decode cX12_many 78 = .ok (.aload_n 0, 1) := by decide +kernel
theorem dX12_many_79 : decode cX12_many 79 = .ok (.getfield 55, 3) := by decide +kernel
theorem dX12_many_82 : decode cX12_many 82 = .ok (.aload_n 0, 1) := by decide +kernel
theorem dX12_many_83 : decode cX12_many 83 = .ok (.getfield 80, 3) := by decide +kernel
theorem dX12_many_86 : decode cX12_many 86 = .ok (.iload 4, 2) := by decide +kernel
theorem dX12_many_88 : decode cX12_many 88 = .ok (.iaload, 1) := by decide +kernel
theorem dX12_many_89 : decode cX12_many 89 = .ok (.laload, 1) := by decide +kernel
theorem dX12_many_90 : decode cX12_many 90 = .ok (.ldc2_w 370, 3) := by decide +kernel
theorem dX12_many_93 : decode cX12_many 93 = .ok (.lcmp, 1) := by decide +kernel
theorem dX12_many_94 : decode cX12_many 94 = .ok (.ifCond .ge 35, 3) := by decide +kernel
theorem dX12_many_97 : decode cX12_many 97 = .ok (.aload_n 0, 1) := by decide +kernel
theorem dX12_many_98 : decode cX12_many 98 = .ok (.getfield 101, 3) := by decide +kernel
theorem dX12_many_101 : decode cX12_many 101 = .ok (.iconst 4, 1) := by decide +kernel
theorem dX12_many_102 : decode cX12_many 102 = .ok (.aload_n 0, 1) := by decide +kernel
theorem dX12_many_103 : decode cX12_many 103 = .ok (.getfield 95, 3) := by decide +kernel
theorem dX12_many_106 : decode cX12_many 106 = .ok (.iload 4, 2) := by decide +kernel
theorem dX12_many_108 : decode cX12_many 108 = .ok (.iaload, 1) := by decide +kernel
theorem dX12_many_109 : decode cX12_many 109 = .ok (.imul, 1) := by decide +kernel
theorem dX12_many_110 : decode cX12_many 110 = .ok (.aload_n 0, 1) := by decide +kernel
theorem dX12_many_111 : decode cX12_many 111 = .ok (.getfield 55, 3) := by decide +kernel
theorem dX12_many_114 : decode cX12_many 114 = .ok (.aload_n 0, 1) := by decide +kernel
theorem dX12_many_115 : decode cX12_many 115 = .ok (.getfield 80, 3) := by decide +kernel
theorem dX12_many_118 : decode cX12_many 118 = .ok (.iload 4, 2) := by decide +kernel
theorem dX12_many_120 : decode cX12_many 120 = .ok (.iaload, 1) := by decide +kernel
theorem dX12_many_121 : decode cX12_many 121 = .ok (.laload, 1) := by decide +kernel
theorem dX12_many_122 : decode cX12_many 122 = .ok (.l2i, 1) := by decide +kernel
theorem dX12_many_123 : decode cX12_many 123 = .ok (.iadd, 1) := by decide +kernel
theorem dX12_many_124 : decode cX12_many 124 = .ok (.dup2, 1) := by decide +kernel
theorem dX12_many_125 : decode cX12_many 125 = .ok (.laload, 1) := by decide +kernel
theorem dX12_many_126 : decode cX12_many 126 = .ok (.lconst 1, 1) := by decide +kernel
theorem dX12_many_127 : decode cX12_many 127 = .ok (.ladd, 1) := by decide +kernel
theorem dX12_many_128 : decode cX12_many 128 = .ok (.lastore, 1) := by decide +kernel
theorem dX12_many_129 : decode cX12_many 129 = .ok (.iinc 4 1, 3) := by decide +kernel
theorem dX12_many_132 : decode cX12_many 132 = .ok (.goto (-63), 3) := by decide +kernel
theorem dX12_many_135 : decode cX12_many 135 = .ok (.iconst 1, 1) := by decide +kernel
theorem dX12_many_136 : decode cX12_many 136 = .ok (.istore 4, 2) := by decide +kernel
theorem dX12_many_138 : decode cX12_many 138 = .ok (.iload 4, 2) := by decide +kernel
theorem dX12_many_140 : decode cX12_many 140 = .ok (.iload_n 2, 1) := by decide +kernel
theorem dX12_many_141 : decode cX12_many 141 = .ok (.if_icmp .ge 197, 3) := by decide +kernel
theorem dX12_many_144 : decode cX12_many 144 = .ok (.iconst 0, 1) := by decide +kernel
theorem dX12_many_145 : decode cX12_many 145 = .ok (.istore 5, 2) := by decide +kernel
theorem dX12_many_147 : decode cX12_many 147 = .ok (.iload 5, 2) := by decide +kernel
theorem dX12_many_149 : decode cX12_many 149 = .ok (.iconst 4, 1) := by decide +kernel
theorem dX12_many_150 : decode cX12_many 150 = .ok (.aload_n 0, 1) := by decide +kernel
theorem dX12_many_151 : decode cX12_many 151 = .ok (.getfield 367, 3) := by decide +kernel
theorem dX12_many_154 : decode cX12_many 154 = .ok (.imul, 1) := by decide +kernel
theorem dX12_many_155 : decode cX12_many 155 = .ok (.if_icmp .ge 17, 3) := by decide +kernel
theorem dX12_many_158 : decode cX12_many 158 = .ok (.aload_n 0, 1) := by decide +kernel
theorem dX12_many_159 : decode cX12_many 159 = .ok (.getfield 104, 3) := by decide +kernel
theorem dX12_many_162 : decode cX12_many 162 = .ok (.iload 5, 2) := by decide +kernel
theorem dX12_many_164 : decode cX12_many 164 = .ok (.lconst 0, 1) := by decide +kernel
theorem dX12_many_165 : decode cX12_many 165 = .ok (.lastore, 1) := by decide +kernel
theorem dX12_many_166 : decode cX12_many 166 = .ok (.iinc 5 1, 3) := by decide +kernel
theorem dX12_many_169 : decode cX12_many 169 = .ok (.goto (-22), 3) := by decide +kernel
theorem dX12_many_172 : decode cX12_many 172 = .ok (.iconst 0, 1) := by decide +kernel
theorem dX12_many_173 : decode cX12_many 173 = .ok (.istore 5, 2) := by decide +kernel
theorem dX12_many_175 : decode cX12_many 175 = .ok (.iload 5, 2) := by decide +kernel
theorem dX12_many_177 : decode cX12_many 177 = .ok (.iconst 4, 1) := by decide +kernel
theorem dX12_many_178 : decode cX12_many 178 = .ok (.aload_n 0, 1) := by decide +kernel
theorem dX12_many_179 : decode cX12_many 179 = .ok (.getfield 367, 3) := by decide +kernel
theorem dX12_many_182 : decode cX12_many 182 = .ok (.imul, 1) := by decide +kernel
theorem dX12_many_183 : decode cX12_many 183 = .ok (.if_icmp .ge 115, 3) := by decide +kernel
theorem dX12_many_186 : decode cX12_many 186 = .ok (.iconst 0, 1) := by decide +kernel
theorem dX12_many_187 : decode cX12_many 187 = .ok (.istore 6, 2) := by decide +kernel
theorem dX12_many_189 : decode cX12_many 189 = .ok (.iload 6, 2) := by decide +kernel
theorem dX12_many_191 : decode cX12_many 191 = .ok (.aload_n 0, 1) := by decide +kernel
theorem dX12_many_192 : decode cX12_many 192 = .ok (.getfield 364, 3) := by decide +kernel
theorem dX12_many_195 : decode cX12_many 195 = .ok (.if_icmp .ge 97, 3) := by decide +kernel
theorem dX12_many_198 : decode cX12_many 198 = .ok (.aload_n 0, 1) := by decide +kernel
theorem dX12_many_199 : decode cX12_many 199 = .ok (.getfield 101, 3) := by decide +kernel
theorem dX12_many_202 : decode cX12_many 202 = .ok (.iload 5, 2) := by decide +kernel
theorem dX12_many_204 : decode cX12_many 204 = .ok (.laload, 1) := by decide +kernel
theorem dX12_many_205 : decode cX12_many 205 = .ok (.lconst 0, 1) := by decide +kernel
theorem dX12_many_206 : decode cX12_many 206 = .ok (.lcmp, 1) := by decide +kernel
theorem dX12_many_207 : decode cX12_many 207 = .ok (.ifCond .le 85, 3) := by decide +kernel
theorem dX12_many_210 : decode cX12_many 210 = .ok (.iload 5, 2) := by decide +kernel
theorem dX12_many_212 : decode cX12_many 212 = .ok (.iconst 4, 1) := by decide +kernel
theorem dX12_many_213 : decode cX12_many 213 = .ok (.irem, 1) := by decide +kernel
theorem dX12_many_214 : decode cX12_many 214 = .ok (.aload_n 0, 1) := by decide +kernel
theorem dX12_many_215 : decode cX12_many 215 = .ok (.getfield 92, 3) := by decide +kernel
theorem dX12_many_218 : decode cX12_many 218 = .ok (.bipush 6, 2) := by decide +kernel
theorem dX12_many_220 : decode cX12_many 220 = .ok (.iload 5, 2) := by decide +kernel
theorem dX12_many_222 : decode cX12_many 222 = .ok (.iconst 4, 1) := by decide +kernel
theorem dX12_many_223 : decode cX12_many 223 = .ok (.idiv, 1) := by decide +kernel
theorem dX12_many_224 : decode cX12_many 224 = .ok (.imul, 1) := by decide +kernel
theorem dX12_many_225 : decode cX12_many 225 = .ok (.iload 6, 2) := by decide +kernel
theorem dX12_many_227 : decode cX12_many 227 = .ok (.iadd, 1) := by decide +kernel
theorem dX12_many_228 : decode cX12_many 228 = .ok (.iaload, 1) := by decide +kernel
theorem dX12_many_229 : decode cX12_many 229 = .ok (.iadd, 1) := by decide +kernel
theorem dX12_many_230 : decode cX12_many 230 = .ok (.istore 7, 2) := by decide +kernel
theorem dX12_many_232 : decode cX12_many 232 = .ok (.iconst 4, 1) := by decide +kernel
theorem dX12_many_233 : decode cX12_many 233 = .ok (.aload_n 0, 1) := by decide +kernel
theorem dX12_many_234 : decode cX12_many 234 = .ok (.getfield 89, 3) := by decide +kernel
theorem dX12_many_237 : decode cX12_many 237 = .ok (.bipush 6, 2) := by decide +kernel
theorem dX12_many_239 : decode cX12_many 239 = .ok (.iload 5, 2) := by decide +kernel
theorem dX12_many_241 : decode cX12_many 241 = .ok (.iconst 4, 1) := by decide +kernel
theorem dX12_many_242 : decode cX12_many 242 = .ok (.idiv, 1) := by decide +kernel
theorem dX12_many_243 : decode cX12_many 243 = .ok (.imul, 1) := by decide +kernel
theorem dX12_many_244 : decode cX12_many 244 = .ok (.iload 6, 2) := by decide +kernel
theorem dX12_many_246 : decode cX12_many 246 = .ok (.iadd, 1) := by decide +kernel
theorem dX12_many_247 : decode cX12_many 247 = .ok (.iaload, 1) := by decide +kernel
theorem dX12_many_248 : decode cX12_many 248 = .ok (.imul, 1) := by decide +kernel
theorem dX12_many_249 : decode cX12_many 249 = .ok (.iload 7, 2) := by decide +kernel
theorem dX12_many_251 : decode cX12_many 251 = .ok (.iadd, 1) := by decide +kernel
theorem dX12_many_252 : decode cX12_many 252 = .ok (.istore 8, 2) := by decide +kernel
theorem dX12_many_254 : decode cX12_many 254 = .ok (.iload 7, 2) := by decide +kernel
theorem dX12_many_256 : decode cX12_many 256 = .ok (.iconst 4, 1) := by decide +kernel
theorem dX12_many_257 : decode cX12_many 257 = .ok (.if_icmp .ge 29, 3) := by decide +kernel
theorem dX12_many_260 : decode cX12_many 260 = .ok (.aload_n 0, 1) := by decide +kernel
theorem dX12_many_261 : decode cX12_many 261 = .ok (.getfield 104, 3) := by decide +kernel
theorem dX12_many_264 : decode cX12_many 264 = .ok (.iload 8, 2) := by decide +kernel
theorem dX12_many_266 : decode cX12_many 266 = .ok (.aload_n 0, 1) := by decide +kernel
theorem dX12_many_267 : decode cX12_many 267 = .ok (.getfield 104, 3) := by decide +kernel
theorem dX12_many_270 : decode cX12_many 270 = .ok (.iload 8, 2) := by decide +kernel
theorem dX12_many_272 : decode cX12_many 272 = .ok (.laload, 1) := by decide +kernel
theorem dX12_many_273 : decode cX12_many 273 = .ok (.aload_n 0, 1) := by decide +kernel
theorem dX12_many_274 : decode cX12_many 274 = .ok (.getfield 101, 3) := by decide +kernel
theorem dX12_many_277 : decode cX12_many 277 = .ok (.iload 5, 2) := by decide +kernel
theorem dX12_many_279 : decode cX12_many 279 = .ok (.laload, 1) := by decide +kernel
theorem dX12_many_280 : decode cX12_many 280 = .ok (.ladd, 1) := by decide +kernel
theorem dX12_many_281 : decode cX12_many 281 = .ok (.ldc2_w 387, 3) := by decide +kernel
theorem dX12_many_284 : decode cX12_many 284 = .ok (.lrem, 1) := by decide +kernel
theorem dX12_many_285 : decode cX12_many 285 = .ok (.lastore, 1) := by decide +kernel
theorem dX12_many_286 : decode cX12_many 286 = .ok (.iinc 6 1, 3) := by decide +kernel
theorem dX12_many_289 : decode cX12_many 289 = .ok (.goto (-100), 3) := by decide +kernel
theorem dX12_many_292 : decode cX12_many 292 = .ok (.iinc 5 1, 3) := by decide +kernel
theorem dX12_many_295 : decode cX12_many 295 = .ok (.goto (-120), 3) := by decide +kernel
theorem dX12_many_298 : decode cX12_many 298 = .ok (.iconst 0, 1) := by decide +kernel
theorem dX12_many_299 : decode cX12_many 299 = .ok (.istore 5, 2) := by decide +kernel
theorem dX12_many_301 : decode cX12_many 301 = .ok (.iload 5, 2) := by decide +kernel
theorem dX12_many_303 : decode cX12_many 303 = .ok (.iconst 4, 1) := by decide +kernel
theorem dX12_many_304 : decode cX12_many 304 = .ok (.aload_n 0, 1) := by decide +kernel
theorem dX12_many_305 : decode cX12_many 305 = .ok (.getfield 367, 3) := by decide +kernel
theorem dX12_many_308 : decode cX12_many 308 = .ok (.imul, 1) := by decide +kernel
theorem dX12_many_309 : decode cX12_many 309 = .ok (.if_icmp .ge 23, 3) := by decide +kernel
theorem dX12_many_312 : decode cX12_many 312 = .ok (.aload_n 0, 1) := by decide +kernel
theorem dX12_many_313 : decode cX12_many 313 = .ok (.getfield 101, 3) := by decide +kernel
theorem dX12_many_316 : decode cX12_many 316 = .ok (.iload 5, 2) := by decide +kernel
theorem dX12_many_318 : decode cX12_many 318 = .ok (.aload_n 0, 1) := by decide +kernel
theorem dX12_many_319 : decode cX12_many 319 = .ok (.getfield 104, 3) := by decide +kernel
theorem dX12_many_322 : decode cX12_many 322 = .ok (.iload 5, 2) := by decide +kernel
theorem dX12_many_324 : decode cX12_many 324 = .ok (.laload, 1) := by decide +kernel
theorem dX12_many_325 : decode cX12_many 325 = .ok (.lastore, 1) := by decide +kernel
theorem dX12_many_326 : decode cX12_many 326 = .ok (.iinc 5 1, 3) := by decide +kernel
theorem dX12_many_329 : decode cX12_many 329 = .ok (.goto (-28), 3) := by decide +kernel
theorem dX12_many_332 : decode cX12_many 332 = .ok (.iinc 4 1, 3) := by decide +kernel
theorem dX12_many_335 : decode cX12_many 335 = .ok (.goto (-197), 3) := by decide +kernel
theorem dX12_many_338 : decode cX12_many 338 = .ok (.lconst 0, 1) := by decide +kernel
theorem dX12_many_339 : decode cX12_many 339 = .ok (.lstore 4, 2) := by decide +kernel
theorem dX12_many_341 : decode cX12_many 341 = .ok (.iconst 0, 1) := by decide +kernel
theorem dX12_many_342 : decode cX12_many 342 = .ok (.istore 6, 2) := by decide +kernel
theorem dX12_many_344 : decode cX12_many 344 = .ok (.iload 6, 2) := by decide +kernel
theorem dX12_many_346 : decode cX12_many 346 = .ok (.iconst 4, 1) := by decide +kernel
theorem dX12_many_347 : decode cX12_many 347 = .ok (.aload_n 0, 1) := by decide +kernel
theorem dX12_many_348 : decode cX12_many 348 = .ok (.getfield 367, 3) := by decide +kernel
theorem dX12_many_351 : decode cX12_many 351 = .ok (.imul, 1) := by decide +kernel
theorem dX12_many_352 : decode cX12_many 352 = .ok (.if_icmp .ge 43, 3) := by decide +kernel
theorem dX12_many_355 : decode cX12_many 355 = .ok (.lload 4, 2) := by decide +kernel
theorem dX12_many_357 : decode cX12_many 357 = .ok (.iload 6, 2) := by decide +kernel
theorem dX12_many_359 : decode cX12_many 359 = .ok (.iconst 4, 1) := by decide +kernel
theorem dX12_many_360 : decode cX12_many 360 = .ok (.irem, 1) := by decide +kernel
theorem dX12_many_361 : decode cX12_many 361 = .ok (.aload_n 0, 1) := by decide +kernel
theorem dX12_many_362 : decode cX12_many 362 = .ok (.getfield 98, 3) := by decide +kernel
theorem dX12_many_365 : decode cX12_many 365 = .ok (.iload 6, 2) := by decide +kernel
theorem dX12_many_367 : decode cX12_many 367 = .ok (.iconst 4, 1) := by decide +kernel
theorem dX12_many_368 : decode cX12_many 368 = .ok (.idiv, 1) := by decide +kernel
theorem dX12_many_369 : decode cX12_many 369 = .ok (.iaload, 1) := by decide +kernel
theorem dX12_many_370 : decode cX12_many 370 = .ok (.iadd, 1) := by decide +kernel
theorem dX12_many_371 : decode cX12_many 371 = .ok (.iload_n 3, 1) := by decide +kernel
theorem dX12_many_372 : decode cX12_many 372 = .ok (.if_icmp .ne 13, 3) := by decide +kernel
theorem dX12_many_375 : decode cX12_many 375 = .ok (.aload_n 0, 1) := by decide +kernel
theorem dX12_many_376 : decode cX12_many 376 = .ok (.getfield 101, 3) := by decide +kernel
theorem dX12_many_379 : decode cX12_many 379 = .ok (.iload 6, 2) := by decide +kernel
theorem dX12_many_381 : decode cX12_many 381 = .ok (.laload, 1) := by decide +kernel
theorem dX12_many_382 : decode cX12_many 382 = .ok (.goto 4, 3) := by decide +kernel
theorem dX12_many_385 : decode cX12_many 385 = .ok (.lconst 0, 1) := by decide +kernel
theorem dX12_many_386 : decode cX12_many 386 = .ok (.ladd, 1) := by decide +kernel
theorem dX12_many_387 : decode cX12_many 387 = .ok (.lstore 4, 2) := by decide +kernel
theorem dX12_many_389 : decode cX12_many 389 = .ok (.iinc 6 1, 3) := by decide +kernel
theorem dX12_many_392 : decode cX12_many 392 = .ok (.goto (-48), 3) := by decide +kernel
theorem dX12_many_395 : decode cX12_many 395 = .ok (.lload 4, 2) := by decide +kernel
theorem dX12_many_397 : decode cX12_many 397 = .ok (.ldc2_w 387, 3) := by decide +kernel
theorem dX12_many_400 : decode cX12_many 400 = .ok (.lrem, 1) := by decide +kernel
theorem dX12_many_401 : decode cX12_many 401 = .ok (.l2i, 1) := by decide +kernel
theorem dX12_many_402 : decode cX12_many 402 = .ok (.ireturn, 1) := by decide +kernel
def f_X12_many_u32 (Q : Int → ml_St → Prop) (σ : ml_St) : Prop :=
Q (-1) σ
def f_X12_many_u41 (Q : Int → ml_St → Prop) (K66 : ml_St → Int → Int → Prop) : Nat → ml_St → Int → Int → Int → Prop
| 0, _, _, _, _ => False
| N + 1, σ, x2, x3, x4 =>
∀ _ : I32 (σ 215 39),
I32 (4 * (σ 215 39)) ∧
((4 * (σ 215 39)) ≤ x4 →
K66 σ x2 x3) ∧
(¬ ((4 * (σ 215 39)) ≤ x4) →
(0 : Int) ≤ x4 ∧ (x4 : Int) < 3800 ∧
∀ σ4, σ4 = ml_up σ 244 x4 0 →
I32 (x4 + 1) ∧
∀ y5 : Int, y5 = x4 + 1 →
f_X12_many_u41 Q K66 N σ4 x2 x3 y5)
def f_X12_many_u129 (Q : Int → ml_St → Prop) (K69 : ml_St → Int → Int → Int → Prop) (σ : ml_St) (x2 : Int) (x3 : Int) (x4 : Int) : Prop :=
I32 (x4 + 1) ∧
∀ y1 : Int, y1 = x4 + 1 →
K69 σ x2 x3 y1
def f_X12_many_u69 (Q : Int → ml_St → Prop) (K135 : ml_St → Int → Int → Prop) : Nat → ml_St → Int → Int → Int → Prop
| 0, _, _, _, _ => False
| N + 1, σ, x2, x3, x4 =>
∀ _ : I32 (σ 215 38),
((σ 215 38) ≤ x4 →
K135 σ x2 x3) ∧
(¬ ((σ 215 38) ≤ x4) →
(0 : Int) ≤ x4 ∧ (x4 : Int) < 6 ∧
∀ _ : I32 (σ 237 x4),
(0 : Int) ≤ (σ 237 x4) ∧ ((σ 237 x4) : Int) < 64 ∧
∀ _ : I64 (σ 229 (σ 237 x4)),
(4 ≤ ((σ 229 (σ 237 x4)) : Int) →
f_X12_many_u129 Q (f_X12_many_u69 Q K135 N) σ x2 x3 x4) ∧
(¬ (4 ≤ ((σ 229 (σ 237 x4)) : Int)) →
(0 : Int) ≤ x4 ∧ (x4 : Int) < 6 ∧
∀ _ : I32 (σ 242 x4),
I32 (4 * (σ 242 x4)) ∧
(0 : Int) ≤ x4 ∧ (x4 : Int) < 6 ∧
∀ _ : I32 (σ 237 x4),
(0 : Int) ≤ (σ 237 x4) ∧ ((σ 237 x4) : Int) < 64 ∧
∀ _ : I64 (σ 229 (σ 237 x4)),
I32 ((4 * (σ 242 x4)) + (b_l2i (σ 229 (σ 237 x4)))) ∧
(0 : Int) ≤ ((4 * (σ 242 x4)) + (b_l2i (σ 229 (σ 237 x4)))) ∧ (((4 * (σ 242 x4)) + (b_l2i (σ 229 (σ 237 x4)))) : Int) < 3800 ∧
∀ _ : I64 (σ 244 ((4 * (σ 242 x4)) + (b_l2i (σ 229 (σ 237 x4))))),
I64 ((σ 244 ((4 * (σ 242 x4)) + (b_l2i (σ 229 (σ 237 x4))))) + 1) ∧
(0 : Int) ≤ ((4 * (σ 242 x4)) + (b_l2i (σ 229 (σ 237 x4)))) ∧ (((4 * (σ 242 x4)) + (b_l2i (σ 229 (σ 237 x4)))) : Int) < 3800 ∧
∀ σ13, σ13 = ml_up σ 244 ((4 * (σ 242 x4)) + (b_l2i (σ 229 (σ 237 x4)))) ((σ 244 ((4 * (σ 242 x4)) + (b_l2i (σ 229 (σ 237 x4))))) + 1) →
f_X12_many_u129 Q (f_X12_many_u69 Q K135 N) σ13 x2 x3 x4))
def f_X12_many_u147 (Q : Int → ml_St → Prop) (K172 : ml_St → Int → Int → Int → Prop) : Nat → ml_St → Int → Int → Int → Int → Prop
| 0, _, _, _, _, _ => False
| N + 1, σ, x2, x3, x4, x5 =>
∀ _ : I32 (σ 215 39),
I32 (4 * (σ 215 39)) ∧
((4 * (σ 215 39)) ≤ x5 →
K172 σ x2 x3 x4) ∧
(¬ ((4 * (σ 215 39)) ≤ x5) →
(0 : Int) ≤ x5 ∧ (x5 : Int) < 3800 ∧
∀ σ4, σ4 = ml_up σ 245 x5 0 →
I32 (x5 + 1) ∧
∀ y5 : Int, y5 = x5 + 1 →
f_X12_many_u147 Q K172 N σ4 x2 x3 x4 y5)
def f_X12_many_u286 (Q : Int → ml_St → Prop) (K189 : ml_St → Int → Int → Int → Int → Int → Prop) (σ : ml_St) (x2 : Int) (x3 : Int) (x4 : Int) (x5 : Int) (x6 : Int) : Prop :=
I32 (x6 + 1) ∧
∀ y1 : Int, y1 = x6 + 1 →
K189 σ x2 x3 x4 x5 y1
def f_X12_many_u189 (Q : Int → ml_St → Prop) (K292 : ml_St → Int → Int → Int → Int → Prop) : Nat → ml_St → Int → Int → Int → Int → Int → Prop
| 0, _, _, _, _, _, _ => False
| N + 1, σ, x2, x3, x4, x5, x6 =>
∀ _ : I32 (σ 215 38),
((σ 215 38) ≤ x6 →
K292 σ x2 x3 x4 x5) ∧
(¬ ((σ 215 38) ≤ x6) →
(0 : Int) ≤ x5 ∧ (x5 : Int) < 3800 ∧
∀ _ : I64 (σ 244 x5),
(((σ 244 x5) : Int) ≤ 0 →
K292 σ x2 x3 x4 x5) ∧
(¬ (((σ 244 x5) : Int) ≤ 0) →
(4 : Int) ≠ 0 ∧ I32 (Int.tmod x5 4) ∧
(4 : Int) ≠ 0 ∧ I32 (Int.tdiv x5 4) ∧
I32 (6 * (Int.tdiv x5 4)) ∧
I32 ((6 * (Int.tdiv x5 4)) + x6) ∧
(0 : Int) ≤ ((6 * (Int.tdiv x5 4)) + x6) ∧ (((6 * (Int.tdiv x5 4)) + x6) : Int) < 5700 ∧
∀ _ : I32 (σ 241 ((6 * (Int.tdiv x5 4)) + x6)),
I32 ((Int.tmod x5 4) + (σ 241 ((6 * (Int.tdiv x5 4)) + x6))) ∧
∀ y11 : Int, y11 = (Int.tmod x5 4) + (σ 241 ((6 * (Int.tdiv x5 4)) + x6)) →
(4 : Int) ≠ 0 ∧ I32 (Int.tdiv x5 4) ∧
I32 (6 * (Int.tdiv x5 4)) ∧
I32 ((6 * (Int.tdiv x5 4)) + x6) ∧
(0 : Int) ≤ ((6 * (Int.tdiv x5 4)) + x6) ∧ (((6 * (Int.tdiv x5 4)) + x6) : Int) < 5700 ∧
∀ _ : I32 (σ 240 ((6 * (Int.tdiv x5 4)) + x6)),
I32 (4 * (σ 240 ((6 * (Int.tdiv x5 4)) + x6))) ∧
I32 ((4 * (σ 240 ((6 * (Int.tdiv x5 4)) + x6))) + y11) ∧
∀ y18 : Int, y18 = (4 * (σ 240 ((6 * (Int.tdiv x5 4)) + x6))) + y11 →
(4 ≤ y11 →
f_X12_many_u286 Q (f_X12_many_u189 Q K292 N) σ x2 x3 x4 x5 x6) ∧
(¬ (4 ≤ y11) →
(0 : Int) ≤ y18 ∧ (y18 : Int) < 3800 ∧
∀ _ : I64 (σ 245 y18),
(0 : Int) ≤ x5 ∧ (x5 : Int) < 3800 ∧
∀ _ : I64 (σ 244 x5),
I64 ((σ 245 y18) + (σ 244 x5)) ∧
(998244353 : Int) ≠ 0 ∧ I64 (Int.tmod ((σ 245 y18) + (σ 244 x5)) 998244353) ∧
(0 : Int) ≤ y18 ∧ (y18 : Int) < 3800 ∧
∀ σ24, σ24 = ml_up σ 245 y18 (Int.tmod ((σ 245 y18) + (σ 244 x5)) 998244353) →
f_X12_many_u286 Q (f_X12_many_u189 Q K292 N) σ24 x2 x3 x4 x5 x6)))
def f_X12_many_u292 (Q : Int → ml_St → Prop) (K175 : ml_St → Int → Int → Int → Int → Prop) (σ : ml_St) (x2 : Int) (x3 : Int) (x4 : Int) (x5 : Int) : Prop :=
I32 (x5 + 1) ∧
∀ y1 : Int, y1 = x5 + 1 →
K175 σ x2 x3 x4 y1
def f_X12_many_u175 (Q : Int → ml_St → Prop) (K298 : ml_St → Int → Int → Int → Prop) : Nat → ml_St → Int → Int → Int → Int → Prop
| 0, _, _, _, _, _ => False
| N + 1, σ, x2, x3, x4, x5 =>
∀ _ : I32 (σ 215 39),
I32 (4 * (σ 215 39)) ∧
((4 * (σ 215 39)) ≤ x5 →
K298 σ x2 x3 x4) ∧
(¬ ((4 * (σ 215 39)) ≤ x5) →
∃ N1, f_X12_many_u189 Q (f_X12_many_u292 Q (f_X12_many_u175 Q K298 N)) N1 σ x2 x3 x4 x5 0)
def f_X12_many_u301 (Q : Int → ml_St → Prop) (K332 : ml_St → Int → Int → Int → Prop) : Nat → ml_St → Int → Int → Int → Int → Prop
| 0, _, _, _, _, _ => False
| N + 1, σ, x2, x3, x4, x5 =>
∀ _ : I32 (σ 215 39),
I32 (4 * (σ 215 39)) ∧
((4 * (σ 215 39)) ≤ x5 →
K332 σ x2 x3 x4) ∧
(¬ ((4 * (σ 215 39)) ≤ x5) →
(0 : Int) ≤ x5 ∧ (x5 : Int) < 3800 ∧
∀ _ : I64 (σ 245 x5),
(0 : Int) ≤ x5 ∧ (x5 : Int) < 3800 ∧
∀ σ5, σ5 = ml_up σ 244 x5 (σ 245 x5) →
I32 (x5 + 1) ∧
∀ y6 : Int, y6 = x5 + 1 →
f_X12_many_u301 Q K332 N σ5 x2 x3 x4 y6)
def f_X12_many_u332 (Q : Int → ml_St → Prop) (K138 : ml_St → Int → Int → Int → Prop) (σ : ml_St) (x2 : Int) (x3 : Int) (x4 : Int) : Prop :=
I32 (x4 + 1) ∧
∀ y1 : Int, y1 = x4 + 1 →
K138 σ x2 x3 y1
def f_X12_many_u298 (Q : Int → ml_St → Prop) (K138 : ml_St → Int → Int → Int → Prop) (σ : ml_St) (x2 : Int) (x3 : Int) (x4 : Int) : Prop :=
∃ N1, f_X12_many_u301 Q (f_X12_many_u332 Q K138) N1 σ x2 x3 x4 0
def f_X12_many_u172 (Q : Int → ml_St → Prop) (K138 : ml_St → Int → Int → Int → Prop) (σ : ml_St) (x2 : Int) (x3 : Int) (x4 : Int) : Prop :=
∃ N1, f_X12_many_u175 Q (f_X12_many_u298 Q K138) N1 σ x2 x3 x4 0
def f_X12_many_u138 (Q : Int → ml_St → Prop) (K338 : ml_St → Int → Prop) : Nat → ml_St → Int → Int → Int → Prop
| 0, _, _, _, _ => False
| N + 1, σ, x2, x3, x4 =>
(x2 ≤ x4 →
K338 σ x3) ∧
(¬ (x2 ≤ x4) →
∃ N1, f_X12_many_u147 Q (f_X12_many_u172 Q (f_X12_many_u138 Q K338 N)) N1 σ x2 x3 x4 0)
def f_X12_many_u386 (Q : Int → ml_St → Prop) (K344 : ml_St → Int → Int → Int → Prop) (σ : ml_St) (x3 : Int) (x6 : Int) (s0 : Int) (s1 : Int) : Prop :=
I64 (s0 + s1) ∧
∀ y2 : Int, y2 = s0 + s1 →
I32 (x6 + 1) ∧
∀ y3 : Int, y3 = x6 + 1 →
K344 σ x3 y2 y3
def f_X12_many_u344 (Q : Int → ml_St → Prop) (K395 : ml_St → Int → Prop) : Nat → ml_St → Int → Int → Int → Prop
| 0, _, _, _, _ => False
| N + 1, σ, x3, x4, x6 =>
∀ _ : I32 (σ 215 39),
I32 (4 * (σ 215 39)) ∧
((4 * (σ 215 39)) ≤ x6 →
K395 σ x4) ∧
(¬ ((4 * (σ 215 39)) ≤ x6) →
(4 : Int) ≠ 0 ∧ I32 (Int.tmod x6 4) ∧
(4 : Int) ≠ 0 ∧ I32 (Int.tdiv x6 4) ∧
(0 : Int) ≤ (Int.tdiv x6 4) ∧ ((Int.tdiv x6 4) : Int) < 950 ∧
∀ _ : I32 (σ 243 (Int.tdiv x6 4)),
I32 ((Int.tmod x6 4) + (σ 243 (Int.tdiv x6 4))) ∧
(((Int.tmod x6 4) + (σ 243 (Int.tdiv x6 4))) ≠ x3 →
f_X12_many_u386 Q (f_X12_many_u344 Q K395 N) σ x3 x6 x4 0) ∧
(((Int.tmod x6 4) + (σ 243 (Int.tdiv x6 4))) = x3 →
(0 : Int) ≤ x6 ∧ (x6 : Int) < 3800 ∧
∀ _ : I64 (σ 244 x6),
f_X12_many_u386 Q (f_X12_many_u344 Q K395 N) σ x3 x6 x4 (σ 244 x6)))
def f_X12_many_u395 (Q : Int → ml_St → Prop) (σ : ml_St) (x4 : Int) : Prop :=
(998244353 : Int) ≠ 0 ∧ I64 (Int.tmod x4 998244353) ∧
Q (b_l2i (Int.tmod x4 998244353)) σ
def f_X12_many_u338 (Q : Int → ml_St → Prop) (σ : ml_St) (x3 : Int) : Prop :=
∃ N1, f_X12_many_u344 Q (f_X12_many_u395 Q) N1 σ x3 0 0
def f_X12_many_u135 (Q : Int → ml_St → Prop) (σ : ml_St) (x2 : Int) (x3 : Int) : Prop :=
∃ N1, f_X12_many_u138 Q (f_X12_many_u338 Q) N1 σ x2 x3 1
def f_X12_many_u66 (Q : Int → ml_St → Prop) (σ : ml_St) (x2 : Int) (x3 : Int) : Prop :=
∃ N1, f_X12_many_u69 Q (f_X12_many_u135 Q) N1 σ x2 x3 0
def f_X12_many_u0 (Q : Int → ml_St → Prop) (σ : ml_St) (x1 : Int) (x2 : Int) (x3 : Int) : Prop :=
f_X12_isLetters σ x1 (fun r1 σ1 => ∀ _ : ml_B r1,
(r1 = 0 →
f_X12_many_u32 Q σ1) ∧
(r1 ≠ 0 →
f_X12_lies σ1 x2 1 1000 (fun r3 σ3 => ∀ _ : ml_B r3,
(r3 = 0 →
f_X12_many_u32 Q σ3) ∧
(r3 ≠ 0 →
f_X12_lies σ3 x3 0 3 (fun r5 σ5 => ∀ _ : ml_B r5,
(r5 ≠ 0 →
False) ∧
(r5 = 0 →
f_X12_many_u32 Q σ5))))))
def f_X12_many (σ : ml_St) (x1 : Int) (x2 : Int) (x3 : Int) (Q : Int → ml_St → Prop) : Prop := f_X12_many_u0 Q σ x1 x2 x3
def rm_X12_many : Room := { frames := 2, cells := 0, slots := 0, locals := 48 }
set_option maxRecDepth 100000 in
set_option maxHeartbeats 4000000 in
theorem u_X12_many_32 {p : Program} {e : Env} {s : State} {m : MethodId} {args : Array Value} {below : List Frame} {meth : Method} {c : Code} {base : Nat} {D : va_G} {cA : Nat → ClassId} {n : Nat} {l : Launch} {Q : Int → ml_St → Prop} (X : ml_X p s m c meth args D cA cX12_many 9 RX12 (some .int)) (hn : 256 ≤ n) (σ : ml_St) (ls : Array Slot) (hl : lv_has ls 9 []) (hw : f_X12_many_u32 Q σ) : ml_V p l e rm_X12_many s m args below meth c (MQ below (ml_Qi I32 base D cA n Q) args s 0 0 (ml_A base)) base D cA 0 0 n n σ (F0 m 32 ls []) := by
  unfold f_X12_many_u32 at hw
  refine ml_iconst (pc := 32) X dX12_many_32 ?_
  exact ml_iret (pc := 33) X ⟨by decide, by decide⟩ hw dX12_many_33
set_option maxRecDepth 100000 in
set_option maxHeartbeats 4000000 in
theorem u_X12_many_41 {p : Program} {e : Env} {s : State} {m : MethodId} {args : Array Value} {below : List Frame} {meth : Method} {c : Code} {base : Nat} {D : va_G} {cA : Nat → ClassId} {n : Nat} {l : Launch} {Q : Int → ml_St → Prop} {K66 : ml_St → Int → Int → Prop} (X : ml_X p s m c meth args D cA cX12_many 9 RX12 (some .int)) (hn : 256 ≤ n) (hK66 : ∀ (σ : ml_St) (x2 : Int) (x3 : Int) (h_x2 : I32 x2) (h_x3 : I32 x3) (ls : Array Slot), lv_has ls 9 [(0, .ref (base + (215 : Int).toNat)), (2, .int (Int32.ofInt x2)), (3, .int (Int32.ofInt x3))] → K66 σ x2 x3 → ml_V p l e rm_X12_many s m args below meth c (MQ below (ml_Qi I32 base D cA n Q) args s 0 0 (ml_A base)) base D cA 0 0 n n σ (F0 m 66 ls [])) : ∀ (N : Nat) (σ : ml_St) (x2 : Int) (x3 : Int) (x4 : Int) (h_x2 : I32 x2) (h_x3 : I32 x3) (h_x4 : I32 x4) (ls : Array Slot), lv_has ls 9 [(0, .ref (base + (215 : Int).toNat)), (2, .int (Int32.ofInt x2)), (3, .int (Int32.ofInt x3)), (4, .int (Int32.ofInt x4))] → f_X12_many_u41 Q K66 N σ x2 x3 x4 → ml_V p l e rm_X12_many s m args below meth c (MQ below (ml_Qi I32 base D cA n Q) args s 0 0 (ml_A base)) base D cA 0 0 n n σ (F0 m 41 ls []) := by
  intro N
  induction N with
  | zero => intro σ x2 x3 x4 h_x2 h_x3 h_x4 ls hl hw; exact False.elim hw
  | succ N ih =>
    intro σ x2 x3 x4 h_x2 h_x3 h_x4 ls hl hw
    unfold f_X12_many_u41 at hw
    refine ml_iload (pc := 41) X hl 3 rfl dX12_many_41 ?_
    refine ml_iconst (pc := 43) X dX12_many_43 ?_
    refine ml_aload_n (pc := 44) X hl 0 rfl rfl dX12_many_44 ?_
    refine gf_X12_367 (pc := 45) X (ml_c215 hn) dX12_many_45 (fun r1 => ?_)
    have hw := hw r1
    obtain ⟨v2, hw⟩ := hw
    refine ml_imul (pc := 48) X dX12_many_48 ?_
    refine ml_icmp_ge (pc := 49) (tgt := 66) X h_x4 v2 dX12_many_49 (by decide) (fun c3 => ?_) (fun c3 => ?_)
    · have hw := hw.1 c3
      exact hK66 σ x2 x3 h_x2 h_x3 _ (lv_sub hl [0, 1, 2] rfl) hw
    · have hw := hw.2 c3
      refine ml_aload_n (pc := 52) X hl 0 rfl rfl dX12_many_52 ?_
      refine gf_X12_101 (pc := 53) X (ml_c215 hn) dX12_many_53 ?_
      refine ml_iload (pc := 56) X hl 3 rfl dX12_many_56 ?_
      refine ml_lconst0 (pc := 58) X dX12_many_58 ?_
      obtain ⟨a4, b4, hw⟩ := hw
      refine ml_last (pc := 59) (N := 3800) X (ml_c244 hn) a4 b4 ⟨by decide, by decide⟩ dX12_many_59 (fun σ4 g4 => ?_)
      have hw := hw σ4 g4
      obtain ⟨v5, hw⟩ := hw
      obtain ⟨y5, e5⟩ : ∃ y : Int, y = x4 + 1 := ⟨_, rfl⟩
      have hw := hw y5 e5
      rw [← e5] at v5
      refine ml_iinc (pc := 60) X e5 hl 3 rfl (by decide) (lst' := [(4, .int (Int32.ofInt y5)), (0, .ref (base + (215 : Int).toNat)), (2, .int (Int32.ofInt x2)), (3, .int (Int32.ofInt x3))]) rfl dX12_many_60 (fun ls hl => ?_)
      refine ml_goto (pc := 63) (tgt := 41) X dX12_many_63 (by decide) ?_
      exact ih σ4 x2 x3 y5 h_x2 h_x3 v5 _ (lv_sub hl [1, 2, 3, 0] rfl) hw
set_option maxRecDepth 100000 in
set_option maxHeartbeats 4000000 in
theorem u_X12_many_129 {p : Program} {e : Env} {s : State} {m : MethodId} {args : Array Value} {below : List Frame} {meth : Method} {c : Code} {base : Nat} {D : va_G} {cA : Nat → ClassId} {n : Nat} {l : Launch} {Q : Int → ml_St → Prop} {K69 : ml_St → Int → Int → Int → Prop} (X : ml_X p s m c meth args D cA cX12_many 9 RX12 (some .int)) (hn : 256 ≤ n) (hK69 : ∀ (σ : ml_St) (x2 : Int) (x3 : Int) (x4 : Int) (h_x2 : I32 x2) (h_x3 : I32 x3) (h_x4 : I32 x4) (ls : Array Slot), lv_has ls 9 [(0, .ref (base + (215 : Int).toNat)), (2, .int (Int32.ofInt x2)), (3, .int (Int32.ofInt x3)), (4, .int (Int32.ofInt x4))] → K69 σ x2 x3 x4 → ml_V p l e rm_X12_many s m args below meth c (MQ below (ml_Qi I32 base D cA n Q) args s 0 0 (ml_A base)) base D cA 0 0 n n σ (F0 m 69 ls [])) (σ : ml_St) (x2 : Int) (x3 : Int) (x4 : Int) (h_x2 : I32 x2) (h_x3 : I32 x3) (h_x4 : I32 x4) (ls : Array Slot) (hl : lv_has ls 9 [(0, .ref (base + (215 : Int).toNat)), (2, .int (Int32.ofInt x2)), (3, .int (Int32.ofInt x3)), (4, .int (Int32.ofInt x4))]) (hw : f_X12_many_u129 Q K69 σ x2 x3 x4) : ml_V p l e rm_X12_many s m args below meth c (MQ below (ml_Qi I32 base D cA n Q) args s 0 0 (ml_A base)) base D cA 0 0 n n σ (F0 m 129 ls []) := by
  unfold f_X12_many_u129 at hw
  obtain ⟨v1, hw⟩ := hw
  obtain ⟨y1, e1⟩ : ∃ y : Int, y = x4 + 1 := ⟨_, rfl⟩
  have hw := hw y1 e1
  rw [← e1] at v1
  refine ml_iinc (pc := 129) X e1 hl 3 rfl (by decide) (lst' := [(4, .int (Int32.ofInt y1)), (0, .ref (base + (215 : Int).toNat)), (2, .int (Int32.ofInt x2)), (3, .int (Int32.ofInt x3))]) rfl dX12_many_129 (fun ls hl => ?_)
  refine ml_goto (pc := 132) (tgt := 69) X dX12_many_132 (by decide) ?_
  exact hK69 σ x2 x3 y1 h_x2 h_x3 v1 _ (lv_sub hl [1, 2, 3, 0] rfl) hw
set_option maxRecDepth 100000 in
set_option maxHeartbeats 4000000 in
theorem u_X12_many_69 {p : Program} {e : Env} {s : State} {m : MethodId} {args : Array Value} {below : List Frame} {meth : Method} {c : Code} {base : Nat} {D : va_G} {cA : Nat → ClassId} {n : Nat} {l : Launch} {Q : Int → ml_St → Prop} {K135 : ml_St → Int → Int → Prop} (X : ml_X p s m c meth args D cA cX12_many 9 RX12 (some .int)) (hn : 256 ≤ n) (hK135 : ∀ (σ : ml_St) (x2 : Int) (x3 : Int) (h_x2 : I32 x2) (h_x3 : I32 x3) (ls : Array Slot), lv_has ls 9 [(0, .ref (base + (215 : Int).toNat)), (2, .int (Int32.ofInt x2)), (3, .int (Int32.ofInt x3))] → K135 σ x2 x3 → ml_V p l e rm_X12_many s m args below meth c (MQ below (ml_Qi I32 base D cA n Q) args s 0 0 (ml_A base)) base D cA 0 0 n n σ (F0 m 135 ls [])) : ∀ (N : Nat) (σ : ml_St) (x2 : Int) (x3 : Int) (x4 : Int) (h_x2 : I32 x2) (h_x3 : I32 x3) (h_x4 : I32 x4) (ls : Array Slot), lv_has ls 9 [(0, .ref (base + (215 : Int).toNat)), (2, .int (Int32.ofInt x2)), (3, .int (Int32.ofInt x3)), (4, .int (Int32.ofInt x4))] → f_X12_many_u69 Q K135 N σ x2 x3 x4 → ml_V p l e rm_X12_many s m args below meth c (MQ below (ml_Qi I32 base D cA n Q) args s 0 0 (ml_A base)) base D cA 0 0 n n σ (F0 m 69 ls []) := by
  intro N
  induction N with
  | zero => intro σ x2 x3 x4 h_x2 h_x3 h_x4 ls hl hw; exact False.elim hw
  | succ N ih =>
    intro σ x2 x3 x4 h_x2 h_x3 h_x4 ls hl hw
    unfold f_X12_many_u69 at hw
    refine ml_iload (pc := 69) X hl 3 rfl dX12_many_69 ?_
    refine ml_aload_n (pc := 71) X hl 0 rfl rfl dX12_many_71 ?_
    refine gf_X12_364 (pc := 72) X (ml_c215 hn) dX12_many_72 (fun r1 => ?_)
    have hw := hw r1
    refine ml_icmp_ge (pc := 75) (tgt := 135) X h_x4 r1 dX12_many_75 (by decide) (fun c2 => ?_) (fun c2 => ?_)
    · have hw := hw.1 c2
      exact hK135 σ x2 x3 h_x2 h_x3 _ (lv_sub hl [0, 1, 2] rfl) hw
    · have hw := hw.2 c2
      refine ml_aload_n (pc := 78) X hl 0 rfl rfl dX12_many_78 ?_
      refine gf_X12_55 (pc := 79) X (ml_c215 hn) dX12_many_79 ?_
      refine ml_aload_n (pc := 82) X hl 0 rfl rfl dX12_many_82 ?_
      refine gf_X12_80 (pc := 83) X (ml_c215 hn) dX12_many_83 ?_
      refine ml_iload (pc := 86) X hl 3 rfl dX12_many_86 ?_
      obtain ⟨a3, b3, hw⟩ := hw
      refine ml_iald (pc := 88) (N := 6) X (ml_c237 hn) a3 b3 dX12_many_88 (fun r3 => ?_)
      have hw := hw r3
      obtain ⟨a4, b4, hw⟩ := hw
      refine ml_lald (pc := 89) (N := 64) X (ml_c229 hn) a4 b4 dX12_many_89 (fun r4 => ?_)
      have hw := hw r4
      refine ml_ldc2 (pc := 90) (v := 4) X dX12_many_90 tc_6_173 ?_
      refine ml_lcmp_ge (pc := 93) (tgt := 129) X r4 ⟨by decide, by decide⟩ dX12_many_93 dX12_many_94 (by decide) (fun c5 => ?_) (fun c5 => ?_)
      · have hw := hw.1 c5
        exact u_X12_many_129 X hn ih σ x2 x3 x4 h_x2 h_x3 h_x4 _ (lv_sub hl [0, 1, 2, 3] rfl) hw
      · have hw := hw.2 c5
        refine ml_aload_n (pc := 97) X hl 0 rfl rfl dX12_many_97 ?_
        refine gf_X12_101 (pc := 98) X (ml_c215 hn) dX12_many_98 ?_
        refine ml_iconst (pc := 101) X dX12_many_101 ?_
        refine ml_aload_n (pc := 102) X hl 0 rfl rfl dX12_many_102 ?_
        refine gf_X12_95 (pc := 103) X (ml_c215 hn) dX12_many_103 ?_
        refine ml_iload (pc := 106) X hl 3 rfl dX12_many_106 ?_
        obtain ⟨a6, b6, hw⟩ := hw
        refine ml_iald (pc := 108) (N := 6) X (ml_c242 hn) a6 b6 dX12_many_108 (fun r6 => ?_)
        have hw := hw r6
        obtain ⟨v7, hw⟩ := hw
        refine ml_imul (pc := 109) X dX12_many_109 ?_
        refine ml_aload_n (pc := 110) X hl 0 rfl rfl dX12_many_110 ?_
        refine gf_X12_55 (pc := 111) X (ml_c215 hn) dX12_many_111 ?_
        refine ml_aload_n (pc := 114) X hl 0 rfl rfl dX12_many_114 ?_
        refine gf_X12_80 (pc := 115) X (ml_c215 hn) dX12_many_115 ?_
        refine ml_iload (pc := 118) X hl 3 rfl dX12_many_118 ?_
        obtain ⟨a8, b8, hw⟩ := hw
        refine ml_iald (pc := 120) (N := 6) X (ml_c237 hn) a8 b8 dX12_many_120 (fun r8 => ?_)
        have hw := hw r8
        obtain ⟨a9, b9, hw⟩ := hw
        refine ml_lald (pc := 121) (N := 64) X (ml_c229 hn) a9 b9 dX12_many_121 (fun r9 => ?_)
        have hw := hw r9
        refine ml_l2i (pc := 122) X dX12_many_122 ?_
        obtain ⟨v10, hw⟩ := hw
        refine ml_iadd (pc := 123) X dX12_many_123 ?_
        refine ml_dup2 (pc := 124) X dX12_many_124 rfl rfl ?_
        obtain ⟨a11, b11, hw⟩ := hw
        refine ml_lald (pc := 125) (N := 3800) X (ml_c244 hn) a11 b11 dX12_many_125 (fun r11 => ?_)
        have hw := hw r11
        refine ml_lconst1 (pc := 126) X dX12_many_126 ?_
        obtain ⟨v12, hw⟩ := hw
        refine ml_ladd (pc := 127) X dX12_many_127 ?_
        obtain ⟨a13, b13, hw⟩ := hw
        refine ml_last (pc := 128) (N := 3800) X (ml_c244 hn) a13 b13 v12 dX12_many_128 (fun σ13 g13 => ?_)
        have hw := hw σ13 g13
        exact u_X12_many_129 X hn ih σ13 x2 x3 x4 h_x2 h_x3 h_x4 _ (lv_sub hl [0, 1, 2, 3] rfl) hw
set_option maxRecDepth 100000 in
set_option maxHeartbeats 4000000 in
theorem u_X12_many_147 {p : Program} {e : Env} {s : State} {m : MethodId} {args : Array Value} {below : List Frame} {meth : Method} {c : Code} {base : Nat} {D : va_G} {cA : Nat → ClassId} {n : Nat} {l : Launch} {Q : Int → ml_St → Prop} {K172 : ml_St → Int → Int → Int → Prop} (X : ml_X p s m c meth args D cA cX12_many 9 RX12 (some .int)) (hn : 256 ≤ n) (hK172 : ∀ (σ : ml_St) (x2 : Int) (x3 : Int) (x4 : Int) (h_x2 : I32 x2) (h_x3 : I32 x3) (h_x4 : I32 x4) (ls : Array Slot), lv_has ls 9 [(0, .ref (base + (215 : Int).toNat)), (2, .int (Int32.ofInt x2)), (3, .int (Int32.ofInt x3)), (4, .int (Int32.ofInt x4))] → K172 σ x2 x3 x4 → ml_V p l e rm_X12_many s m args below meth c (MQ below (ml_Qi I32 base D cA n Q) args s 0 0 (ml_A base)) base D cA 0 0 n n σ (F0 m 172 ls [])) : ∀ (N : Nat) (σ : ml_St) (x2 : Int) (x3 : Int) (x4 : Int) (x5 : Int) (h_x2 : I32 x2) (h_x3 : I32 x3) (h_x4 : I32 x4) (h_x5 : I32 x5) (ls : Array Slot), lv_has ls 9 [(0, .ref (base + (215 : Int).toNat)), (2, .int (Int32.ofInt x2)), (3, .int (Int32.ofInt x3)), (4, .int (Int32.ofInt x4)), (5, .int (Int32.ofInt x5))] → f_X12_many_u147 Q K172 N σ x2 x3 x4 x5 → ml_V p l e rm_X12_many s m args below meth c (MQ below (ml_Qi I32 base D cA n Q) args s 0 0 (ml_A base)) base D cA 0 0 n n σ (F0 m 147 ls []) := by
  intro N
  induction N with
  | zero => intro σ x2 x3 x4 x5 h_x2 h_x3 h_x4 h_x5 ls hl hw; exact False.elim hw
  | succ N ih =>
    intro σ x2 x3 x4 x5 h_x2 h_x3 h_x4 h_x5 ls hl hw
    unfold f_X12_many_u147 at hw
    refine ml_iload (pc := 147) X hl 4 rfl dX12_many_147 ?_
    refine ml_iconst (pc := 149) X dX12_many_149 ?_
    refine ml_aload_n (pc := 150) X hl 0 rfl rfl dX12_many_150 ?_
    refine gf_X12_367 (pc := 151) X (ml_c215 hn) dX12_many_151 (fun r1 => ?_)
    have hw := hw r1
    obtain ⟨v2, hw⟩ := hw
    refine ml_imul (pc := 154) X dX12_many_154 ?_
    refine ml_icmp_ge (pc := 155) (tgt := 172) X h_x5 v2 dX12_many_155 (by decide) (fun c3 => ?_) (fun c3 => ?_)
    · have hw := hw.1 c3
      exact hK172 σ x2 x3 x4 h_x2 h_x3 h_x4 _ (lv_sub hl [0, 1, 2, 3] rfl) hw
    · have hw := hw.2 c3
      refine ml_aload_n (pc := 158) X hl 0 rfl rfl dX12_many_158 ?_
      refine gf_X12_104 (pc := 159) X (ml_c215 hn) dX12_many_159 ?_
      refine ml_iload (pc := 162) X hl 4 rfl dX12_many_162 ?_
      refine ml_lconst0 (pc := 164) X dX12_many_164 ?_
      obtain ⟨a4, b4, hw⟩ := hw
      refine ml_last (pc := 165) (N := 3800) X (ml_c245 hn) a4 b4 ⟨by decide, by decide⟩ dX12_many_165 (fun σ4 g4 => ?_)
      have hw := hw σ4 g4
      obtain ⟨v5, hw⟩ := hw
      obtain ⟨y5, e5⟩ : ∃ y : Int, y = x5 + 1 := ⟨_, rfl⟩
      have hw := hw y5 e5
      rw [← e5] at v5
      refine ml_iinc (pc := 166) X e5 hl 4 rfl (by decide) (lst' := [(5, .int (Int32.ofInt y5)), (0, .ref (base + (215 : Int).toNat)), (2, .int (Int32.ofInt x2)), (3, .int (Int32.ofInt x3)), (4, .int (Int32.ofInt x4))]) rfl dX12_many_166 (fun ls hl => ?_)
      refine ml_goto (pc := 169) (tgt := 147) X dX12_many_169 (by decide) ?_
      exact ih σ4 x2 x3 x4 y5 h_x2 h_x3 h_x4 v5 _ (lv_sub hl [1, 2, 3, 4, 0] rfl) hw
set_option maxRecDepth 100000 in
set_option maxHeartbeats 4000000 in
theorem u_X12_many_286 {p : Program} {e : Env} {s : State} {m : MethodId} {args : Array Value} {below : List Frame} {meth : Method} {c : Code} {base : Nat} {D : va_G} {cA : Nat → ClassId} {n : Nat} {l : Launch} {Q : Int → ml_St → Prop} {K189 : ml_St → Int → Int → Int → Int → Int → Prop} (X : ml_X p s m c meth args D cA cX12_many 9 RX12 (some .int)) (hn : 256 ≤ n) (hK189 : ∀ (σ : ml_St) (x2 : Int) (x3 : Int) (x4 : Int) (x5 : Int) (x6 : Int) (h_x2 : I32 x2) (h_x3 : I32 x3) (h_x4 : I32 x4) (h_x5 : I32 x5) (h_x6 : I32 x6) (ls : Array Slot), lv_has ls 9 [(0, .ref (base + (215 : Int).toNat)), (2, .int (Int32.ofInt x2)), (3, .int (Int32.ofInt x3)), (4, .int (Int32.ofInt x4)), (5, .int (Int32.ofInt x5)), (6, .int (Int32.ofInt x6))] → K189 σ x2 x3 x4 x5 x6 → ml_V p l e rm_X12_many s m args below meth c (MQ below (ml_Qi I32 base D cA n Q) args s 0 0 (ml_A base)) base D cA 0 0 n n σ (F0 m 189 ls [])) (σ : ml_St) (x2 : Int) (x3 : Int) (x4 : Int) (x5 : Int) (x6 : Int) (h_x2 : I32 x2) (h_x3 : I32 x3) (h_x4 : I32 x4) (h_x5 : I32 x5) (h_x6 : I32 x6) (ls : Array Slot) (hl : lv_has ls 9 [(0, .ref (base + (215 : Int).toNat)), (2, .int (Int32.ofInt x2)), (3, .int (Int32.ofInt x3)), (4, .int (Int32.ofInt x4)), (5, .int (Int32.ofInt x5)), (6, .int (Int32.ofInt x6))]) (hw : f_X12_many_u286 Q K189 σ x2 x3 x4 x5 x6) : ml_V p l e rm_X12_many s m args below meth c (MQ below (ml_Qi I32 base D cA n Q) args s 0 0 (ml_A base)) base D cA 0 0 n n σ (F0 m 286 ls []) := by
  unfold f_X12_many_u286 at hw
  obtain ⟨v1, hw⟩ := hw
  obtain ⟨y1, e1⟩ : ∃ y : Int, y = x6 + 1 := ⟨_, rfl⟩
  have hw := hw y1 e1
  rw [← e1] at v1
  refine ml_iinc (pc := 286) X e1 hl 5 rfl (by decide) (lst' := [(6, .int (Int32.ofInt y1)), (0, .ref (base + (215 : Int).toNat)), (2, .int (Int32.ofInt x2)), (3, .int (Int32.ofInt x3)), (4, .int (Int32.ofInt x4)), (5, .int (Int32.ofInt x5))]) rfl dX12_many_286 (fun ls hl => ?_)
  refine ml_goto (pc := 289) (tgt := 189) X dX12_many_289 (by decide) ?_
  exact hK189 σ x2 x3 x4 x5 y1 h_x2 h_x3 h_x4 h_x5 v1 _ (lv_sub hl [1, 2, 3, 4, 5, 0] rfl) hw
set_option maxRecDepth 100000 in
set_option maxHeartbeats 4000000 in
theorem u_X12_many_189 {p : Program} {e : Env} {s : State} {m : MethodId} {args : Array Value} {below : List Frame} {meth : Method} {c : Code} {base : Nat} {D : va_G} {cA : Nat → ClassId} {n : Nat} {l : Launch} {Q : Int → ml_St → Prop} {K292 : ml_St → Int → Int → Int → Int → Prop} (X : ml_X p s m c meth args D cA cX12_many 9 RX12 (some .int)) (hn : 256 ≤ n) (hK292 : ∀ (σ : ml_St) (x2 : Int) (x3 : Int) (x4 : Int) (x5 : Int) (h_x2 : I32 x2) (h_x3 : I32 x3) (h_x4 : I32 x4) (h_x5 : I32 x5) (ls : Array Slot), lv_has ls 9 [(0, .ref (base + (215 : Int).toNat)), (2, .int (Int32.ofInt x2)), (3, .int (Int32.ofInt x3)), (4, .int (Int32.ofInt x4)), (5, .int (Int32.ofInt x5))] → K292 σ x2 x3 x4 x5 → ml_V p l e rm_X12_many s m args below meth c (MQ below (ml_Qi I32 base D cA n Q) args s 0 0 (ml_A base)) base D cA 0 0 n n σ (F0 m 292 ls [])) : ∀ (N : Nat) (σ : ml_St) (x2 : Int) (x3 : Int) (x4 : Int) (x5 : Int) (x6 : Int) (h_x2 : I32 x2) (h_x3 : I32 x3) (h_x4 : I32 x4) (h_x5 : I32 x5) (h_x6 : I32 x6) (ls : Array Slot), lv_has ls 9 [(0, .ref (base + (215 : Int).toNat)), (2, .int (Int32.ofInt x2)), (3, .int (Int32.ofInt x3)), (4, .int (Int32.ofInt x4)), (5, .int (Int32.ofInt x5)), (6, .int (Int32.ofInt x6))] → f_X12_many_u189 Q K292 N σ x2 x3 x4 x5 x6 → ml_V p l e rm_X12_many s m args below meth c (MQ below (ml_Qi I32 base D cA n Q) args s 0 0 (ml_A base)) base D cA 0 0 n n σ (F0 m 189 ls []) := by
  intro N
  induction N with
  | zero => intro σ x2 x3 x4 x5 x6 h_x2 h_x3 h_x4 h_x5 h_x6 ls hl hw; exact False.elim hw
  | succ N ih =>
    intro σ x2 x3 x4 x5 x6 h_x2 h_x3 h_x4 h_x5 h_x6 ls hl hw
    unfold f_X12_many_u189 at hw
    refine ml_iload (pc := 189) X hl 5 rfl dX12_many_189 ?_
    refine ml_aload_n (pc := 191) X hl 0 rfl rfl dX12_many_191 ?_
    refine gf_X12_364 (pc := 192) X (ml_c215 hn) dX12_many_192 (fun r1 => ?_)
    have hw := hw r1
    refine ml_icmp_ge (pc := 195) (tgt := 292) X h_x6 r1 dX12_many_195 (by decide) (fun c2 => ?_) (fun c2 => ?_)
    · have hw := hw.1 c2
      exact hK292 σ x2 x3 x4 x5 h_x2 h_x3 h_x4 h_x5 _ (lv_sub hl [0, 1, 2, 3, 4] rfl) hw
    · have hw := hw.2 c2
      refine ml_aload_n (pc := 198) X hl 0 rfl rfl dX12_many_198 ?_
      refine gf_X12_101 (pc := 199) X (ml_c215 hn) dX12_many_199 ?_
      refine ml_iload (pc := 202) X hl 4 rfl dX12_many_202 ?_
      obtain ⟨a3, b3, hw⟩ := hw
      refine ml_lald (pc := 204) (N := 3800) X (ml_c244 hn) a3 b3 dX12_many_204 (fun r3 => ?_)
      have hw := hw r3
      refine ml_lconst0 (pc := 205) X dX12_many_205 ?_
      refine ml_lcmp_le (pc := 206) (tgt := 292) X r3 ⟨by decide, by decide⟩ dX12_many_206 dX12_many_207 (by decide) (fun c4 => ?_) (fun c4 => ?_)
      · have hw := hw.1 c4
        exact hK292 σ x2 x3 x4 x5 h_x2 h_x3 h_x4 h_x5 _ (lv_sub hl [0, 1, 2, 3, 4] rfl) hw
      · have hw := hw.2 c4
        refine ml_iload (pc := 210) X hl 4 rfl dX12_many_210 ?_
        refine ml_iconst (pc := 212) X dX12_many_212 ?_
        obtain ⟨z5, v5, hw⟩ := hw
        refine ml_irem (pc := 213) X h_x5 ⟨by decide, by decide⟩ z5 dX12_many_213 ?_
        refine ml_aload_n (pc := 214) X hl 0 rfl rfl dX12_many_214 ?_
        refine gf_X12_92 (pc := 215) X (ml_c215 hn) dX12_many_215 ?_
        refine ml_bipush (pc := 218) X dX12_many_218 (by decide) ?_
        refine ml_iload (pc := 220) X hl 4 rfl dX12_many_220 ?_
        refine ml_iconst (pc := 222) X dX12_many_222 ?_
        obtain ⟨z6, v6, hw⟩ := hw
        refine ml_idiv (pc := 223) X h_x5 ⟨by decide, by decide⟩ z6 dX12_many_223 ?_
        obtain ⟨v7, hw⟩ := hw
        refine ml_imul (pc := 224) X dX12_many_224 ?_
        refine ml_iload (pc := 225) X hl 5 rfl dX12_many_225 ?_
        obtain ⟨v8, hw⟩ := hw
        refine ml_iadd (pc := 227) X dX12_many_227 ?_
        obtain ⟨a9, b9, hw⟩ := hw
        refine ml_iald (pc := 228) (N := 5700) X (ml_c241 hn) a9 b9 dX12_many_228 (fun r9 => ?_)
        have hw := hw r9
        obtain ⟨v10, hw⟩ := hw
        refine ml_iadd (pc := 229) X dX12_many_229 ?_
        refine ml_topI (pc := 230) (fun y11 e11 => ?_)
        have hw := hw y11 e11
        have q11 : I32 y11 := by rw [e11]; exact v10
        refine ml_istore (pc := 230) X hl (by decide) (lst' := [(7, .int (Int32.ofInt y11)), (0, .ref (base + (215 : Int).toNat)), (2, .int (Int32.ofInt x2)), (3, .int (Int32.ofInt x3)), (4, .int (Int32.ofInt x4)), (5, .int (Int32.ofInt x5)), (6, .int (Int32.ofInt x6))]) rfl dX12_many_230 (fun ls hl => ?_)
        refine ml_iconst (pc := 232) X dX12_many_232 ?_
        refine ml_aload_n (pc := 233) X hl 1 rfl rfl dX12_many_233 ?_
        refine gf_X12_89 (pc := 234) X (ml_c215 hn) dX12_many_234 ?_
        refine ml_bipush (pc := 237) X dX12_many_237 (by decide) ?_
        refine ml_iload (pc := 239) X hl 5 rfl dX12_many_239 ?_
        refine ml_iconst (pc := 241) X dX12_many_241 ?_
        obtain ⟨z12, v12, hw⟩ := hw
        refine ml_idiv (pc := 242) X h_x5 ⟨by decide, by decide⟩ z12 dX12_many_242 ?_
        obtain ⟨v13, hw⟩ := hw
        refine ml_imul (pc := 243) X dX12_many_243 ?_
        refine ml_iload (pc := 244) X hl 6 rfl dX12_many_244 ?_
        obtain ⟨v14, hw⟩ := hw
        refine ml_iadd (pc := 246) X dX12_many_246 ?_
        obtain ⟨a15, b15, hw⟩ := hw
        refine ml_iald (pc := 247) (N := 5700) X (ml_c240 hn) a15 b15 dX12_many_247 (fun r15 => ?_)
        have hw := hw r15
        obtain ⟨v16, hw⟩ := hw
        refine ml_imul (pc := 248) X dX12_many_248 ?_
        refine ml_iload (pc := 249) X hl 0 rfl dX12_many_249 ?_
        obtain ⟨v17, hw⟩ := hw
        refine ml_iadd (pc := 251) X dX12_many_251 ?_
        refine ml_topI (pc := 252) (fun y18 e18 => ?_)
        have hw := hw y18 e18
        have q18 : I32 y18 := by rw [e18]; exact v17
        refine ml_istore (pc := 252) X hl (by decide) (lst' := [(8, .int (Int32.ofInt y18)), (7, .int (Int32.ofInt y11)), (0, .ref (base + (215 : Int).toNat)), (2, .int (Int32.ofInt x2)), (3, .int (Int32.ofInt x3)), (4, .int (Int32.ofInt x4)), (5, .int (Int32.ofInt x5)), (6, .int (Int32.ofInt x6))]) rfl dX12_many_252 (fun ls hl => ?_)
        refine ml_iload (pc := 254) X hl 1 rfl dX12_many_254 ?_
        refine ml_iconst (pc := 256) X dX12_many_256 ?_
        refine ml_icmp_ge (pc := 257) (tgt := 286) X q11 ⟨by decide, by decide⟩ dX12_many_257 (by decide) (fun c19 => ?_) (fun c19 => ?_)
        · have hw := hw.1 c19
          exact u_X12_many_286 X hn ih σ x2 x3 x4 x5 x6 h_x2 h_x3 h_x4 h_x5 h_x6 _ (lv_sub hl [2, 3, 4, 5, 6, 7] rfl) hw
        · have hw := hw.2 c19
          refine ml_aload_n (pc := 260) X hl 2 rfl rfl dX12_many_260 ?_
          refine gf_X12_104 (pc := 261) X (ml_c215 hn) dX12_many_261 ?_
          refine ml_iload (pc := 264) X hl 0 rfl dX12_many_264 ?_
          refine ml_aload_n (pc := 266) X hl 2 rfl rfl dX12_many_266 ?_
          refine gf_X12_104 (pc := 267) X (ml_c215 hn) dX12_many_267 ?_
          refine ml_iload (pc := 270) X hl 0 rfl dX12_many_270 ?_
          obtain ⟨a20, b20, hw⟩ := hw
          refine ml_lald (pc := 272) (N := 3800) X (ml_c245 hn) a20 b20 dX12_many_272 (fun r20 => ?_)
          have hw := hw r20
          refine ml_aload_n (pc := 273) X hl 2 rfl rfl dX12_many_273 ?_
          refine gf_X12_101 (pc := 274) X (ml_c215 hn) dX12_many_274 ?_
          refine ml_iload (pc := 277) X hl 6 rfl dX12_many_277 ?_
          obtain ⟨a21, b21, hw⟩ := hw
          refine ml_lald (pc := 279) (N := 3800) X (ml_c244 hn) a21 b21 dX12_many_279 (fun r21 => ?_)
          have hw := hw r21
          obtain ⟨v22, hw⟩ := hw
          refine ml_ladd (pc := 280) X dX12_many_280 ?_
          refine ml_ldc2 (pc := 281) (v := 998244353) X dX12_many_281 tc_6_174 ?_
          obtain ⟨z23, v23, hw⟩ := hw
          refine ml_lrem (pc := 284) X v22 ⟨by decide, by decide⟩ z23 dX12_many_284 ?_
          obtain ⟨a24, b24, hw⟩ := hw
          refine ml_last (pc := 285) (N := 3800) X (ml_c245 hn) a24 b24 v23 dX12_many_285 (fun σ24 g24 => ?_)
          have hw := hw σ24 g24
          exact u_X12_many_286 X hn ih σ24 x2 x3 x4 x5 x6 h_x2 h_x3 h_x4 h_x5 h_x6 _ (lv_sub hl [2, 3, 4, 5, 6, 7] rfl) hw
set_option maxRecDepth 100000 in
set_option maxHeartbeats 4000000 in
theorem u_X12_many_292 {p : Program} {e : Env} {s : State} {m : MethodId} {args : Array Value} {below : List Frame} {meth : Method} {c : Code} {base : Nat} {D : va_G} {cA : Nat → ClassId} {n : Nat} {l : Launch} {Q : Int → ml_St → Prop} {K175 : ml_St → Int → Int → Int → Int → Prop} (X : ml_X p s m c meth args D cA cX12_many 9 RX12 (some .int)) (hn : 256 ≤ n) (hK175 : ∀ (σ : ml_St) (x2 : Int) (x3 : Int) (x4 : Int) (x5 : Int) (h_x2 : I32 x2) (h_x3 : I32 x3) (h_x4 : I32 x4) (h_x5 : I32 x5) (ls : Array Slot), lv_has ls 9 [(0, .ref (base + (215 : Int).toNat)), (2, .int (Int32.ofInt x2)), (3, .int (Int32.ofInt x3)), (4, .int (Int32.ofInt x4)), (5, .int (Int32.ofInt x5))] → K175 σ x2 x3 x4 x5 → ml_V p l e rm_X12_many s m args below meth c (MQ below (ml_Qi I32 base D cA n Q) args s 0 0 (ml_A base)) base D cA 0 0 n n σ (F0 m 175 ls [])) (σ : ml_St) (x2 : Int) (x3 : Int) (x4 : Int) (x5 : Int) (h_x2 : I32 x2) (h_x3 : I32 x3) (h_x4 : I32 x4) (h_x5 : I32 x5) (ls : Array Slot) (hl : lv_has ls 9 [(0, .ref (base + (215 : Int).toNat)), (2, .int (Int32.ofInt x2)), (3, .int (Int32.ofInt x3)), (4, .int (Int32.ofInt x4)), (5, .int (Int32.ofInt x5))]) (hw : f_X12_many_u292 Q K175 σ x2 x3 x4 x5) : ml_V p l e rm_X12_many s m args below meth c (MQ below (ml_Qi I32 base D cA n Q) args s 0 0 (ml_A base)) base D cA 0 0 n n σ (F0 m 292 ls []) := by
  unfold f_X12_many_u292 at hw
  obtain ⟨v1, hw⟩ := hw
  obtain ⟨y1, e1⟩ : ∃ y : Int, y = x5 + 1 := ⟨_, rfl⟩
  have hw := hw y1 e1
  rw [← e1] at v1
  refine ml_iinc (pc := 292) X e1 hl 4 rfl (by decide) (lst' := [(5, .int (Int32.ofInt y1)), (0, .ref (base + (215 : Int).toNat)), (2, .int (Int32.ofInt x2)), (3, .int (Int32.ofInt x3)), (4, .int (Int32.ofInt x4))]) rfl dX12_many_292 (fun ls hl => ?_)
  refine ml_goto (pc := 295) (tgt := 175) X dX12_many_295 (by decide) ?_
  exact hK175 σ x2 x3 x4 y1 h_x2 h_x3 h_x4 v1 _ (lv_sub hl [1, 2, 3, 4, 0] rfl) hw
set_option maxRecDepth 100000 in
set_option maxHeartbeats 4000000 in
theorem u_X12_many_175 {p : Program} {e : Env} {s : State} {m : MethodId} {args : Array Value} {below : List Frame} {meth : Method} {c : Code} {base : Nat} {D : va_G} {cA : Nat → ClassId} {n : Nat} {l : Launch} {Q : Int → ml_St → Prop} {K298 : ml_St → Int → Int → Int → Prop} (X : ml_X p s m c meth args D cA cX12_many 9 RX12 (some .int)) (hn : 256 ≤ n) (hK298 : ∀ (σ : ml_St) (x2 : Int) (x3 : Int) (x4 : Int) (h_x2 : I32 x2) (h_x3 : I32 x3) (h_x4 : I32 x4) (ls : Array Slot), lv_has ls 9 [(0, .ref (base + (215 : Int).toNat)), (2, .int (Int32.ofInt x2)), (3, .int (Int32.ofInt x3)), (4, .int (Int32.ofInt x4))] → K298 σ x2 x3 x4 → ml_V p l e rm_X12_many s m args below meth c (MQ below (ml_Qi I32 base D cA n Q) args s 0 0 (ml_A base)) base D cA 0 0 n n σ (F0 m 298 ls [])) : ∀ (N : Nat) (σ : ml_St) (x2 : Int) (x3 : Int) (x4 : Int) (x5 : Int) (h_x2 : I32 x2) (h_x3 : I32 x3) (h_x4 : I32 x4) (h_x5 : I32 x5) (ls : Array Slot), lv_has ls 9 [(0, .ref (base + (215 : Int).toNat)), (2, .int (Int32.ofInt x2)), (3, .int (Int32.ofInt x3)), (4, .int (Int32.ofInt x4)), (5, .int (Int32.ofInt x5))] → f_X12_many_u175 Q K298 N σ x2 x3 x4 x5 → ml_V p l e rm_X12_many s m args below meth c (MQ below (ml_Qi I32 base D cA n Q) args s 0 0 (ml_A base)) base D cA 0 0 n n σ (F0 m 175 ls []) := by
  intro N
  induction N with
  | zero => intro σ x2 x3 x4 x5 h_x2 h_x3 h_x4 h_x5 ls hl hw; exact False.elim hw
  | succ N ih =>
    intro σ x2 x3 x4 x5 h_x2 h_x3 h_x4 h_x5 ls hl hw
    unfold f_X12_many_u175 at hw
    refine ml_iload (pc := 175) X hl 4 rfl dX12_many_175 ?_
    refine ml_iconst (pc := 177) X dX12_many_177 ?_
    refine ml_aload_n (pc := 178) X hl 0 rfl rfl dX12_many_178 ?_
    refine gf_X12_367 (pc := 179) X (ml_c215 hn) dX12_many_179 (fun r1 => ?_)
    have hw := hw r1
    obtain ⟨v2, hw⟩ := hw
    refine ml_imul (pc := 182) X dX12_many_182 ?_
    refine ml_icmp_ge (pc := 183) (tgt := 298) X h_x5 v2 dX12_many_183 (by decide) (fun c3 => ?_) (fun c3 => ?_)
    · have hw := hw.1 c3
      exact hK298 σ x2 x3 x4 h_x2 h_x3 h_x4 _ (lv_sub hl [0, 1, 2, 3] rfl) hw
    · have hw := hw.2 c3
      refine ml_iconst (pc := 186) X dX12_many_186 ?_
      refine ml_istore (pc := 187) X hl (by decide) (lst' := [(6, .int (Int32.ofInt 0)), (0, .ref (base + (215 : Int).toNat)), (2, .int (Int32.ofInt x2)), (3, .int (Int32.ofInt x3)), (4, .int (Int32.ofInt x4)), (5, .int (Int32.ofInt x5))]) rfl dX12_many_187 (fun ls hl => ?_)
      obtain ⟨N0, hw⟩ := hw
      exact u_X12_many_189 X hn (fun σ x2 x3 x4 x5 h_x2 h_x3 h_x4 h_x5 ls hl hw => u_X12_many_292 X hn ih σ x2 x3 x4 x5 h_x2 h_x3 h_x4 h_x5 ls hl hw) N0 σ x2 x3 x4 x5 0 h_x2 h_x3 h_x4 h_x5 ⟨by decide, by decide⟩ _ (lv_sub hl [1, 2, 3, 4, 5, 0] rfl) hw
set_option maxRecDepth 100000 in
set_option maxHeartbeats 4000000 in
theorem u_X12_many_301 {p : Program} {e : Env} {s : State} {m : MethodId} {args : Array Value} {below : List Frame} {meth : Method} {c : Code} {base : Nat} {D : va_G} {cA : Nat → ClassId} {n : Nat} {l : Launch} {Q : Int → ml_St → Prop} {K332 : ml_St → Int → Int → Int → Prop} (X : ml_X p s m c meth args D cA cX12_many 9 RX12 (some .int)) (hn : 256 ≤ n) (hK332 : ∀ (σ : ml_St) (x2 : Int) (x3 : Int) (x4 : Int) (h_x2 : I32 x2) (h_x3 : I32 x3) (h_x4 : I32 x4) (ls : Array Slot), lv_has ls 9 [(0, .ref (base + (215 : Int).toNat)), (2, .int (Int32.ofInt x2)), (3, .int (Int32.ofInt x3)), (4, .int (Int32.ofInt x4))] → K332 σ x2 x3 x4 → ml_V p l e rm_X12_many s m args below meth c (MQ below (ml_Qi I32 base D cA n Q) args s 0 0 (ml_A base)) base D cA 0 0 n n σ (F0 m 332 ls [])) : ∀ (N : Nat) (σ : ml_St) (x2 : Int) (x3 : Int) (x4 : Int) (x5 : Int) (h_x2 : I32 x2) (h_x3 : I32 x3) (h_x4 : I32 x4) (h_x5 : I32 x5) (ls : Array Slot), lv_has ls 9 [(0, .ref (base + (215 : Int).toNat)), (2, .int (Int32.ofInt x2)), (3, .int (Int32.ofInt x3)), (4, .int (Int32.ofInt x4)), (5, .int (Int32.ofInt x5))] → f_X12_many_u301 Q K332 N σ x2 x3 x4 x5 → ml_V p l e rm_X12_many s m args below meth c (MQ below (ml_Qi I32 base D cA n Q) args s 0 0 (ml_A base)) base D cA 0 0 n n σ (F0 m 301 ls []) := by
  intro N
  induction N with
  | zero => intro σ x2 x3 x4 x5 h_x2 h_x3 h_x4 h_x5 ls hl hw; exact False.elim hw
  | succ N ih =>
    intro σ x2 x3 x4 x5 h_x2 h_x3 h_x4 h_x5 ls hl hw
    unfold f_X12_many_u301 at hw
    refine ml_iload (pc := 301) X hl 4 rfl dX12_many_301 ?_
    refine ml_iconst (pc := 303) X dX12_many_303 ?_
    refine ml_aload_n (pc := 304) X hl 0 rfl rfl dX12_many_304 ?_
    refine gf_X12_367 (pc := 305) X (ml_c215 hn) dX12_many_305 (fun r1 => ?_)
    have hw := hw r1
    obtain ⟨v2, hw⟩ := hw
    refine ml_imul (pc := 308) X dX12_many_308 ?_
    refine ml_icmp_ge (pc := 309) (tgt := 332) X h_x5 v2 dX12_many_309 (by decide) (fun c3 => ?_) (fun c3 => ?_)
    · have hw := hw.1 c3
      exact hK332 σ x2 x3 x4 h_x2 h_x3 h_x4 _ (lv_sub hl [0, 1, 2, 3] rfl) hw
    · have hw := hw.2 c3
      refine ml_aload_n (pc := 312) X hl 0 rfl rfl dX12_many_312 ?_
      refine gf_X12_101 (pc := 313) X (ml_c215 hn) dX12_many_313 ?_
      refine ml_iload (pc := 316) X hl 4 rfl dX12_many_316 ?_
      refine ml_aload_n (pc := 318) X hl 0 rfl rfl dX12_many_318 ?_
      refine gf_X12_104 (pc := 319) X (ml_c215 hn) dX12_many_319 ?_
      refine ml_iload (pc := 322) X hl 4 rfl dX12_many_322 ?_
      obtain ⟨a4, b4, hw⟩ := hw
      refine ml_lald (pc := 324) (N := 3800) X (ml_c245 hn) a4 b4 dX12_many_324 (fun r4 => ?_)
      have hw := hw r4
      obtain ⟨a5, b5, hw⟩ := hw
      refine ml_last (pc := 325) (N := 3800) X (ml_c244 hn) a5 b5 r4 dX12_many_325 (fun σ5 g5 => ?_)
      have hw := hw σ5 g5
      obtain ⟨v6, hw⟩ := hw
      obtain ⟨y6, e6⟩ : ∃ y : Int, y = x5 + 1 := ⟨_, rfl⟩
      have hw := hw y6 e6
      rw [← e6] at v6
      refine ml_iinc (pc := 326) X e6 hl 4 rfl (by decide) (lst' := [(5, .int (Int32.ofInt y6)), (0, .ref (base + (215 : Int).toNat)), (2, .int (Int32.ofInt x2)), (3, .int (Int32.ofInt x3)), (4, .int (Int32.ofInt x4))]) rfl dX12_many_326 (fun ls hl => ?_)
      refine ml_goto (pc := 329) (tgt := 301) X dX12_many_329 (by decide) ?_
      exact ih σ5 x2 x3 x4 y6 h_x2 h_x3 h_x4 v6 _ (lv_sub hl [1, 2, 3, 4, 0] rfl) hw
set_option maxRecDepth 100000 in
set_option maxHeartbeats 4000000 in
theorem u_X12_many_332 {p : Program} {e : Env} {s : State} {m : MethodId} {args : Array Value} {below : List Frame} {meth : Method} {c : Code} {base : Nat} {D : va_G} {cA : Nat → ClassId} {n : Nat} {l : Launch} {Q : Int → ml_St → Prop} {K138 : ml_St → Int → Int → Int → Prop} (X : ml_X p s m c meth args D cA cX12_many 9 RX12 (some .int)) (hn : 256 ≤ n) (hK138 : ∀ (σ : ml_St) (x2 : Int) (x3 : Int) (x4 : Int) (h_x2 : I32 x2) (h_x3 : I32 x3) (h_x4 : I32 x4) (ls : Array Slot), lv_has ls 9 [(0, .ref (base + (215 : Int).toNat)), (2, .int (Int32.ofInt x2)), (3, .int (Int32.ofInt x3)), (4, .int (Int32.ofInt x4))] → K138 σ x2 x3 x4 → ml_V p l e rm_X12_many s m args below meth c (MQ below (ml_Qi I32 base D cA n Q) args s 0 0 (ml_A base)) base D cA 0 0 n n σ (F0 m 138 ls [])) (σ : ml_St) (x2 : Int) (x3 : Int) (x4 : Int) (h_x2 : I32 x2) (h_x3 : I32 x3) (h_x4 : I32 x4) (ls : Array Slot) (hl : lv_has ls 9 [(0, .ref (base + (215 : Int).toNat)), (2, .int (Int32.ofInt x2)), (3, .int (Int32.ofInt x3)), (4, .int (Int32.ofInt x4))]) (hw : f_X12_many_u332 Q K138 σ x2 x3 x4) : ml_V p l e rm_X12_many s m args below meth c (MQ below (ml_Qi I32 base D cA n Q) args s 0 0 (ml_A base)) base D cA 0 0 n n σ (F0 m 332 ls []) := by
  unfold f_X12_many_u332 at hw
  obtain ⟨v1, hw⟩ := hw
  obtain ⟨y1, e1⟩ : ∃ y : Int, y = x4 + 1 := ⟨_, rfl⟩
  have hw := hw y1 e1
  rw [← e1] at v1
  refine ml_iinc (pc := 332) X e1 hl 3 rfl (by decide) (lst' := [(4, .int (Int32.ofInt y1)), (0, .ref (base + (215 : Int).toNat)), (2, .int (Int32.ofInt x2)), (3, .int (Int32.ofInt x3))]) rfl dX12_many_332 (fun ls hl => ?_)
  refine ml_goto (pc := 335) (tgt := 138) X dX12_many_335 (by decide) ?_
  exact hK138 σ x2 x3 y1 h_x2 h_x3 v1 _ (lv_sub hl [1, 2, 3, 0] rfl) hw
set_option maxRecDepth 100000 in
set_option maxHeartbeats 4000000 in
theorem u_X12_many_298 {p : Program} {e : Env} {s : State} {m : MethodId} {args : Array Value} {below : List Frame} {meth : Method} {c : Code} {base : Nat} {D : va_G} {cA : Nat → ClassId} {n : Nat} {l : Launch} {Q : Int → ml_St → Prop} {K138 : ml_St → Int → Int → Int → Prop} (X : ml_X p s m c meth args D cA cX12_many 9 RX12 (some .int)) (hn : 256 ≤ n) (hK138 : ∀ (σ : ml_St) (x2 : Int) (x3 : Int) (x4 : Int) (h_x2 : I32 x2) (h_x3 : I32 x3) (h_x4 : I32 x4) (ls : Array Slot), lv_has ls 9 [(0, .ref (base + (215 : Int).toNat)), (2, .int (Int32.ofInt x2)), (3, .int (Int32.ofInt x3)), (4, .int (Int32.ofInt x4))] → K138 σ x2 x3 x4 → ml_V p l e rm_X12_many s m args below meth c (MQ below (ml_Qi I32 base D cA n Q) args s 0 0 (ml_A base)) base D cA 0 0 n n σ (F0 m 138 ls [])) (σ : ml_St) (x2 : Int) (x3 : Int) (x4 : Int) (h_x2 : I32 x2) (h_x3 : I32 x3) (h_x4 : I32 x4) (ls : Array Slot) (hl : lv_has ls 9 [(0, .ref (base + (215 : Int).toNat)), (2, .int (Int32.ofInt x2)), (3, .int (Int32.ofInt x3)), (4, .int (Int32.ofInt x4))]) (hw : f_X12_many_u298 Q K138 σ x2 x3 x4) : ml_V p l e rm_X12_many s m args below meth c (MQ below (ml_Qi I32 base D cA n Q) args s 0 0 (ml_A base)) base D cA 0 0 n n σ (F0 m 298 ls []) := by
  unfold f_X12_many_u298 at hw
  refine ml_iconst (pc := 298) X dX12_many_298 ?_
  refine ml_istore (pc := 299) X hl (by decide) (lst' := [(5, .int (Int32.ofInt 0)), (0, .ref (base + (215 : Int).toNat)), (2, .int (Int32.ofInt x2)), (3, .int (Int32.ofInt x3)), (4, .int (Int32.ofInt x4))]) rfl dX12_many_299 (fun ls hl => ?_)
  obtain ⟨N0, hw⟩ := hw
  exact u_X12_many_301 X hn (fun σ x2 x3 x4 h_x2 h_x3 h_x4 ls hl hw => u_X12_many_332 X hn hK138 σ x2 x3 x4 h_x2 h_x3 h_x4 ls hl hw) N0 σ x2 x3 x4 0 h_x2 h_x3 h_x4 ⟨by decide, by decide⟩ _ (lv_sub hl [1, 2, 3, 4, 0] rfl) hw
set_option maxRecDepth 100000 in
set_option maxHeartbeats 4000000 in
theorem u_X12_many_172 {p : Program} {e : Env} {s : State} {m : MethodId} {args : Array Value} {below : List Frame} {meth : Method} {c : Code} {base : Nat} {D : va_G} {cA : Nat → ClassId} {n : Nat} {l : Launch} {Q : Int → ml_St → Prop} {K138 : ml_St → Int → Int → Int → Prop} (X : ml_X p s m c meth args D cA cX12_many 9 RX12 (some .int)) (hn : 256 ≤ n) (hK138 : ∀ (σ : ml_St) (x2 : Int) (x3 : Int) (x4 : Int) (h_x2 : I32 x2) (h_x3 : I32 x3) (h_x4 : I32 x4) (ls : Array Slot), lv_has ls 9 [(0, .ref (base + (215 : Int).toNat)), (2, .int (Int32.ofInt x2)), (3, .int (Int32.ofInt x3)), (4, .int (Int32.ofInt x4))] → K138 σ x2 x3 x4 → ml_V p l e rm_X12_many s m args below meth c (MQ below (ml_Qi I32 base D cA n Q) args s 0 0 (ml_A base)) base D cA 0 0 n n σ (F0 m 138 ls [])) (σ : ml_St) (x2 : Int) (x3 : Int) (x4 : Int) (h_x2 : I32 x2) (h_x3 : I32 x3) (h_x4 : I32 x4) (ls : Array Slot) (hl : lv_has ls 9 [(0, .ref (base + (215 : Int).toNat)), (2, .int (Int32.ofInt x2)), (3, .int (Int32.ofInt x3)), (4, .int (Int32.ofInt x4))]) (hw : f_X12_many_u172 Q K138 σ x2 x3 x4) : ml_V p l e rm_X12_many s m args below meth c (MQ below (ml_Qi I32 base D cA n Q) args s 0 0 (ml_A base)) base D cA 0 0 n n σ (F0 m 172 ls []) := by
  unfold f_X12_many_u172 at hw
  refine ml_iconst (pc := 172) X dX12_many_172 ?_
  refine ml_istore (pc := 173) X hl (by decide) (lst' := [(5, .int (Int32.ofInt 0)), (0, .ref (base + (215 : Int).toNat)), (2, .int (Int32.ofInt x2)), (3, .int (Int32.ofInt x3)), (4, .int (Int32.ofInt x4))]) rfl dX12_many_173 (fun ls hl => ?_)
  obtain ⟨N0, hw⟩ := hw
  exact u_X12_many_175 X hn (fun σ x2 x3 x4 h_x2 h_x3 h_x4 ls hl hw => u_X12_many_298 X hn hK138 σ x2 x3 x4 h_x2 h_x3 h_x4 ls hl hw) N0 σ x2 x3 x4 0 h_x2 h_x3 h_x4 ⟨by decide, by decide⟩ _ (lv_sub hl [1, 2, 3, 4, 0] rfl) hw
set_option maxRecDepth 100000 in
set_option maxHeartbeats 4000000 in
theorem u_X12_many_138 {p : Program} {e : Env} {s : State} {m : MethodId} {args : Array Value} {below : List Frame} {meth : Method} {c : Code} {base : Nat} {D : va_G} {cA : Nat → ClassId} {n : Nat} {l : Launch} {Q : Int → ml_St → Prop} {K338 : ml_St → Int → Prop} (X : ml_X p s m c meth args D cA cX12_many 9 RX12 (some .int)) (hn : 256 ≤ n) (hK338 : ∀ (σ : ml_St) (x3 : Int) (h_x3 : I32 x3) (ls : Array Slot), lv_has ls 9 [(0, .ref (base + (215 : Int).toNat)), (3, .int (Int32.ofInt x3))] → K338 σ x3 → ml_V p l e rm_X12_many s m args below meth c (MQ below (ml_Qi I32 base D cA n Q) args s 0 0 (ml_A base)) base D cA 0 0 n n σ (F0 m 338 ls [])) : ∀ (N : Nat) (σ : ml_St) (x2 : Int) (x3 : Int) (x4 : Int) (h_x2 : I32 x2) (h_x3 : I32 x3) (h_x4 : I32 x4) (ls : Array Slot), lv_has ls 9 [(0, .ref (base + (215 : Int).toNat)), (2, .int (Int32.ofInt x2)), (3, .int (Int32.ofInt x3)), (4, .int (Int32.ofInt x4))] → f_X12_many_u138 Q K338 N σ x2 x3 x4 → ml_V p l e rm_X12_many s m args below meth c (MQ below (ml_Qi I32 base D cA n Q) args s 0 0 (ml_A base)) base D cA 0 0 n n σ (F0 m 138 ls []) := by
  intro N
  induction N with
  | zero => intro σ x2 x3 x4 h_x2 h_x3 h_x4 ls hl hw; exact False.elim hw
  | succ N ih =>
    intro σ x2 x3 x4 h_x2 h_x3 h_x4 ls hl hw
    unfold f_X12_many_u138 at hw
    refine ml_iload (pc := 138) X hl 3 rfl dX12_many_138 ?_
    refine ml_iload_n (pc := 140) X hl 1 rfl rfl dX12_many_140 ?_
    refine ml_icmp_ge (pc := 141) (tgt := 338) X h_x4 h_x2 dX12_many_141 (by decide) (fun c1 => ?_) (fun c1 => ?_)
    · have hw := hw.1 c1
      exact hK338 σ x3 h_x3 _ (lv_sub hl [0, 2] rfl) hw
    · have hw := hw.2 c1
      refine ml_iconst (pc := 144) X dX12_many_144 ?_
      refine ml_istore (pc := 145) X hl (by decide) (lst' := [(5, .int (Int32.ofInt 0)), (0, .ref (base + (215 : Int).toNat)), (2, .int (Int32.ofInt x2)), (3, .int (Int32.ofInt x3)), (4, .int (Int32.ofInt x4))]) rfl dX12_many_145 (fun ls hl => ?_)
      obtain ⟨N0, hw⟩ := hw
      exact u_X12_many_147 X hn (fun σ x2 x3 x4 h_x2 h_x3 h_x4 ls hl hw => u_X12_many_172 X hn ih σ x2 x3 x4 h_x2 h_x3 h_x4 ls hl hw) N0 σ x2 x3 x4 0 h_x2 h_x3 h_x4 ⟨by decide, by decide⟩ _ (lv_sub hl [1, 2, 3, 4, 0] rfl) hw
set_option maxRecDepth 100000 in
set_option maxHeartbeats 4000000 in
theorem u_X12_many_386 {p : Program} {e : Env} {s : State} {m : MethodId} {args : Array Value} {below : List Frame} {meth : Method} {c : Code} {base : Nat} {D : va_G} {cA : Nat → ClassId} {n : Nat} {l : Launch} {Q : Int → ml_St → Prop} {K344 : ml_St → Int → Int → Int → Prop} (X : ml_X p s m c meth args D cA cX12_many 9 RX12 (some .int)) (hn : 256 ≤ n) (hK344 : ∀ (σ : ml_St) (x3 : Int) (x4 : Int) (x6 : Int) (h_x3 : I32 x3) (h_x4 : I64 x4) (h_x6 : I32 x6) (ls : Array Slot), lv_has ls 9 [(0, .ref (base + (215 : Int).toNat)), (3, .int (Int32.ofInt x3)), (4, .long (Int64.ofInt x4)), (6, .int (Int32.ofInt x6))] → K344 σ x3 x4 x6 → ml_V p l e rm_X12_many s m args below meth c (MQ below (ml_Qi I32 base D cA n Q) args s 0 0 (ml_A base)) base D cA 0 0 n n σ (F0 m 344 ls [])) (σ : ml_St) (x3 : Int) (x6 : Int) (s0 : Int) (s1 : Int) (h_x3 : I32 x3) (h_x6 : I32 x6) (h_s0 : I64 s0) (h_s1 : I64 s1) (ls : Array Slot) (hl : lv_has ls 9 [(0, .ref (base + (215 : Int).toNat)), (3, .int (Int32.ofInt x3)), (6, .int (Int32.ofInt x6))]) (hw : f_X12_many_u386 Q K344 σ x3 x6 s0 s1) : ml_V p l e rm_X12_many s m args below meth c (MQ below (ml_Qi I32 base D cA n Q) args s 0 0 (ml_A base)) base D cA 0 0 n n σ (F0 m 386 ls [.long (Int64.ofInt s1), .long (Int64.ofInt s0)]) := by
  unfold f_X12_many_u386 at hw
  obtain ⟨v1, hw⟩ := hw
  refine ml_ladd (pc := 386) X dX12_many_386 ?_
  refine ml_topL (pc := 387) (fun y2 e2 => ?_)
  have hw := hw y2 e2
  have q2 : I64 y2 := by rw [e2]; exact v1
  refine ml_lstore (pc := 387) X hl (by decide) (lst' := [(4, .long (Int64.ofInt y2)), (0, .ref (base + (215 : Int).toNat)), (3, .int (Int32.ofInt x3)), (6, .int (Int32.ofInt x6))]) rfl dX12_many_387 (fun ls hl => ?_)
  obtain ⟨v3, hw⟩ := hw
  obtain ⟨y3, e3⟩ : ∃ y : Int, y = x6 + 1 := ⟨_, rfl⟩
  have hw := hw y3 e3
  rw [← e3] at v3
  refine ml_iinc (pc := 389) X e3 hl 3 rfl (by decide) (lst' := [(6, .int (Int32.ofInt y3)), (4, .long (Int64.ofInt y2)), (0, .ref (base + (215 : Int).toNat)), (3, .int (Int32.ofInt x3))]) rfl dX12_many_389 (fun ls hl => ?_)
  refine ml_goto (pc := 392) (tgt := 344) X dX12_many_392 (by decide) ?_
  exact hK344 σ x3 y2 y3 h_x3 q2 v3 _ (lv_sub hl [2, 3, 1, 0] rfl) hw
set_option maxRecDepth 100000 in
set_option maxHeartbeats 4000000 in
theorem u_X12_many_344 {p : Program} {e : Env} {s : State} {m : MethodId} {args : Array Value} {below : List Frame} {meth : Method} {c : Code} {base : Nat} {D : va_G} {cA : Nat → ClassId} {n : Nat} {l : Launch} {Q : Int → ml_St → Prop} {K395 : ml_St → Int → Prop} (X : ml_X p s m c meth args D cA cX12_many 9 RX12 (some .int)) (hn : 256 ≤ n) (hK395 : ∀ (σ : ml_St) (x4 : Int) (h_x4 : I64 x4) (ls : Array Slot), lv_has ls 9 [(4, .long (Int64.ofInt x4))] → K395 σ x4 → ml_V p l e rm_X12_many s m args below meth c (MQ below (ml_Qi I32 base D cA n Q) args s 0 0 (ml_A base)) base D cA 0 0 n n σ (F0 m 395 ls [])) : ∀ (N : Nat) (σ : ml_St) (x3 : Int) (x4 : Int) (x6 : Int) (h_x3 : I32 x3) (h_x4 : I64 x4) (h_x6 : I32 x6) (ls : Array Slot), lv_has ls 9 [(0, .ref (base + (215 : Int).toNat)), (3, .int (Int32.ofInt x3)), (4, .long (Int64.ofInt x4)), (6, .int (Int32.ofInt x6))] → f_X12_many_u344 Q K395 N σ x3 x4 x6 → ml_V p l e rm_X12_many s m args below meth c (MQ below (ml_Qi I32 base D cA n Q) args s 0 0 (ml_A base)) base D cA 0 0 n n σ (F0 m 344 ls []) := by
  intro N
  induction N with
  | zero => intro σ x3 x4 x6 h_x3 h_x4 h_x6 ls hl hw; exact False.elim hw
  | succ N ih =>
    intro σ x3 x4 x6 h_x3 h_x4 h_x6 ls hl hw
    unfold f_X12_many_u344 at hw
    refine ml_iload (pc := 344) X hl 3 rfl dX12_many_344 ?_
    refine ml_iconst (pc := 346) X dX12_many_346 ?_
    refine ml_aload_n (pc := 347) X hl 0 rfl rfl dX12_many_347 ?_
    refine gf_X12_367 (pc := 348) X (ml_c215 hn) dX12_many_348 (fun r1 => ?_)
    have hw := hw r1
    obtain ⟨v2, hw⟩ := hw
    refine ml_imul (pc := 351) X dX12_many_351 ?_
    refine ml_icmp_ge (pc := 352) (tgt := 395) X h_x6 v2 dX12_many_352 (by decide) (fun c3 => ?_) (fun c3 => ?_)
    · have hw := hw.1 c3
      exact hK395 σ x4 h_x4 _ (lv_sub hl [2] rfl) hw
    · have hw := hw.2 c3
      refine ml_lload (pc := 355) X hl 2 rfl dX12_many_355 ?_
      refine ml_iload (pc := 357) X hl 3 rfl dX12_many_357 ?_
      refine ml_iconst (pc := 359) X dX12_many_359 ?_
      obtain ⟨z4, v4, hw⟩ := hw
      refine ml_irem (pc := 360) X h_x6 ⟨by decide, by decide⟩ z4 dX12_many_360 ?_
      refine ml_aload_n (pc := 361) X hl 0 rfl rfl dX12_many_361 ?_
      refine gf_X12_98 (pc := 362) X (ml_c215 hn) dX12_many_362 ?_
      refine ml_iload (pc := 365) X hl 3 rfl dX12_many_365 ?_
      refine ml_iconst (pc := 367) X dX12_many_367 ?_
      obtain ⟨z5, v5, hw⟩ := hw
      refine ml_idiv (pc := 368) X h_x6 ⟨by decide, by decide⟩ z5 dX12_many_368 ?_
      obtain ⟨a6, b6, hw⟩ := hw
      refine ml_iald (pc := 369) (N := 950) X (ml_c243 hn) a6 b6 dX12_many_369 (fun r6 => ?_)
      have hw := hw r6
      obtain ⟨v7, hw⟩ := hw
      refine ml_iadd (pc := 370) X dX12_many_370 ?_
      refine ml_iload_n (pc := 371) X hl 1 rfl rfl dX12_many_371 ?_
      refine ml_icmp_ne (pc := 372) (tgt := 385) X v7 h_x3 dX12_many_372 (by decide) (fun c8 => ?_) (fun c8 => ?_)
      · have hw := hw.1 c8
        refine ml_lconst0 (pc := 385) X dX12_many_385 ?_
        exact u_X12_many_386 X hn ih σ x3 x6 x4 0 h_x3 h_x6 h_x4 ⟨by decide, by decide⟩ _ (lv_sub hl [0, 1, 3] rfl) hw
      · have hw := hw.2 c8
        refine ml_aload_n (pc := 375) X hl 0 rfl rfl dX12_many_375 ?_
        refine gf_X12_101 (pc := 376) X (ml_c215 hn) dX12_many_376 ?_
        refine ml_iload (pc := 379) X hl 3 rfl dX12_many_379 ?_
        obtain ⟨a9, b9, hw⟩ := hw
        refine ml_lald (pc := 381) (N := 3800) X (ml_c244 hn) a9 b9 dX12_many_381 (fun r9 => ?_)
        have hw := hw r9
        refine ml_goto (pc := 382) (tgt := 386) X dX12_many_382 (by decide) ?_
        exact u_X12_many_386 X hn ih σ x3 x6 x4 (σ 244 x6) h_x3 h_x6 h_x4 r9 _ (lv_sub hl [0, 1, 3] rfl) hw
set_option maxRecDepth 100000 in
set_option maxHeartbeats 4000000 in
theorem u_X12_many_395 {p : Program} {e : Env} {s : State} {m : MethodId} {args : Array Value} {below : List Frame} {meth : Method} {c : Code} {base : Nat} {D : va_G} {cA : Nat → ClassId} {n : Nat} {l : Launch} {Q : Int → ml_St → Prop} (X : ml_X p s m c meth args D cA cX12_many 9 RX12 (some .int)) (hn : 256 ≤ n) (σ : ml_St) (x4 : Int) (h_x4 : I64 x4) (ls : Array Slot) (hl : lv_has ls 9 [(4, .long (Int64.ofInt x4))]) (hw : f_X12_many_u395 Q σ x4) : ml_V p l e rm_X12_many s m args below meth c (MQ below (ml_Qi I32 base D cA n Q) args s 0 0 (ml_A base)) base D cA 0 0 n n σ (F0 m 395 ls []) := by
  unfold f_X12_many_u395 at hw
  refine ml_lload (pc := 395) X hl 0 rfl dX12_many_395 ?_
  refine ml_ldc2 (pc := 397) (v := 998244353) X dX12_many_397 tc_6_174 ?_
  obtain ⟨z1, v1, hw⟩ := hw
  refine ml_lrem (pc := 400) X h_x4 ⟨by decide, by decide⟩ z1 dX12_many_400 ?_
  refine ml_l2i (pc := 401) X dX12_many_401 ?_
  exact ml_iret (pc := 402) X (b_l2i_r _) hw dX12_many_402
set_option maxRecDepth 100000 in
set_option maxHeartbeats 4000000 in
theorem u_X12_many_338 {p : Program} {e : Env} {s : State} {m : MethodId} {args : Array Value} {below : List Frame} {meth : Method} {c : Code} {base : Nat} {D : va_G} {cA : Nat → ClassId} {n : Nat} {l : Launch} {Q : Int → ml_St → Prop} (X : ml_X p s m c meth args D cA cX12_many 9 RX12 (some .int)) (hn : 256 ≤ n) (σ : ml_St) (x3 : Int) (h_x3 : I32 x3) (ls : Array Slot) (hl : lv_has ls 9 [(0, .ref (base + (215 : Int).toNat)), (3, .int (Int32.ofInt x3))]) (hw : f_X12_many_u338 Q σ x3) : ml_V p l e rm_X12_many s m args below meth c (MQ below (ml_Qi I32 base D cA n Q) args s 0 0 (ml_A base)) base D cA 0 0 n n σ (F0 m 338 ls []) := by
  unfold f_X12_many_u338 at hw
  refine ml_lconst0 (pc := 338) X dX12_many_338 ?_
  refine ml_lstore (pc := 339) X hl (by decide) (lst' := [(4, .long (Int64.ofInt 0)), (0, .ref (base + (215 : Int).toNat)), (3, .int (Int32.ofInt x3))]) rfl dX12_many_339 (fun ls hl => ?_)
  refine ml_iconst (pc := 341) X dX12_many_341 ?_
  refine ml_istore (pc := 342) X hl (by decide) (lst' := [(6, .int (Int32.ofInt 0)), (4, .long (Int64.ofInt 0)), (0, .ref (base + (215 : Int).toNat)), (3, .int (Int32.ofInt x3))]) rfl dX12_many_342 (fun ls hl => ?_)
  obtain ⟨N0, hw⟩ := hw
  exact u_X12_many_344 X hn (fun σ x4 h_x4 ls hl hw => u_X12_many_395 X hn σ x4 h_x4 ls hl hw) N0 σ x3 0 0 h_x3 ⟨by decide, by decide⟩ ⟨by decide, by decide⟩ _ (lv_sub hl [2, 3, 1, 0] rfl) hw
set_option maxRecDepth 100000 in
set_option maxHeartbeats 4000000 in
theorem u_X12_many_135 {p : Program} {e : Env} {s : State} {m : MethodId} {args : Array Value} {below : List Frame} {meth : Method} {c : Code} {base : Nat} {D : va_G} {cA : Nat → ClassId} {n : Nat} {l : Launch} {Q : Int → ml_St → Prop} (X : ml_X p s m c meth args D cA cX12_many 9 RX12 (some .int)) (hn : 256 ≤ n) (σ : ml_St) (x2 : Int) (x3 : Int) (h_x2 : I32 x2) (h_x3 : I32 x3) (ls : Array Slot) (hl : lv_has ls 9 [(0, .ref (base + (215 : Int).toNat)), (2, .int (Int32.ofInt x2)), (3, .int (Int32.ofInt x3))]) (hw : f_X12_many_u135 Q σ x2 x3) : ml_V p l e rm_X12_many s m args below meth c (MQ below (ml_Qi I32 base D cA n Q) args s 0 0 (ml_A base)) base D cA 0 0 n n σ (F0 m 135 ls []) := by
  unfold f_X12_many_u135 at hw
  refine ml_iconst (pc := 135) X dX12_many_135 ?_
  refine ml_istore (pc := 136) X hl (by decide) (lst' := [(4, .int (Int32.ofInt 1)), (0, .ref (base + (215 : Int).toNat)), (2, .int (Int32.ofInt x2)), (3, .int (Int32.ofInt x3))]) rfl dX12_many_136 (fun ls hl => ?_)
  obtain ⟨N0, hw⟩ := hw
  exact u_X12_many_138 X hn (fun σ x3 h_x3 ls hl hw => u_X12_many_338 X hn σ x3 h_x3 ls hl hw) N0 σ x2 x3 1 h_x2 h_x3 ⟨by decide, by decide⟩ _ (lv_sub hl [1, 2, 3, 0] rfl) hw
set_option maxRecDepth 100000 in
set_option maxHeartbeats 4000000 in
theorem u_X12_many_66 {p : Program} {e : Env} {s : State} {m : MethodId} {args : Array Value} {below : List Frame} {meth : Method} {c : Code} {base : Nat} {D : va_G} {cA : Nat → ClassId} {n : Nat} {l : Launch} {Q : Int → ml_St → Prop} (X : ml_X p s m c meth args D cA cX12_many 9 RX12 (some .int)) (hn : 256 ≤ n) (σ : ml_St) (x2 : Int) (x3 : Int) (h_x2 : I32 x2) (h_x3 : I32 x3) (ls : Array Slot) (hl : lv_has ls 9 [(0, .ref (base + (215 : Int).toNat)), (2, .int (Int32.ofInt x2)), (3, .int (Int32.ofInt x3))]) (hw : f_X12_many_u66 Q σ x2 x3) : ml_V p l e rm_X12_many s m args below meth c (MQ below (ml_Qi I32 base D cA n Q) args s 0 0 (ml_A base)) base D cA 0 0 n n σ (F0 m 66 ls []) := by
  unfold f_X12_many_u66 at hw
  refine ml_iconst (pc := 66) X dX12_many_66 ?_
  refine ml_istore (pc := 67) X hl (by decide) (lst' := [(4, .int (Int32.ofInt 0)), (0, .ref (base + (215 : Int).toNat)), (2, .int (Int32.ofInt x2)), (3, .int (Int32.ofInt x3))]) rfl dX12_many_67 (fun ls hl => ?_)
  obtain ⟨N0, hw⟩ := hw
  exact u_X12_many_69 X hn (fun σ x2 x3 h_x2 h_x3 ls hl hw => u_X12_many_135 X hn σ x2 x3 h_x2 h_x3 ls hl hw) N0 σ x2 x3 0 h_x2 h_x3 ⟨by decide, by decide⟩ _ (lv_sub hl [1, 2, 3, 0] rfl) hw
set_option maxRecDepth 100000 in
set_option maxHeartbeats 4000000 in
theorem u_X12_many_0 {p : Program} {e : Env} {s : State} {m : MethodId} {args : Array Value} {below : List Frame} {meth : Method} {c : Code} {base : Nat} {D : va_G} {cA : Nat → ClassId} {n : Nat} {l : Launch} {Q : Int → ml_St → Prop} (X : ml_X p s m c meth args D cA cX12_many 9 RX12 (some .int)) (hn : 256 ≤ n) (σ : ml_St) (x1 : Int) (x2 : Int) (x3 : Int) (h_x1 : I32 x1) (h_x2 : I32 x2) (h_x3 : I32 x3) (ls : Array Slot) (hl : lv_has ls 9 [(0, .ref (base + (215 : Int).toNat)), (1, .int (Int32.ofInt x1)), (2, .int (Int32.ofInt x2)), (3, .int (Int32.ofInt x3))]) (hw : f_X12_many_u0 Q σ x1 x2 x3) : ml_V p l e rm_X12_many s m args below meth c (MQ below (ml_Qi I32 base D cA n Q) args s 0 0 (ml_A base)) base D cA 0 0 n n σ (F0 m 0 ls []) := by
  unfold f_X12_many_u0 at hw
  refine ml_aload_n (pc := 0) X hl 0 rfl rfl dX12_many_0 ?_
  refine ml_iload_n (pc := 1) X hl 1 rfl rfl dX12_many_1 ?_
  refine ml_callzV (pc := 2) (rest := []) X [.int (Int32.ofInt x1)] (by decide) rfl (ml_c215 hn) (c_X12_isLetters l base D cA n hn σ x1 h_x1 _ hw) cv_X12_379 ⟨rfl, rfl⟩ ⟨by decide, by decide⟩ rfl rfl hl (Nat.le_of_ble_eq_true rfl) ⟨Nat.zero_le _, Nat.zero_le _⟩ dX12_many_2 (fun r1 σ1 t1 hw => ?_)
  have hw := hw t1
  refine ml_if_eq (pc := 5) (tgt := 32) X t1.i dX12_many_5 (by decide) (fun c2 => ?_) (fun c2 => ?_)
  · have hw := hw.1 c2
    exact u_X12_many_32 X hn σ1   _ (lv_sub hl [] rfl) hw
  · have hw := hw.2 c2
    refine ml_iload_n (pc := 8) X hl 2 rfl rfl dX12_many_8 ?_
    refine ml_i2l (pc := 9) X h_x2 dX12_many_9 ?_
    refine ml_lconst1 (pc := 10) X dX12_many_10 ?_
    refine ml_ldc2 (pc := 11) (v := 1000) X dX12_many_11 tc_6_161 ?_
    refine ml_callzS (pc := 14) (rest := []) X [.long (Int64.ofInt x2), .long (Int64.ofInt 1), .long (Int64.ofInt 1000)] (c_X12_lies l base D cA n hn σ1 x2 1 1000 (h_x2).l ⟨by decide, by decide⟩ ⟨by decide, by decide⟩ _ hw) cv_X12_143 ⟨rfl, rfl⟩ ⟨by decide, by decide⟩ rfl rfl hl (Nat.le_of_ble_eq_true rfl) ⟨Nat.zero_le _, Nat.zero_le _⟩ dX12_many_14 (fun r3 σ3 t3 hw => ?_)
    have hw := hw t3
    refine ml_if_eq (pc := 17) (tgt := 32) X t3.i dX12_many_17 (by decide) (fun c4 => ?_) (fun c4 => ?_)
    · have hw := hw.1 c4
      exact u_X12_many_32 X hn σ3   _ (lv_sub hl [] rfl) hw
    · have hw := hw.2 c4
      refine ml_iload_n (pc := 20) X hl 3 rfl rfl dX12_many_20 ?_
      refine ml_i2l (pc := 21) X h_x3 dX12_many_21 ?_
      refine ml_lconst0 (pc := 22) X dX12_many_22 ?_
      refine ml_ldc2 (pc := 23) (v := 3) X dX12_many_23 tc_6_133 ?_
      refine ml_callzS (pc := 26) (rest := []) X [.long (Int64.ofInt x3), .long (Int64.ofInt 0), .long (Int64.ofInt 3)] (c_X12_lies l base D cA n hn σ3 x3 0 3 (h_x3).l ⟨by decide, by decide⟩ ⟨by decide, by decide⟩ _ hw) cv_X12_143 ⟨rfl, rfl⟩ ⟨by decide, by decide⟩ rfl rfl hl (Nat.le_of_ble_eq_true rfl) ⟨Nat.zero_le _, Nat.zero_le _⟩ dX12_many_26 (fun r5 σ5 t5 hw => ?_)
      have hw := hw t5
      refine ml_if_ne (pc := 29) (tgt := 34) X t5.i dX12_many_29 (by decide) (fun c6 => ?_) (fun c6 => ?_)
      · have hw := hw.1 c6
        refine ml_aload_n (pc := 34) X hl 0 rfl rfl dX12_many_34 ?_
        exact hw.elim
      · have hw := hw.2 c6
        exact u_X12_many_32 X hn σ5   _ (lv_sub hl [] rfl) hw
set_option maxRecDepth 100000 in
theorem c_X12_many (l : Launch) (base : Nat) (D : va_G) (cA : Nat → ClassId) (n : Nat) (hn : 256 ≤ n) (σ : ml_St) (x1 : Int) (x2 : Int) (x3 : Int) (h_x1 : I32 x1) (h_x2 : I32 x2) (h_x3 : I32 x3) (Q : Int → ml_St → Prop) (hw : f_X12_many σ x1 x2 x3 Q) : Met l yX12_many (Cond.code yX12_many cX12_many 9 (some .int) :: ml_T) rm_X12_many (va_Pc [.ref (base + (215 : Int).toNat), .int (Int32.ofInt x1), .int (Int32.ofInt x2), .int (Int32.ofInt x3)] (ml_U base D cA n σ)) (ml_Qi I32 base D cA n Q) 0 0 (ml_A base) := by
  refine Met.ofW (cc := cX12_many) (maxL := 9) (ret := (some .int)) (by decide) rfl ?_
  intro p e s m args below meth c s₁ B hml hv
  obtain ⟨rfl, hP, hK, hok, hro⟩ := hv
  have X : ml_X p s m c meth _ D cA cX12_many 9 RX12 (some .int) := ⟨B.exec, B.bytes, hml, findClass_of_methodNamed B.named, fun w hw => atoms_spec (ws := Cond.code yX12_many cX12_many 9 (some .int) :: ml_T) B.pre w (List.mem_cons_of_mem _ hw), hK, B.notSynchronized, B.returns⟩
  have hl := lv_entry [.ref (base + (215 : Int).toNat), .int (Int32.ofInt x1), .int (Int32.ofInt x2), .int (Int32.ofInt x3)] (n := 9) (Nat.le_of_ble_eq_true rfl)
  rw [lg_entry_eq]
  generalize (lg_sl [.ref (base + (215 : Int).toNat), .int (Int32.ofInt x1), .int (Int32.ofInt x2), .int (Int32.ofInt x3)] ++ List.replicate (9 - (lg_sl [.ref (base + (215 : Int).toNat), .int (Int32.ofInt x1), .int (Int32.ofInt x2), .int (Int32.ofInt x3)]).length) Slot.unset).toArray = ls at hl ⊢
  have hl : lv_has ls 9 [(0, .ref (base + (215 : Int).toNat)), (1, .int (Int32.ofInt x1)), (2, .int (Int32.ofInt x2)), (3, .int (Int32.ofInt x3))] := hl
  unfold f_X12_many at hw
  exact u_X12_many_0 X hn σ x1 x2 x3 h_x1 h_x2 h_x3 _ (lv_sub hl [0, 1, 2, 3] rfl) hw s.heap [] hP va_S.rf hok hro
