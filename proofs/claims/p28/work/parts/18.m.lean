theorem dX12_word_0 : decode cX12_word 0 = .ok (.aload_n 0, 1) := by decide +kernel
theorem dX12_word_1 : decode cX12_word 1 = .ok (.getfield 140, 3) := by decide +kernel
theorem dX12_word_4 : decode cX12_word 4 = .ok (.bipush 16, 2) := by decide +kernel
theorem dX12_word_6 : decode cX12_word 6 = .ok (.if_icmp .eq 11, 3) := by decide +kernel
theorem dX12_word_9 : decode cX12_word 9 = .ok (.aload_n 0, 1) := by decide +kernel
theorem dX12_word_10 : decode cX12_word 10 = .ok (.iload_n 1, 1) := by decide +kernel
theorem dX12_word_11 : decode cX12_word 11 = .ok (.invokevirtual 277, 3) := by decide +kernel
theorem dX12_word_14 : decode cX12_word 14 = .ok (.ifCond .ne 5, 3) := by decide +kernel
theorem dX12_word_17 : decode cX12_word 17 = .ok (.iconst (-1), 1) := by decide +kernel
theorem dX12_word_18 : decode cX12_word 18 = .ok (.ireturn, 1) := by decide +kernel
theorem dX12_word_19 : decode cX12_word 19 = .ok (.aload_n 0, 1) := by decide +kernel
theorem dX12_word_20 : decode cX12_word 20 = .ok (.getfield 24, 3) := by decide +kernel
theorem dX12_word_23 : decode cX12_word 23 = .ok (.aload_n 0, 1) := by decide +kernel
theorem dX12_word_24 : decode cX12_word 24 = .ok (.getfield 140, 3) := by decide +kernel
theorem dX12_word_27 : decode cX12_word 27 = .ok (.iconst 0, 1) := by decide +kernel
theorem dX12_word_28 : decode cX12_word 28 = .ok (.iastore, 1) := by decide +kernel
theorem dX12_word_29 : decode cX12_word 29 = .ok (.aload_n 0, 1) := by decide +kernel
theorem dX12_word_30 : decode cX12_word 30 = .ok (.aload_n 0, 1) := by decide +kernel
theorem dX12_word_31 : decode cX12_word 31 = .ok (.getfield 140, 3) := by decide +kernel
theorem dX12_word_34 : decode cX12_word 34 = .ok (.iload_n 1, 1) := by decide +kernel
theorem dX12_word_35 : decode cX12_word 35 = .ok (.invokevirtual 280, 3) := by decide +kernel
theorem dX12_word_38 : decode cX12_word 38 = .ok (.istore_n 2, 1) := by decide +kernel
theorem dX12_word_39 : decode cX12_word 39 = .ok (.iload_n 2, 1) := by decide +kernel
theorem dX12_word_40 : decode cX12_word 40 = .ok (.ifCond .ge 5, 3) := by decide +kernel
theorem dX12_word_43 : decode cX12_word 43 = .ok (.iload_n 2, 1) := by decide +kernel
theorem dX12_word_44 : decode cX12_word 44 = .ok (.ireturn, 1) := by decide +kernel
theorem dX12_word_45 : decode cX12_word 45 = .ok (.aload_n 0, 1) := by decide +kernel
theorem dX12_word_46 : decode cX12_word 46 = .ok (.dup, 1) := by decide +kernel
theorem dX12_word_47 : decode cX12_word 47 = .ok (.getfield 140, 3) := by decide +kernel
theorem dX12_word_50 : decode cX12_word 50 = .ok (.iconst 1, 1) := by decide +kernel
theorem dX12_word_51 : decode cX12_word 51 = .ok (.iadd, 1) := by decide +kernel
theorem dX12_word_52 : decode cX12_word 52 = .ok (.putfield 140, 3) := by decide +kernel
theorem dX12_word_55 : decode cX12_word 55 = .ok (.aload_n 0, 1) := by decide +kernel
theorem dX12_word_56 : decode cX12_word 56 = .ok (.invokevirtual 284, 3) := by decide +kernel
theorem dX12_word_59 : decode cX12_word 59 = .ok (.aload_n 0, 1) := by decide +kernel
theorem dX12_word_60 : decode cX12_word 60 = .ok (.getfield 140, 3) := by decide +kernel
theorem dX12_word_63 : decode cX12_word 63 = .ok (.iconst 1, 1) := by decide +kernel
theorem dX12_word_64 : decode cX12_word 64 = .ok (.isub, 1) := by decide +kernel
theorem dX12_word_65 : decode cX12_word 65 = .ok (.ireturn, 1) := by decide +kernel
def f_X12_word_u17 (Q : Int → ml_St → Prop) (σ : ml_St) : Prop :=
Q (-1) σ
def f_X12_word_u0 (Q : Int → ml_St → Prop) (σ : ml_St) (x1 : Int) : Prop :=
∀ _ : I32 (σ 215 3),
(((σ 215 3) : Int) = 16 →
f_X12_word_u17 Q σ) ∧
((σ 215 3) ≠ 16 →
f_X12_isLength σ x1 (fun r3 σ3 => ∀ _ : ml_B r3,
(r3 ≠ 0 →
∀ _ : I32 (σ3 215 3),
(0 : Int) ≤ (σ3 215 3) ∧ ((σ3 215 3) : Int) < 16 ∧
∀ σ6, σ6 = ml_up σ3 219 (σ3 215 3) 0 →
∀ _ : I32 (σ6 215 3),
f_X12_told σ6 (σ6 215 3) x1 (fun r8 σ8 => ∀ _ : I32 r8,
(0 ≤ r8 →
∀ _ : I32 (σ8 215 3),
I32 ((σ8 215 3) + 1) ∧
∀ σ12, σ12 = ml_up σ8 215 3 ((σ8 215 3) + 1) →
f_X12_all σ12 (fun σ13 =>
∀ _ : I32 (σ13 215 3),
I32 ((σ13 215 3) - 1) ∧
Q ((σ13 215 3) - 1) σ13)) ∧
(¬ (0 ≤ r8) →
Q r8 σ8))) ∧
(r3 = 0 →
f_X12_word_u17 Q σ3)))
def f_X12_word (σ : ml_St) (x1 : Int) (Q : Int → ml_St → Prop) : Prop := f_X12_word_u0 Q σ x1
def rm_X12_word : Room := { frames := 5, cells := 0, slots := 0, locals := 121 }
set_option maxRecDepth 100000 in
set_option maxHeartbeats 4000000 in
theorem u_X12_word_17 {p : Program} {e : Env} {s : State} {m : MethodId} {args : Array Value} {below : List Frame} {meth : Method} {c : Code} {base : Nat} {D : va_G} {cA : Nat → ClassId} {n : Nat} {l : Launch} {Q : Int → ml_St → Prop} (X : ml_X p s m c meth args D cA cX12_word 3 RX12 (some .int)) (hn : 256 ≤ n) (σ : ml_St) (ls : Array Slot) (hl : lv_has ls 3 []) (hw : f_X12_word_u17 Q σ) : ml_V p l e rm_X12_word s m args below meth c (MQ below (ml_Qi I32 base D cA n Q) args s 0 0 (ml_A base)) base D cA 0 0 n n σ (F0 m 17 ls []) := by
  unfold f_X12_word_u17 at hw
  refine ml_iconst (pc := 17) X dX12_word_17 ?_
  exact ml_iret (pc := 18) X ⟨by decide, by decide⟩ hw dX12_word_18
set_option maxRecDepth 100000 in
set_option maxHeartbeats 4000000 in
theorem u_X12_word_0 {p : Program} {e : Env} {s : State} {m : MethodId} {args : Array Value} {below : List Frame} {meth : Method} {c : Code} {base : Nat} {D : va_G} {cA : Nat → ClassId} {n : Nat} {l : Launch} {Q : Int → ml_St → Prop} (X : ml_X p s m c meth args D cA cX12_word 3 RX12 (some .int)) (hn : 256 ≤ n) (σ : ml_St) (x1 : Int) (h_x1 : I32 x1) (ls : Array Slot) (hl : lv_has ls 3 [(0, .ref (base + (215 : Int).toNat)), (1, .int (Int32.ofInt x1))]) (hw : f_X12_word_u0 Q σ x1) : ml_V p l e rm_X12_word s m args below meth c (MQ below (ml_Qi I32 base D cA n Q) args s 0 0 (ml_A base)) base D cA 0 0 n n σ (F0 m 0 ls []) := by
  unfold f_X12_word_u0 at hw
  refine ml_aload_n (pc := 0) X hl 0 rfl rfl dX12_word_0 ?_
  refine gf_X12_140 (pc := 1) X (ml_c215 hn) dX12_word_1 (fun r1 => ?_)
  have hw := hw r1
  refine ml_bipush (pc := 4) X dX12_word_4 (by decide) ?_
  refine ml_icmp_eq (pc := 6) (tgt := 17) X r1 ⟨by decide, by decide⟩ dX12_word_6 (by decide) (fun c2 => ?_) (fun c2 => ?_)
  · have hw := hw.1 c2
    exact u_X12_word_17 X hn σ   _ (lv_sub hl [] rfl) hw
  · have hw := hw.2 c2
    refine ml_aload_n (pc := 9) X hl 0 rfl rfl dX12_word_9 ?_
    refine ml_iload_n (pc := 10) X hl 1 rfl rfl dX12_word_10 ?_
    refine ml_callzV (pc := 11) (rest := []) X [.int (Int32.ofInt x1)] (by decide) rfl (ml_c215 hn) (c_X12_isLength l base D cA n hn σ x1 h_x1 _ hw) cv_X12_277 ⟨rfl, rfl⟩ ⟨by decide, by decide⟩ rfl rfl hl (Nat.le_of_ble_eq_true rfl) ⟨Nat.zero_le _, Nat.zero_le _⟩ dX12_word_11 (fun r3 σ3 t3 hw => ?_)
    have hw := hw t3
    refine ml_if_ne (pc := 14) (tgt := 19) X t3.i dX12_word_14 (by decide) (fun c4 => ?_) (fun c4 => ?_)
    · have hw := hw.1 c4
      refine ml_aload_n (pc := 19) X hl 0 rfl rfl dX12_word_19 ?_
      refine gf_X12_24 (pc := 20) X (ml_c215 hn) dX12_word_20 ?_
      refine ml_aload_n (pc := 23) X hl 0 rfl rfl dX12_word_23 ?_
      refine gf_X12_140 (pc := 24) X (ml_c215 hn) dX12_word_24 (fun r5 => ?_)
      have hw := hw r5
      refine ml_iconst (pc := 27) X dX12_word_27 ?_
      obtain ⟨a6, b6, hw⟩ := hw
      refine ml_iast (pc := 28) (N := 16) X (ml_c219 hn) a6 b6 ⟨by decide, by decide⟩ dX12_word_28 (fun σ6 g6 => ?_)
      have hw := hw σ6 g6
      refine ml_aload_n (pc := 29) X hl 0 rfl rfl dX12_word_29 ?_
      refine ml_aload_n (pc := 30) X hl 0 rfl rfl dX12_word_30 ?_
      refine gf_X12_140 (pc := 31) X (ml_c215 hn) dX12_word_31 (fun r7 => ?_)
      have hw := hw r7
      refine ml_iload_n (pc := 34) X hl 1 rfl rfl dX12_word_34 ?_
      refine ml_calliV (pc := 35) (rest := []) X [.int (Int32.ofInt (σ6 215 3)), .int (Int32.ofInt x1)] (by decide) rfl (ml_c215 hn) (c_X12_told l base D cA n hn σ6 (σ6 215 3) x1 r7 h_x1 _ hw) cv_X12_280 ⟨rfl, rfl⟩ ⟨by decide, by decide⟩ rfl rfl hl (Nat.le_of_ble_eq_true rfl) ⟨Nat.zero_le _, Nat.zero_le _⟩ dX12_word_35 (fun r8 σ8 t8 hw => ?_)
      have hw := hw t8
      refine ml_istore_n (pc := 38) X rfl hl (by decide) (lst' := [(2, .int (Int32.ofInt r8)), (0, .ref (base + (215 : Int).toNat)), (1, .int (Int32.ofInt x1))]) rfl dX12_word_38 (fun ls hl => ?_)
      refine ml_iload_n (pc := 39) X hl 0 rfl rfl dX12_word_39 ?_
      refine ml_if_ge (pc := 40) (tgt := 45) X t8 dX12_word_40 (by decide) (fun c9 => ?_) (fun c9 => ?_)
      · have hw := hw.1 c9
        refine ml_aload_n (pc := 45) X hl 1 rfl rfl dX12_word_45 ?_
        refine ml_dup (pc := 46) X dX12_word_46 rfl ?_
        refine gf_X12_140 (pc := 47) X (ml_c215 hn) dX12_word_47 (fun r10 => ?_)
        have hw := hw r10
        refine ml_iconst (pc := 50) X dX12_word_50 ?_
        obtain ⟨v11, hw⟩ := hw
        refine ml_iadd (pc := 51) X dX12_word_51 ?_
        refine pf_X12_140 (pc := 52) X (ml_c215 hn) v11 dX12_word_52 (fun σ12 g12 => ?_)
        have hw := hw σ12 g12
        refine ml_aload_n (pc := 55) X hl 1 rfl rfl dX12_word_55 ?_
        refine ml_callvV (pc := 56) (rest := []) X [] (by decide) rfl (ml_c215 hn) (c_X12_all l base D cA n hn σ12 _ hw) cv_X12_284 ⟨rfl, rfl⟩ ⟨by decide, by decide⟩ rfl rfl hl (Nat.le_of_ble_eq_true rfl) ⟨Nat.zero_le _, Nat.zero_le _⟩ dX12_word_56 (fun σ13 hw => ?_)
        refine ml_aload_n (pc := 59) X hl 1 rfl rfl dX12_word_59 ?_
        refine gf_X12_140 (pc := 60) X (ml_c215 hn) dX12_word_60 (fun r14 => ?_)
        have hw := hw r14
        refine ml_iconst (pc := 63) X dX12_word_63 ?_
        obtain ⟨v15, hw⟩ := hw
        refine ml_isub (pc := 64) X dX12_word_64 ?_
        exact ml_iret (pc := 65) X v15 hw dX12_word_65
      · have hw := hw.2 c9
        refine ml_iload_n (pc := 43) X hl 0 rfl rfl dX12_word_43 ?_
        exact ml_iret (pc := 44) X t8 hw dX12_word_44
    · have hw := hw.2 c4
      exact u_X12_word_17 X hn σ3   _ (lv_sub hl [] rfl) hw
set_option maxRecDepth 100000 in
theorem c_X12_word (l : Launch) (base : Nat) (D : va_G) (cA : Nat → ClassId) (n : Nat) (hn : 256 ≤ n) (σ : ml_St) (x1 : Int) (h_x1 : I32 x1) (Q : Int → ml_St → Prop) (hw : f_X12_word σ x1 Q) : Met l yX12_word (Cond.code yX12_word cX12_word 3 (some .int) :: ml_T) rm_X12_word (va_Pc [.ref (base + (215 : Int).toNat), .int (Int32.ofInt x1)] (ml_U base D cA n σ)) (ml_Qi I32 base D cA n Q) 0 0 (ml_A base) := by
  refine Met.ofW (cc := cX12_word) (maxL := 3) (ret := (some .int)) (by decide) rfl ?_
  intro p e s m args below meth c s₁ B hml hv
  obtain ⟨rfl, hP, hK, hok, hro⟩ := hv
  have X : ml_X p s m c meth _ D cA cX12_word 3 RX12 (some .int) := ⟨B.exec, B.bytes, hml, findClass_of_methodNamed B.named, fun w hw => atoms_spec (ws := Cond.code yX12_word cX12_word 3 (some .int) :: ml_T) B.pre w (List.mem_cons_of_mem _ hw), hK, B.notSynchronized, B.returns⟩
  have hl := lv_entry [.ref (base + (215 : Int).toNat), .int (Int32.ofInt x1)] (n := 3) (Nat.le_of_ble_eq_true rfl)
  rw [lg_entry_eq]
  generalize (lg_sl [.ref (base + (215 : Int).toNat), .int (Int32.ofInt x1)] ++ List.replicate (3 - (lg_sl [.ref (base + (215 : Int).toNat), .int (Int32.ofInt x1)]).length) Slot.unset).toArray = ls at hl ⊢
  have hl : lv_has ls 3 [(0, .ref (base + (215 : Int).toNat)), (1, .int (Int32.ofInt x1))] := hl
  unfold f_X12_word at hw
  exact u_X12_word_0 X hn σ x1 h_x1 _ (lv_sub hl [0, 1] rfl) hw s.heap [] hP va_S.rf hok hro
theorem dX12_isWord_0 : decode cX12_isWord 0 = .ok (.iload_n 1, 1) := by decide +kernel
theorem dX12_isWord_1 : decode cX12_isWord 1 = .ok (.i2l, 1) := by decide +kernel
theorem dX12_isWord_2 : decode cX12_isWord 2 = .ok (.lconst 0, 1) := by decide +kernel
theorem dX12_isWord_3 : decode cX12_isWord 3 = .ok (.aload_n 0, 1) := by decide +kernel
theorem dX12_isWord_4 : decode cX12_isWord 4 = .ok (.getfield 140, 3) := by decide +kernel
theorem dX12_isWord_7 : decode cX12_isWord 7 = .ok (.iconst 1, 1) := by decide +kernel
theorem dX12_isWord_8 : decode cX12_isWord 8 = .ok (.isub, 1) := by decide +kernel
theorem dX12_isWord_9 : decode cX12_isWord 9 = .ok (.i2l, 1) := by decide +kernel
theorem dX12_isWord_10 : decode cX12_isWord 10 = .ok (.invokestatic 143, 3) := by decide +kernel
theorem dX12_isWord_13 : decode cX12_isWord 13 = .ok (.ireturn, 1) := by decide +kernel
def f_X12_isWord_u0 (Q : Int → ml_St → Prop) (σ : ml_St) (x1 : Int) : Prop :=
∀ _ : I32 (σ 215 3),
I32 ((σ 215 3) - 1) ∧
f_X12_lies σ x1 0 ((σ 215 3) - 1) (fun r3 σ3 => ∀ _ : ml_B r3,
Q r3 σ3)
def f_X12_isWord (σ : ml_St) (x1 : Int) (Q : Int → ml_St → Prop) : Prop := f_X12_isWord_u0 Q σ x1
def rm_X12_isWord : Room := { frames := 1, cells := 0, slots := 0, locals := 25 }
set_option maxRecDepth 100000 in
set_option maxHeartbeats 4000000 in
theorem u_X12_isWord_0 {p : Program} {e : Env} {s : State} {m : MethodId} {args : Array Value} {below : List Frame} {meth : Method} {c : Code} {base : Nat} {D : va_G} {cA : Nat → ClassId} {n : Nat} {l : Launch} {Q : Int → ml_St → Prop} (X : ml_X p s m c meth args D cA cX12_isWord 2 RX12 (some .boolean)) (hn : 256 ≤ n) (σ : ml_St) (x1 : Int) (h_x1 : I32 x1) (ls : Array Slot) (hl : lv_has ls 2 [(0, .ref (base + (215 : Int).toNat)), (1, .int (Int32.ofInt x1))]) (hw : f_X12_isWord_u0 Q σ x1) : ml_V p l e rm_X12_isWord s m args below meth c (MQ below (ml_Qi ml_B base D cA n Q) args s 0 0 (ml_A base)) base D cA 0 0 n n σ (F0 m 0 ls []) := by
  unfold f_X12_isWord_u0 at hw
  refine ml_iload_n (pc := 0) X hl 1 rfl rfl dX12_isWord_0 ?_
  refine ml_i2l (pc := 1) X h_x1 dX12_isWord_1 ?_
  refine ml_lconst0 (pc := 2) X dX12_isWord_2 ?_
  refine ml_aload_n (pc := 3) X hl 0 rfl rfl dX12_isWord_3 ?_
  refine gf_X12_140 (pc := 4) X (ml_c215 hn) dX12_isWord_4 (fun r1 => ?_)
  have hw := hw r1
  refine ml_iconst (pc := 7) X dX12_isWord_7 ?_
  obtain ⟨v2, hw⟩ := hw
  refine ml_isub (pc := 8) X dX12_isWord_8 ?_
  refine ml_i2l (pc := 9) X v2 dX12_isWord_9 ?_
  refine ml_callzS (pc := 10) (rest := []) X [.long (Int64.ofInt x1), .long (Int64.ofInt 0), .long (Int64.ofInt ((σ 215 3) - 1))] (c_X12_lies l base D cA n hn σ x1 0 ((σ 215 3) - 1) (h_x1).l ⟨by decide, by decide⟩ (v2).l _ hw) cv_X12_143 ⟨rfl, rfl⟩ ⟨by decide, by decide⟩ rfl rfl hl (Nat.le_of_ble_eq_true rfl) ⟨Nat.zero_le _, Nat.zero_le _⟩ dX12_isWord_10 (fun r3 σ3 t3 hw => ?_)
  have hw := hw t3
  exact ml_zret (pc := 13) X t3 hw dX12_isWord_13
set_option maxRecDepth 100000 in
theorem c_X12_isWord (l : Launch) (base : Nat) (D : va_G) (cA : Nat → ClassId) (n : Nat) (hn : 256 ≤ n) (σ : ml_St) (x1 : Int) (h_x1 : I32 x1) (Q : Int → ml_St → Prop) (hw : f_X12_isWord σ x1 Q) : Met l yX12_isWord (Cond.code yX12_isWord cX12_isWord 2 (some .boolean) :: ml_T) rm_X12_isWord (va_Pc [.ref (base + (215 : Int).toNat), .int (Int32.ofInt x1)] (ml_U base D cA n σ)) (ml_Qi ml_B base D cA n Q) 0 0 (ml_A base) := by
  refine Met.ofW (cc := cX12_isWord) (maxL := 2) (ret := (some .boolean)) (by decide) rfl ?_
  intro p e s m args below meth c s₁ B hml hv
  obtain ⟨rfl, hP, hK, hok, hro⟩ := hv
  have X : ml_X p s m c meth _ D cA cX12_isWord 2 RX12 (some .boolean) := ⟨B.exec, B.bytes, hml, findClass_of_methodNamed B.named, fun w hw => atoms_spec (ws := Cond.code yX12_isWord cX12_isWord 2 (some .boolean) :: ml_T) B.pre w (List.mem_cons_of_mem _ hw), hK, B.notSynchronized, B.returns⟩
  have hl := lv_entry [.ref (base + (215 : Int).toNat), .int (Int32.ofInt x1)] (n := 2) (Nat.le_of_ble_eq_true rfl)
  rw [lg_entry_eq]
  generalize (lg_sl [.ref (base + (215 : Int).toNat), .int (Int32.ofInt x1)] ++ List.replicate (2 - (lg_sl [.ref (base + (215 : Int).toNat), .int (Int32.ofInt x1)]).length) Slot.unset).toArray = ls at hl ⊢
  have hl : lv_has ls 2 [(0, .ref (base + (215 : Int).toNat)), (1, .int (Int32.ofInt x1))] := hl
  unfold f_X12_isWord at hw
  exact u_X12_isWord_0 X hn σ x1 h_x1 _ (lv_sub hl [0, 1] rfl) hw s.heap [] hP va_S.rf hok hro
theorem dX12_change_0 : decode cX12_change 0 = .ok (.aload_n 0, 1) := by decide +kernel
theorem dX12_change_1 : decode cX12_change 1 = .ok (.iload_n 1, 1) := by decide +kernel
theorem dX12_change_2 : decode cX12_change 2 = .ok (.invokevirtual 287, 3) := by decide +kernel
theorem dX12_change_5 : decode cX12_change 5 = .ok (.ifCond .eq 11, 3) := by decide +kernel
theorem dX12_change_8 : decode cX12_change 8 = .ok (.aload_n 0, 1) := by decide +kernel
theorem dX12_change_9 : decode cX12_change 9 = .ok (.iload_n 2, 1) := by decide +kernel
theorem dX12_change_10 : decode cX12_change 10 = .ok (.invokevirtual 277, 3) := by decide +kernel
theorem dX12_change_13 : decode cX12_change 13 = .ok (.ifCond .ne 5, 3) := by decide +kernel
theorem dX12_change_16 : decode cX12_change 16 = .ok (.iconst (-1), 1) := by decide +kernel
theorem dX12_change_17 : decode cX12_change 17 = .ok (.ireturn, 1) := by decide +kernel
theorem dX12_change_18 : decode cX12_change 18 = .ok (.aload_n 0, 1) := by decide +kernel
theorem dX12_change_19 : decode cX12_change 19 = .ok (.iload_n 1, 1) := by decide +kernel
theorem dX12_change_20 : decode cX12_change 20 = .ok (.iload_n 2, 1) := by decide +kernel
theorem dX12_change_21 : decode cX12_change 21 = .ok (.invokevirtual 280, 3) := by decide +kernel
theorem dX12_change_24 : decode cX12_change 24 = .ok (.istore_n 3, 1) := by decide +kernel
theorem dX12_change_25 : decode cX12_change 25 = .ok (.iload_n 3, 1) := by decide +kernel
theorem dX12_change_26 : decode cX12_change 26 = .ok (.ifCond .ge 5, 3) := by decide +kernel
theorem dX12_change_29 : decode cX12_change 29 = .ok (.iload_n 3, 1) := by decide +kernel
theorem dX12_change_30 : decode cX12_change 30 = .ok (.ireturn, 1) := by decide +kernel
theorem dX12_change_31 : decode cX12_change 31 = .ok (.aload_n 0, 1) := by decide +kernel
theorem dX12_change_32 : decode cX12_change 32 = .ok (.invokevirtual 284, 3) := by decide +kernel
theorem dX12_change_35 : decode cX12_change 35 = .ok (.iload_n 1, 1) := by decide +kernel
theorem dX12_change_36 : decode cX12_change 36 = .ok (.ireturn, 1) := by decide +kernel
def f_X12_change_u16 (Q : Int → ml_St → Prop) (σ : ml_St) : Prop :=
Q (-1) σ
def f_X12_change_u0 (Q : Int → ml_St → Prop) (σ : ml_St) (x1 : Int) (x2 : Int) : Prop :=
f_X12_isWord σ x1 (fun r1 σ1 => ∀ _ : ml_B r1,
(r1 = 0 →
f_X12_change_u16 Q σ1) ∧
(r1 ≠ 0 →
f_X12_isLength σ1 x2 (fun r3 σ3 => ∀ _ : ml_B r3,
(r3 ≠ 0 →
f_X12_told σ3 x1 x2 (fun r5 σ5 => ∀ _ : I32 r5,
(0 ≤ r5 →
f_X12_all σ5 (fun σ7 =>
Q x1 σ7)) ∧
(¬ (0 ≤ r5) →
Q r5 σ5))) ∧
(r3 = 0 →
f_X12_change_u16 Q σ3))))
def f_X12_change (σ : ml_St) (x1 : Int) (x2 : Int) (Q : Int → ml_St → Prop) : Prop := f_X12_change_u0 Q σ x1 x2
def rm_X12_change : Room := { frames := 5, cells := 0, slots := 0, locals := 121 }
set_option maxRecDepth 100000 in
set_option maxHeartbeats 4000000 in
theorem u_X12_change_16 {p : Program} {e : Env} {s : State} {m : MethodId} {args : Array Value} {below : List Frame} {meth : Method} {c : Code} {base : Nat} {D : va_G} {cA : Nat → ClassId} {n : Nat} {l : Launch} {Q : Int → ml_St → Prop} (X : ml_X p s m c meth args D cA cX12_change 4 RX12 (some .int)) (hn : 256 ≤ n) (σ : ml_St) (ls : Array Slot) (hl : lv_has ls 4 []) (hw : f_X12_change_u16 Q σ) : ml_V p l e rm_X12_change s m args below meth c (MQ below (ml_Qi I32 base D cA n Q) args s 0 0 (ml_A base)) base D cA 0 0 n n σ (F0 m 16 ls []) := by
  unfold f_X12_change_u16 at hw
  refine ml_iconst (pc := 16) X dX12_change_16 ?_
  exact ml_iret (pc := 17) X ⟨by decide, by decide⟩ hw dX12_change_17
set_option maxRecDepth 100000 in
set_option maxHeartbeats 4000000 in
theorem u_X12_change_0 {p : Program} {e : Env} {s : State} {m : MethodId} {args : Array Value} {below : List Frame} {meth : Method} {c : Code} {base : Nat} {D : va_G} {cA : Nat → ClassId} {n : Nat} {l : Launch} {Q : Int → ml_St → Prop} (X : ml_X p s m c meth args D cA cX12_change 4 RX12 (some .int)) (hn : 256 ≤ n) (σ : ml_St) (x1 : Int) (x2 : Int) (h_x1 : I32 x1) (h_x2 : I32 x2) (ls : Array Slot) (hl : lv_has ls 4 [(0, .ref (base + (215 : Int).toNat)), (1, .int (Int32.ofInt x1)), (2, .int (Int32.ofInt x2))]) (hw : f_X12_change_u0 Q σ x1 x2) : ml_V p l e rm_X12_change s m args below meth c (MQ below (ml_Qi I32 base D cA n Q) args s 0 0 (ml_A base)) base D cA 0 0 n n σ (F0 m 0 ls []) := by
  unfold f_X12_change_u0 at hw
  refine ml_aload_n (pc := 0) X hl 0 rfl rfl dX12_change_0 ?_
  refine ml_iload_n (pc := 1) X hl 1 rfl rfl dX12_change_1 ?_
  refine ml_callzV (pc := 2) (rest := []) X [.int (Int32.ofInt x1)] (by decide) rfl (ml_c215 hn) (c_X12_isWord l base D cA n hn σ x1 h_x1 _ hw) cv_X12_287 ⟨rfl, rfl⟩ ⟨by decide, by decide⟩ rfl rfl hl (Nat.le_of_ble_eq_true rfl) ⟨Nat.zero_le _, Nat.zero_le _⟩ dX12_change_2 (fun r1 σ1 t1 hw => ?_)
  have hw := hw t1
  refine ml_if_eq (pc := 5) (tgt := 16) X t1.i dX12_change_5 (by decide) (fun c2 => ?_) (fun c2 => ?_)
  · have hw := hw.1 c2
    exact u_X12_change_16 X hn σ1   _ (lv_sub hl [] rfl) hw
  · have hw := hw.2 c2
    refine ml_aload_n (pc := 8) X hl 0 rfl rfl dX12_change_8 ?_
    refine ml_iload_n (pc := 9) X hl 2 rfl rfl dX12_change_9 ?_
    refine ml_callzV (pc := 10) (rest := []) X [.int (Int32.ofInt x2)] (by decide) rfl (ml_c215 hn) (c_X12_isLength l base D cA n hn σ1 x2 h_x2 _ hw) cv_X12_277 ⟨rfl, rfl⟩ ⟨by decide, by decide⟩ rfl rfl hl (Nat.le_of_ble_eq_true rfl) ⟨Nat.zero_le _, Nat.zero_le _⟩ dX12_change_10 (fun r3 σ3 t3 hw => ?_)
    have hw := hw t3
    refine ml_if_ne (pc := 13) (tgt := 18) X t3.i dX12_change_13 (by decide) (fun c4 => ?_) (fun c4 => ?_)
    · have hw := hw.1 c4
      refine ml_aload_n (pc := 18) X hl 0 rfl rfl dX12_change_18 ?_
      refine ml_iload_n (pc := 19) X hl 1 rfl rfl dX12_change_19 ?_
      refine ml_iload_n (pc := 20) X hl 2 rfl rfl dX12_change_20 ?_
      refine ml_calliV (pc := 21) (rest := []) X [.int (Int32.ofInt x1), .int (Int32.ofInt x2)] (by decide) rfl (ml_c215 hn) (c_X12_told l base D cA n hn σ3 x1 x2 h_x1 h_x2 _ hw) cv_X12_280 ⟨rfl, rfl⟩ ⟨by decide, by decide⟩ rfl rfl hl (Nat.le_of_ble_eq_true rfl) ⟨Nat.zero_le _, Nat.zero_le _⟩ dX12_change_21 (fun r5 σ5 t5 hw => ?_)
      have hw := hw t5
      refine ml_istore_n (pc := 24) X rfl hl (by decide) (lst' := [(3, .int (Int32.ofInt r5)), (0, .ref (base + (215 : Int).toNat)), (1, .int (Int32.ofInt x1)), (2, .int (Int32.ofInt x2))]) rfl dX12_change_24 (fun ls hl => ?_)
      refine ml_iload_n (pc := 25) X hl 0 rfl rfl dX12_change_25 ?_
      refine ml_if_ge (pc := 26) (tgt := 31) X t5 dX12_change_26 (by decide) (fun c6 => ?_) (fun c6 => ?_)
      · have hw := hw.1 c6
        refine ml_aload_n (pc := 31) X hl 1 rfl rfl dX12_change_31 ?_
        refine ml_callvV (pc := 32) (rest := []) X [] (by decide) rfl (ml_c215 hn) (c_X12_all l base D cA n hn σ5 _ hw) cv_X12_284 ⟨rfl, rfl⟩ ⟨by decide, by decide⟩ rfl rfl hl (Nat.le_of_ble_eq_true rfl) ⟨Nat.zero_le _, Nat.zero_le _⟩ dX12_change_32 (fun σ7 hw => ?_)
        refine ml_iload_n (pc := 35) X hl 2 rfl rfl dX12_change_35 ?_
        exact ml_iret (pc := 36) X h_x1 hw dX12_change_36
      · have hw := hw.2 c6
        refine ml_iload_n (pc := 29) X hl 0 rfl rfl dX12_change_29 ?_
        exact ml_iret (pc := 30) X t5 hw dX12_change_30
    · have hw := hw.2 c4
      exact u_X12_change_16 X hn σ3   _ (lv_sub hl [] rfl) hw
set_option maxRecDepth 100000 in
theorem c_X12_change (l : Launch) (base : Nat) (D : va_G) (cA : Nat → ClassId) (n : Nat) (hn : 256 ≤ n) (σ : ml_St) (x1 : Int) (x2 : Int) (h_x1 : I32 x1) (h_x2 : I32 x2) (Q : Int → ml_St → Prop) (hw : f_X12_change σ x1 x2 Q) : Met l yX12_change (Cond.code yX12_change cX12_change 4 (some .int) :: ml_T) rm_X12_change (va_Pc [.ref (base + (215 : Int).toNat), .int (Int32.ofInt x1), .int (Int32.ofInt x2)] (ml_U base D cA n σ)) (ml_Qi I32 base D cA n Q) 0 0 (ml_A base) := by
  refine Met.ofW (cc := cX12_change) (maxL := 4) (ret := (some .int)) (by decide) rfl ?_
  intro p e s m args below meth c s₁ B hml hv
  obtain ⟨rfl, hP, hK, hok, hro⟩ := hv
  have X : ml_X p s m c meth _ D cA cX12_change 4 RX12 (some .int) := ⟨B.exec, B.bytes, hml, findClass_of_methodNamed B.named, fun w hw => atoms_spec (ws := Cond.code yX12_change cX12_change 4 (some .int) :: ml_T) B.pre w (List.mem_cons_of_mem _ hw), hK, B.notSynchronized, B.returns⟩
  have hl := lv_entry [.ref (base + (215 : Int).toNat), .int (Int32.ofInt x1), .int (Int32.ofInt x2)] (n := 4) (Nat.le_of_ble_eq_true rfl)
  rw [lg_entry_eq]
  generalize (lg_sl [.ref (base + (215 : Int).toNat), .int (Int32.ofInt x1), .int (Int32.ofInt x2)] ++ List.replicate (4 - (lg_sl [.ref (base + (215 : Int).toNat), .int (Int32.ofInt x1), .int (Int32.ofInt x2)]).length) Slot.unset).toArray = ls at hl ⊢
  have hl : lv_has ls 4 [(0, .ref (base + (215 : Int).toNat)), (1, .int (Int32.ofInt x1)), (2, .int (Int32.ofInt x2))] := hl
  unfold f_X12_change at hw
  exact u_X12_change_0 X hn σ x1 x2 h_x1 h_x2 _ (lv_sub hl [0, 1, 2] rfl) hw s.heap [] hP va_S.rf hok hro
theorem dX12_round_0 : decode cX12_round 0 = .ok (.aload_n 0, 1) := by decide +kernel
theorem dX12_round_1 : decode cX12_round 1 = .ok (.iconst 0, 1) := by decide +kernel
theorem dX12_round_2 : decode cX12_round 2 = .ok (.putfield 151, 3) := by decide +kernel
theorem dX12_round_5 : decode cX12_round 5 = .ok (.iconst 1, 1) := by decide +kernel
theorem dX12_round_6 : decode cX12_round 6 = .ok (.ireturn, 1) := by decide +kernel
def f_X12_round_u0 (Q : Int → ml_St → Prop) (σ : ml_St) : Prop :=
∀ σ1, σ1 = ml_up σ 215 4 0 →
Q 1 σ1
def f_X12_round (σ : ml_St) (Q : Int → ml_St → Prop) : Prop := f_X12_round_u0 Q σ
def rm_X12_round : Room := { frames := 0, cells := 0, slots := 0, locals := 0 }
set_option maxRecDepth 100000 in
set_option maxHeartbeats 4000000 in
theorem u_X12_round_0 {p : Program} {e : Env} {s : State} {m : MethodId} {args : Array Value} {below : List Frame} {meth : Method} {c : Code} {base : Nat} {D : va_G} {cA : Nat → ClassId} {n : Nat} {l : Launch} {Q : Int → ml_St → Prop} (X : ml_X p s m c meth args D cA cX12_round 1 RX12 (some .boolean)) (hn : 256 ≤ n) (σ : ml_St) (ls : Array Slot) (hl : lv_has ls 1 [(0, .ref (base + (215 : Int).toNat))]) (hw : f_X12_round_u0 Q σ) : ml_V p l e rm_X12_round s m args below meth c (MQ below (ml_Qi ml_B base D cA n Q) args s 0 0 (ml_A base)) base D cA 0 0 n n σ (F0 m 0 ls []) := by
  unfold f_X12_round_u0 at hw
  refine ml_aload_n (pc := 0) X hl 0 rfl rfl dX12_round_0 ?_
  refine ml_iconst (pc := 1) X dX12_round_1 ?_
  refine pf_X12_151 (pc := 2) X (ml_c215 hn) ⟨by decide, by decide⟩ dX12_round_2 (fun σ1 g1 => ?_)
  have hw := hw σ1 g1
  refine ml_iconst (pc := 5) X dX12_round_5 ?_
  exact ml_zret (pc := 6) X ⟨by decide, by decide⟩ hw dX12_round_6
set_option maxRecDepth 100000 in
theorem c_X12_round (l : Launch) (base : Nat) (D : va_G) (cA : Nat → ClassId) (n : Nat) (hn : 256 ≤ n) (σ : ml_St) (Q : Int → ml_St → Prop) (hw : f_X12_round σ Q) : Met l yX12_round (Cond.code yX12_round cX12_round 1 (some .boolean) :: ml_T) rm_X12_round (va_Pc [.ref (base + (215 : Int).toNat)] (ml_U base D cA n σ)) (ml_Qi ml_B base D cA n Q) 0 0 (ml_A base) := by
  refine Met.ofW (cc := cX12_round) (maxL := 1) (ret := (some .boolean)) (by decide) rfl ?_
  intro p e s m args below meth c s₁ B hml hv
  obtain ⟨rfl, hP, hK, hok, hro⟩ := hv
  have X : ml_X p s m c meth _ D cA cX12_round 1 RX12 (some .boolean) := ⟨B.exec, B.bytes, hml, findClass_of_methodNamed B.named, fun w hw => atoms_spec (ws := Cond.code yX12_round cX12_round 1 (some .boolean) :: ml_T) B.pre w (List.mem_cons_of_mem _ hw), hK, B.notSynchronized, B.returns⟩
  have hl := lv_entry [.ref (base + (215 : Int).toNat)] (n := 1) (Nat.le_of_ble_eq_true rfl)
  rw [lg_entry_eq]
  generalize (lg_sl [.ref (base + (215 : Int).toNat)] ++ List.replicate (1 - (lg_sl [.ref (base + (215 : Int).toNat)]).length) Slot.unset).toArray = ls at hl ⊢
  have hl : lv_has ls 1 [(0, .ref (base + (215 : Int).toNat))] := hl
  unfold f_X12_round at hw
  exact u_X12_round_0 X hn σ  _ (lv_sub hl [0] rfl) hw s.heap [] hP va_S.rf hok hro
theorem dX12_caps_0 : decode cX12_caps 0 = .ok (.aload_n 0, 1) := by decide +kernel
theorem dX12_caps_1 : decode cX12_caps 1 = .ok (.getfield 13, 3) := by decide +kernel
theorem dX12_caps_4 : decode cX12_caps 4 = .ok (.iconst 2, 1) := by decide +kernel
theorem dX12_caps_5 : decode cX12_caps 5 = .ok (.irem, 1) := by decide +kernel
theorem dX12_caps_6 : decode cX12_caps 6 = .ok (.iconst 1, 1) := by decide +kernel
theorem dX12_caps_7 : decode cX12_caps 7 = .ok (.if_icmp .eq 16, 3) := by decide +kernel
theorem dX12_caps_10 : decode cX12_caps 10 = .ok (.aload_n 0, 1) := by decide +kernel
theorem dX12_caps_11 : decode cX12_caps 11 = .ok (.getfield 155, 3) := by decide +kernel
theorem dX12_caps_14 : decode cX12_caps 14 = .ok (.iconst 2, 1) := by decide +kernel
theorem dX12_caps_15 : decode cX12_caps 15 = .ok (.aload_n 0, 1) := by decide +kernel
theorem dX12_caps_16 : decode cX12_caps 16 = .ok (.getfield 13, 3) := by decide +kernel
theorem dX12_caps_19 : decode cX12_caps 19 = .ok (.imul, 1) := by decide +kernel
theorem dX12_caps_20 : decode cX12_caps 20 = .ok (.if_icmp .ge 5, 3) := by decide +kernel
theorem dX12_caps_23 : decode cX12_caps 23 = .ok (.iconst 0, 1) := by decide +kernel
theorem dX12_caps_24 : decode cX12_caps 24 = .ok (.ireturn, 1) := by decide +kernel
theorem dX12_caps_25 : decode cX12_caps 25 = .ok (.aload_n 0, 1) := by decide +kernel
theorem dX12_caps_26 : decode cX12_caps 26 = .ok (.iconst 0, 1) := by decide +kernel
theorem dX12_caps_27 : decode cX12_caps 27 = .ok (.putfield 155, 3) := by decide +kernel
theorem dX12_caps_30 : decode cX12_caps 30 = .ok (.iconst 0, 1) := by decide +kernel
theorem dX12_caps_31 : decode cX12_caps 31 = .ok (.istore_n 1, 1) := by decide +kernel
theorem dX12_caps_32 : decode cX12_caps 32 = .ok (.iload_n 1, 1) := by decide +kernel
theorem dX12_caps_33 : decode cX12_caps 33 = .ok (.iconst 2, 1) := by decide +kernel
theorem dX12_caps_34 : decode cX12_caps 34 = .ok (.aload_n 0, 1) := by decide +kernel
theorem dX12_caps_35 : decode cX12_caps 35 = .ok (.getfield 13, 3) := by decide +kernel
theorem dX12_caps_38 : decode cX12_caps 38 = .ok (.imul, 1) := by decide +kernel
theorem dX12_caps_39 : decode cX12_caps 39 = .ok (.if_icmp .ge 80, 3) := by decide +kernel
theorem dX12_caps_42 : decode cX12_caps 42 = .ok (.aload_n 0, 1) := by decide +kernel
theorem dX12_caps_43 : decode cX12_caps 43 = .ok (.getfield 7, 3) := by decide +kernel
theorem dX12_caps_46 : decode cX12_caps 46 = .ok (.iload_n 1, 1) := by decide +kernel
theorem dX12_caps_47 : decode cX12_caps 47 = .ok (.baload, 1) := by decide +kernel
theorem dX12_caps_48 : decode cX12_caps 48 = .ok (.sipush 255, 3) := by decide +kernel
theorem dX12_caps_51 : decode cX12_caps 51 = .ok (.iand, 1) := by decide +kernel
theorem dX12_caps_52 : decode cX12_caps 52 = .ok (.istore_n 2, 1) := by decide +kernel
theorem dX12_caps_53 : decode cX12_caps 53 = .ok (.iload_n 2, 1) := by decide +kernel
theorem dX12_caps_54 : decode cX12_caps 54 = .ok (.iconst 2, 1) := by decide +kernel
theorem dX12_caps_55 : decode cX12_caps 55 = .ok (.aload_n 0, 1) := by decide +kernel
theorem dX12_caps_56 : decode cX12_caps 56 = .ok (.getfield 13, 3) := by decide +kernel
theorem dX12_caps_59 : decode cX12_caps 59 = .ok (.imul, 1) := by decide +kernel
theorem dX12_caps_60 : decode cX12_caps 60 = .ok (.if_icmp .ge 51, 3) := by decide +kernel
theorem dX12_caps_63 : decode cX12_caps 63 = .ok (.iload_n 2, 1) := by decide +kernel
theorem dX12_caps_64 : decode cX12_caps 64 = .ok (.iload_n 1, 1) := by decide +kernel
theorem dX12_caps_65 : decode cX12_caps 65 = .ok (.if_icmp .eq 46, 3) := by decide +kernel
theorem dX12_caps_68 : decode cX12_caps 68 = .ok (.iload_n 2, 1) := by decide +kernel
theorem dX12_caps_69 : decode cX12_caps 69 = .ok (.aload_n 0, 1) := by decide +kernel
theorem dX12_caps_70 : decode cX12_caps 70 = .ok (.getfield 13, 3) := by decide +kernel
theorem dX12_caps_73 : decode cX12_caps 73 = .ok (.if_icmp .ge 7, 3) := by decide +kernel
theorem dX12_caps_76 : decode cX12_caps 76 = .ok (.iconst 1, 1) := by decide +kernel
theorem dX12_caps_77 : decode cX12_caps 77 = .ok (.goto 4, 3) := by decide +kernel
theorem dX12_caps_80 : decode cX12_caps 80 = .ok (.iconst 0, 1) := by decide +kernel
theorem dX12_caps_81 : decode cX12_caps 81 = .ok (.iload_n 1, 1) := by decide +kernel
theorem dX12_caps_82 : decode cX12_caps 82 = .ok (.aload_n 0, 1) := by decide +kernel
theorem dX12_caps_83 : decode cX12_caps 83 = .ok (.getfield 13, 3) := by decide +kernel
theorem dX12_caps_86 : decode cX12_caps 86 = .ok (.if_icmp .ge 7, 3) := by decide +kernel
theorem dX12_caps_89 : decode cX12_caps 89 = .ok (.iconst 1, 1) := by decide +kernel
theorem dX12_caps_90 : decode cX12_caps 90 = .ok (.goto 4, 3) := by decide +kernel
theorem dX12_caps_93 : decode cX12_caps 93 = .ok (.iconst 0, 1) := by decide +kernel
theorem dX12_caps_94 : decode cX12_caps 94 = .ok (.if_icmp .ne 17, 3) := by decide +kernel
theorem dX12_caps_97 : decode cX12_caps 97 = .ok (.aload_n 0, 1) := by decide +kernel
theorem dX12_caps_98 : decode cX12_caps 98 = .ok (.getfield 7, 3) := by decide +kernel
theorem dX12_caps_101 : decode cX12_caps 101 = .ok (.iload_n 2, 1) := by decide +kernel
theorem dX12_caps_102 : decode cX12_caps 102 = .ok (.baload, 1) := by decide +kernel
theorem dX12_caps_103 : decode cX12_caps 103 = .ok (.sipush 255, 3) := by decide +kernel
theorem dX12_caps_106 : decode cX12_caps 106 = .ok (.iand, 1) := by decide +kernel
theorem dX12_caps_107 : decode cX12_caps 107 = .ok (.iload_n 1, 1) := by decide +kernel
theorem dX12_caps_108 : decode cX12_caps 108 = .ok (.if_icmp .eq 5, 3) := by decide +kernel
theorem dX12_caps_111 : decode cX12_caps 111 = .ok (.iconst 0, 1) := by decide +kernel
theorem dX12_caps_112 : decode cX12_caps 112 = .ok (.ireturn, 1) := by decide +kernel
theorem dX12_caps_113 : decode cX12_caps 113 = .ok (.iinc 1 1, 3) := by decide +kernel
theorem dX12_caps_116 : decode cX12_caps 116 = .ok (.goto (-84), 3) := by decide +kernel
theorem dX12_caps_119 : decode cX12_caps 119 = .ok (.iconst 0, 1) := by decide +kernel
theorem dX12_caps_120 : decode cX12_caps 120 = .ok (.istore_n 1, 1) := by decide +kernel
theorem dX12_caps_121 : decode cX12_caps 121 = .ok (.iload_n 1, 1) := by decide +kernel
theorem dX12_caps_122 : decode cX12_caps 122 = .ok (.iconst 2, 1) := by decide +kernel
theorem dX12_caps_123 : decode cX12_caps 123 = .ok (.aload_n 0, 1) := by decide +kernel
theorem dX12_caps_124 : decode cX12_caps 124 = .ok (.getfield 13, 3) := by decide +kernel
theorem dX12_caps_127 : decode cX12_caps 127 = .ok (.imul, 1) := by decide +kernel
theorem dX12_caps_128 : decode cX12_caps 128 = .ok (.if_icmp .ge 21, 3) := by decide +kernel
theorem dX12_caps_131 : decode cX12_caps 131 = .ok (.aload_n 0, 1) := by decide +kernel
theorem dX12_caps_132 : decode cX12_caps 132 = .ok (.getfield 17, 3) := by decide +kernel
theorem dX12_caps_135 : decode cX12_caps 135 = .ok (.iload_n 1, 1) := by decide +kernel
theorem dX12_caps_136 : decode cX12_caps 136 = .ok (.aload_n 0, 1) := by decide +kernel
theorem dX12_caps_137 : decode cX12_caps 137 = .ok (.getfield 7, 3) := by decide +kernel
theorem dX12_caps_140 : decode cX12_caps 140 = .ok (.iload_n 1, 1) := by decide +kernel
theorem dX12_caps_141 : decode cX12_caps 141 = .ok (.baload, 1) := by decide +kernel
theorem dX12_caps_142 : decode cX12_caps 142 = .ok (.iastore, 1) := by decide +kernel
theorem dX12_caps_143 : decode cX12_caps 143 = .ok (.iinc 1 1, 3) := by decide +kernel
theorem dX12_caps_146 : decode cX12_caps 146 = .ok (.goto (-25), 3) := by decide +kernel
theorem dX12_caps_149 : decode cX12_caps 149 = .ok (.aload_n 0, 1) := by decide +kernel
theorem dX12_caps_150 : decode cX12_caps 150 = .ok (.iconst 1, 1) := by decide +kernel
theorem dX12_caps_151 : decode cX12_caps 151 = .ok (.putfield 151, 3) := by decide +kernel
theorem dX12_caps_154 : decode cX12_caps 154 = .ok (.iconst 1, 1) := by decide +kernel
theorem dX12_caps_155 : decode cX12_caps 155 = .ok (.ireturn, 1) := by decide +kernel
def f_X12_caps_u23 (Q : Int → ml_St → Prop) (σ : ml_St) : Prop :=
Q 0 σ
def f_X12_caps_u94 (Q : Int → ml_St → Prop) (K32 : ml_St → Int → Prop) (K111 : ml_St → Prop) (σ : ml_St) (x1 : Int) (x2 : Int) (s0 : Int) (s1 : Int) : Prop :=
(s0 ≠ s1 →
K111 σ) ∧
(s0 = s1 →
(0 : Int) ≤ x2 ∧ (x2 : Int) < 200 ∧
∀ _ : ml_I8 (σ 216 x2),
((b_and (σ 216 x2) 255) = x1 →
I32 (x1 + 1) ∧
∀ y4 : Int, y4 = x1 + 1 →
K32 σ y4) ∧
((b_and (σ 216 x2) 255) ≠ x1 →
K111 σ))
def f_X12_caps_u81 (Q : Int → ml_St → Prop) (K32 : ml_St → Int → Prop) (K111 : ml_St → Prop) (σ : ml_St) (x1 : Int) (x2 : Int) (s0 : Int) : Prop :=
∀ _ : I32 (σ 215 2),
((σ 215 2) ≤ x1 →
f_X12_caps_u94 Q K32 K111 σ x1 x2 s0 0) ∧
(¬ ((σ 215 2) ≤ x1) →
f_X12_caps_u94 Q K32 K111 σ x1 x2 s0 1)
def f_X12_caps_u32 (Q : Int → ml_St → Prop) (K111 : ml_St → Prop) (K119 : ml_St → Prop) : Nat → ml_St → Int → Prop
| 0, _, _ => False
| N + 1, σ, x1 =>
∀ _ : I32 (σ 215 2),
I32 (2 * (σ 215 2)) ∧
((2 * (σ 215 2)) ≤ x1 →
K119 σ) ∧
(¬ ((2 * (σ 215 2)) ≤ x1) →
(0 : Int) ≤ x1 ∧ (x1 : Int) < 200 ∧
∀ _ : ml_I8 (σ 216 x1),
∀ y5 : Int, y5 = b_and (σ 216 x1) 255 →
∀ _ : I32 (σ 215 2),
I32 (2 * (σ 215 2)) ∧
((2 * (σ 215 2)) ≤ y5 →
K111 σ) ∧
(¬ ((2 * (σ 215 2)) ≤ y5) →
(y5 = x1 →
K111 σ) ∧
(y5 ≠ x1 →
∀ _ : I32 (σ 215 2),
((σ 215 2) ≤ y5 →
f_X12_caps_u81 Q (f_X12_caps_u32 Q K111 K119 N) K111 σ x1 y5 0) ∧
(¬ ((σ 215 2) ≤ y5) →
f_X12_caps_u81 Q (f_X12_caps_u32 Q K111 K119 N) K111 σ x1 y5 1))))
def f_X12_caps_u111 (Q : Int → ml_St → Prop) (σ : ml_St) : Prop :=
Q 0 σ
def f_X12_caps_u121 (Q : Int → ml_St → Prop) (K149 : ml_St → Prop) : Nat → ml_St → Int → Prop
| 0, _, _ => False
| N + 1, σ, x1 =>
∀ _ : I32 (σ 215 2),
I32 (2 * (σ 215 2)) ∧
((2 * (σ 215 2)) ≤ x1 →
K149 σ) ∧
(¬ ((2 * (σ 215 2)) ≤ x1) →
(0 : Int) ≤ x1 ∧ (x1 : Int) < 200 ∧
∀ _ : ml_I8 (σ 216 x1),
(0 : Int) ≤ x1 ∧ (x1 : Int) < 10 ∧
∀ σ5, σ5 = ml_up σ 217 x1 (σ 216 x1) →
I32 (x1 + 1) ∧
∀ y6 : Int, y6 = x1 + 1 →
f_X12_caps_u121 Q K149 N σ5 y6)
def f_X12_caps_u149 (Q : Int → ml_St → Prop) (σ : ml_St) : Prop :=
∀ σ1, σ1 = ml_up σ 215 4 1 →
Q 1 σ1
def f_X12_caps_u119 (Q : Int → ml_St → Prop) (σ : ml_St) : Prop :=
∃ N1, f_X12_caps_u121 Q (f_X12_caps_u149 Q) N1 σ 0
def f_X12_caps_u0 (Q : Int → ml_St → Prop) (σ : ml_St) : Prop :=
∀ _ : I32 (σ 215 2),
(2 : Int) ≠ 0 ∧ I32 (Int.tmod (σ 215 2) 2) ∧
(((Int.tmod (σ 215 2) 2) : Int) = 1 →
f_X12_caps_u23 Q σ) ∧
((Int.tmod (σ 215 2) 2) ≠ 1 →
∀ _ : I32 (σ 215 1),
∀ _ : I32 (σ 215 2),
I32 (2 * (σ 215 2)) ∧
((2 * (σ 215 2)) ≤ ((σ 215 1) : Int) →
∀ σ8, σ8 = ml_up σ 215 1 0 →
∃ N1, f_X12_caps_u32 Q (f_X12_caps_u111 Q) (f_X12_caps_u119 Q) N1 σ8 0) ∧
(¬ ((2 * (σ 215 2)) ≤ ((σ 215 1) : Int)) →
f_X12_caps_u23 Q σ))
def f_X12_caps (σ : ml_St) (Q : Int → ml_St → Prop) : Prop := f_X12_caps_u0 Q σ
def rm_X12_caps : Room := { frames := 0, cells := 0, slots := 0, locals := 0 }
set_option maxRecDepth 100000 in
set_option maxHeartbeats 4000000 in
theorem u_X12_caps_23 {p : Program} {e : Env} {s : State} {m : MethodId} {args : Array Value} {below : List Frame} {meth : Method} {c : Code} {base : Nat} {D : va_G} {cA : Nat → ClassId} {n : Nat} {l : Launch} {Q : Int → ml_St → Prop} (X : ml_X p s m c meth args D cA cX12_caps 3 RX12 (some .boolean)) (hn : 256 ≤ n) (σ : ml_St) (ls : Array Slot) (hl : lv_has ls 3 []) (hw : f_X12_caps_u23 Q σ) : ml_V p l e rm_X12_caps s m args below meth c (MQ below (ml_Qi ml_B base D cA n Q) args s 0 0 (ml_A base)) base D cA 0 0 n n σ (F0 m 23 ls []) := by
  unfold f_X12_caps_u23 at hw
  refine ml_iconst (pc := 23) X dX12_caps_23 ?_
  exact ml_zret (pc := 24) X ⟨by decide, by decide⟩ hw dX12_caps_24
set_option maxRecDepth 100000 in
set_option maxHeartbeats 4000000 in
theorem u_X12_caps_94 {p : Program} {e : Env} {s : State} {m : MethodId} {args : Array Value} {below : List Frame} {meth : Method} {c : Code} {base : Nat} {D : va_G} {cA : Nat → ClassId} {n : Nat} {l : Launch} {Q : Int → ml_St → Prop} {K32 : ml_St → Int → Prop} {K111 : ml_St → Prop} (X : ml_X p s m c meth args D cA cX12_caps 3 RX12 (some .boolean)) (hn : 256 ≤ n) (hK32 : ∀ (σ : ml_St) (x1 : Int) (h_x1 : I32 x1) (ls : Array Slot), lv_has ls 3 [(0, .ref (base + (215 : Int).toNat)), (1, .int (Int32.ofInt x1))] → K32 σ x1 → ml_V p l e rm_X12_caps s m args below meth c (MQ below (ml_Qi ml_B base D cA n Q) args s 0 0 (ml_A base)) base D cA 0 0 n n σ (F0 m 32 ls [])) (hK111 : ∀ (σ : ml_St) (ls : Array Slot), lv_has ls 3 [] → K111 σ → ml_V p l e rm_X12_caps s m args below meth c (MQ below (ml_Qi ml_B base D cA n Q) args s 0 0 (ml_A base)) base D cA 0 0 n n σ (F0 m 111 ls [])) (σ : ml_St) (x1 : Int) (x2 : Int) (s0 : Int) (s1 : Int) (h_x1 : I32 x1) (h_x2 : I32 x2) (h_s0 : ml_B s0) (h_s1 : ml_B s1) (ls : Array Slot) (hl : lv_has ls 3 [(0, .ref (base + (215 : Int).toNat)), (1, .int (Int32.ofInt x1)), (2, .int (Int32.ofInt x2))]) (hw : f_X12_caps_u94 Q K32 K111 σ x1 x2 s0 s1) : ml_V p l e rm_X12_caps s m args below meth c (MQ below (ml_Qi ml_B base D cA n Q) args s 0 0 (ml_A base)) base D cA 0 0 n n σ (F0 m 94 ls [.int (Int32.ofInt s1), .int (Int32.ofInt s0)]) := by
  unfold f_X12_caps_u94 at hw
  refine ml_icmp_ne (pc := 94) (tgt := 111) X h_s0.i h_s1.i dX12_caps_94 (by decide) (fun c1 => ?_) (fun c1 => ?_)
  · have hw := hw.1 c1
    exact hK111 σ   _ (lv_sub hl [] rfl) hw
  · have hw := hw.2 c1
    refine ml_aload_n (pc := 97) X hl 0 rfl rfl dX12_caps_97 ?_
    refine gf_X12_7 (pc := 98) X (ml_c215 hn) dX12_caps_98 ?_
    refine ml_iload_n (pc := 101) X hl 2 rfl rfl dX12_caps_101 ?_
    obtain ⟨a2, b2, hw⟩ := hw
    refine ml_bald (pc := 102) (N := 200) X (ml_c216 hn) a2 b2 dX12_caps_102 (fun r2 => ?_)
    have hw := hw r2
    refine ml_sipush (pc := 103) X dX12_caps_103 (by decide) ?_
    refine ml_iand (pc := 106) X dX12_caps_106 ?_
    refine ml_iload_n (pc := 107) X hl 1 rfl rfl dX12_caps_107 ?_
    refine ml_icmp_eq (pc := 108) (tgt := 113) X (b_and_r _ _) h_x1 dX12_caps_108 (by decide) (fun c3 => ?_) (fun c3 => ?_)
    · have hw := hw.1 c3
      obtain ⟨v4, hw⟩ := hw
      obtain ⟨y4, e4⟩ : ∃ y : Int, y = x1 + 1 := ⟨_, rfl⟩
      have hw := hw y4 e4
      rw [← e4] at v4
      refine ml_iinc (pc := 113) X e4 hl 1 rfl (by decide) (lst' := [(1, .int (Int32.ofInt y4)), (0, .ref (base + (215 : Int).toNat)), (2, .int (Int32.ofInt x2))]) rfl dX12_caps_113 (fun ls hl => ?_)
      refine ml_goto (pc := 116) (tgt := 32) X dX12_caps_116 (by decide) ?_
      exact hK32 σ y4 v4 _ (lv_sub hl [1, 0] rfl) hw
    · have hw := hw.2 c3
      exact hK111 σ   _ (lv_sub hl [] rfl) hw
set_option maxRecDepth 100000 in
set_option maxHeartbeats 4000000 in
theorem u_X12_caps_81 {p : Program} {e : Env} {s : State} {m : MethodId} {args : Array Value} {below : List Frame} {meth : Method} {c : Code} {base : Nat} {D : va_G} {cA : Nat → ClassId} {n : Nat} {l : Launch} {Q : Int → ml_St → Prop} {K32 : ml_St → Int → Prop} {K111 : ml_St → Prop} (X : ml_X p s m c meth args D cA cX12_caps 3 RX12 (some .boolean)) (hn : 256 ≤ n) (hK32 : ∀ (σ : ml_St) (x1 : Int) (h_x1 : I32 x1) (ls : Array Slot), lv_has ls 3 [(0, .ref (base + (215 : Int).toNat)), (1, .int (Int32.ofInt x1))] → K32 σ x1 → ml_V p l e rm_X12_caps s m args below meth c (MQ below (ml_Qi ml_B base D cA n Q) args s 0 0 (ml_A base)) base D cA 0 0 n n σ (F0 m 32 ls [])) (hK111 : ∀ (σ : ml_St) (ls : Array Slot), lv_has ls 3 [] → K111 σ → ml_V p l e rm_X12_caps s m args below meth c (MQ below (ml_Qi ml_B base D cA n Q) args s 0 0 (ml_A base)) base D cA 0 0 n n σ (F0 m 111 ls [])) (σ : ml_St) (x1 : Int) (x2 : Int) (s0 : Int) (h_x1 : I32 x1) (h_x2 : I32 x2) (h_s0 : ml_B s0) (ls : Array Slot) (hl : lv_has ls 3 [(0, .ref (base + (215 : Int).toNat)), (1, .int (Int32.ofInt x1)), (2, .int (Int32.ofInt x2))]) (hw : f_X12_caps_u81 Q K32 K111 σ x1 x2 s0) : ml_V p l e rm_X12_caps s m args below meth c (MQ below (ml_Qi ml_B base D cA n Q) args s 0 0 (ml_A base)) base D cA 0 0 n n σ (F0 m 81 ls [.int (Int32.ofInt s0)]) := by
  unfold f_X12_caps_u81 at hw
  refine ml_iload_n (pc := 81) X hl 1 rfl rfl dX12_caps_81 ?_
  refine ml_aload_n (pc := 82) X hl 0 rfl rfl dX12_caps_82 ?_
  refine gf_X12_13 (pc := 83) X (ml_c215 hn) dX12_caps_83 (fun r1 => ?_)
  have hw := hw r1
  refine ml_icmp_ge (pc := 86) (tgt := 93) X h_x1 r1 dX12_caps_86 (by decide) (fun c2 => ?_) (fun c2 => ?_)
  · have hw := hw.1 c2
    refine ml_iconst (pc := 93) X dX12_caps_93 ?_
    exact u_X12_caps_94 X hn hK32 hK111 σ x1 x2 s0 0 h_x1 h_x2 h_s0 ⟨by decide, by decide⟩ _ (lv_sub hl [0, 1, 2] rfl) hw
  · have hw := hw.2 c2
    refine ml_iconst (pc := 89) X dX12_caps_89 ?_
    refine ml_goto (pc := 90) (tgt := 94) X dX12_caps_90 (by decide) ?_
    exact u_X12_caps_94 X hn hK32 hK111 σ x1 x2 s0 1 h_x1 h_x2 h_s0 ⟨by decide, by decide⟩ _ (lv_sub hl [0, 1, 2] rfl) hw
set_option maxRecDepth 100000 in
set_option maxHeartbeats 4000000 in
theorem u_X12_caps_32 {p : Program} {e : Env} {s : State} {m : MethodId} {args : Array Value} {below : List Frame} {meth : Method} {c : Code} {base : Nat} {D : va_G} {cA : Nat → ClassId} {n : Nat} {l : Launch} {Q : Int → ml_St → Prop} {K111 : ml_St → Prop} {K119 : ml_St → Prop} (X : ml_X p s m c meth args D cA cX12_caps 3 RX12 (some .boolean)) (hn : 256 ≤ n) (hK111 : ∀ (σ : ml_St) (ls : Array Slot), lv_has ls 3 [] → K111 σ → ml_V p l e rm_X12_caps s m args below meth c (MQ below (ml_Qi ml_B base D cA n Q) args s 0 0 (ml_A base)) base D cA 0 0 n n σ (F0 m 111 ls [])) (hK119 : ∀ (σ : ml_St) (ls : Array Slot), lv_has ls 3 [(0, .ref (base + (215 : Int).toNat))] → K119 σ → ml_V p l e rm_X12_caps s m args below meth c (MQ below (ml_Qi ml_B base D cA n Q) args s 0 0 (ml_A base)) base D cA 0 0 n n σ (F0 m 119 ls [])) : ∀ (N : Nat) (σ : ml_St) (x1 : Int) (h_x1 : I32 x1) (ls : Array Slot), lv_has ls 3 [(0, .ref (base + (215 : Int).toNat)), (1, .int (Int32.ofInt x1))] → f_X12_caps_u32 Q K111 K119 N σ x1 → ml_V p l e rm_X12_caps s m args below meth c (MQ below (ml_Qi ml_B base D cA n Q) args s 0 0 (ml_A base)) base D cA 0 0 n n σ (F0 m 32 ls []) := by
  intro N
  induction N with
  | zero => intro σ x1 h_x1 ls hl hw; exact False.elim hw
  | succ N ih =>
    intro σ x1 h_x1 ls hl hw
    unfold f_X12_caps_u32 at hw
    refine ml_iload_n (pc := 32) X hl 1 rfl rfl dX12_caps_32 ?_
    refine ml_iconst (pc := 33) X dX12_caps_33 ?_
    refine ml_aload_n (pc := 34) X hl 0 rfl rfl dX12_caps_34 ?_
    refine gf_X12_13 (pc := 35) X (ml_c215 hn) dX12_caps_35 (fun r1 => ?_)
    have hw := hw r1
    obtain ⟨v2, hw⟩ := hw
    refine ml_imul (pc := 38) X dX12_caps_38 ?_
    refine ml_icmp_ge (pc := 39) (tgt := 119) X h_x1 v2 dX12_caps_39 (by decide) (fun c3 => ?_) (fun c3 => ?_)
    · have hw := hw.1 c3
      exact hK119 σ   _ (lv_sub hl [0] rfl) hw
    · have hw := hw.2 c3
      refine ml_aload_n (pc := 42) X hl 0 rfl rfl dX12_caps_42 ?_
      refine gf_X12_7 (pc := 43) X (ml_c215 hn) dX12_caps_43 ?_
      refine ml_iload_n (pc := 46) X hl 1 rfl rfl dX12_caps_46 ?_
      obtain ⟨a4, b4, hw⟩ := hw
      refine ml_bald (pc := 47) (N := 200) X (ml_c216 hn) a4 b4 dX12_caps_47 (fun r4 => ?_)
      have hw := hw r4
      refine ml_sipush (pc := 48) X dX12_caps_48 (by decide) ?_
      refine ml_iand (pc := 51) X dX12_caps_51 ?_
      refine ml_topI (pc := 52) (fun y5 e5 => ?_)
      have hw := hw y5 e5
      have q5 : I32 y5 := by rw [e5]; exact (b_and_r _ _)
      refine ml_istore_n (pc := 52) X rfl hl (by decide) (lst' := [(2, .int (Int32.ofInt y5)), (0, .ref (base + (215 : Int).toNat)), (1, .int (Int32.ofInt x1))]) rfl dX12_caps_52 (fun ls hl => ?_)
      refine ml_iload_n (pc := 53) X hl 0 rfl rfl dX12_caps_53 ?_
      refine ml_iconst (pc := 54) X dX12_caps_54 ?_
      refine ml_aload_n (pc := 55) X hl 1 rfl rfl dX12_caps_55 ?_
      refine gf_X12_13 (pc := 56) X (ml_c215 hn) dX12_caps_56 (fun r6 => ?_)
      have hw := hw r6
      obtain ⟨v7, hw⟩ := hw
      refine ml_imul (pc := 59) X dX12_caps_59 ?_
      refine ml_icmp_ge (pc := 60) (tgt := 111) X q5 v7 dX12_caps_60 (by decide) (fun c8 => ?_) (fun c8 => ?_)
      · have hw := hw.1 c8
        exact hK111 σ   _ (lv_sub hl [] rfl) hw
      · have hw := hw.2 c8
        refine ml_iload_n (pc := 63) X hl 0 rfl rfl dX12_caps_63 ?_
        refine ml_iload_n (pc := 64) X hl 2 rfl rfl dX12_caps_64 ?_
        refine ml_icmp_eq (pc := 65) (tgt := 111) X q5 h_x1 dX12_caps_65 (by decide) (fun c9 => ?_) (fun c9 => ?_)
        · have hw := hw.1 c9
          exact hK111 σ   _ (lv_sub hl [] rfl) hw
        · have hw := hw.2 c9
          refine ml_iload_n (pc := 68) X hl 0 rfl rfl dX12_caps_68 ?_
          refine ml_aload_n (pc := 69) X hl 1 rfl rfl dX12_caps_69 ?_
          refine gf_X12_13 (pc := 70) X (ml_c215 hn) dX12_caps_70 (fun r10 => ?_)
          have hw := hw r10
          refine ml_icmp_ge (pc := 73) (tgt := 80) X q5 r10 dX12_caps_73 (by decide) (fun c11 => ?_) (fun c11 => ?_)
          · have hw := hw.1 c11
            refine ml_iconst (pc := 80) X dX12_caps_80 ?_
            exact u_X12_caps_81 X hn ih hK111 σ x1 y5 0 h_x1 q5 ⟨by decide, by decide⟩ _ (lv_sub hl [1, 2, 0] rfl) hw
          · have hw := hw.2 c11
            refine ml_iconst (pc := 76) X dX12_caps_76 ?_
            refine ml_goto (pc := 77) (tgt := 81) X dX12_caps_77 (by decide) ?_
            exact u_X12_caps_81 X hn ih hK111 σ x1 y5 1 h_x1 q5 ⟨by decide, by decide⟩ _ (lv_sub hl [1, 2, 0] rfl) hw
set_option maxRecDepth 100000 in
set_option maxHeartbeats 4000000 in
theorem u_X12_caps_111 {p : Program} {e : Env} {s : State} {m : MethodId} {args : Array Value} {below : List Frame} {meth : Method} {c : Code} {base : Nat} {D : va_G} {cA : Nat → ClassId} {n : Nat} {l : Launch} {Q : Int → ml_St → Prop} (X : ml_X p s m c meth args D cA cX12_caps 3 RX12 (some .boolean)) (hn : 256 ≤ n) (σ : ml_St) (ls : Array Slot) (hl : lv_has ls 3 []) (hw : f_X12_caps_u111 Q σ) : ml_V p l e rm_X12_caps s m args below meth c (MQ below (ml_Qi ml_B base D cA n Q) args s 0 0 (ml_A base)) base D cA 0 0 n n σ (F0 m 111 ls []) := by
  unfold f_X12_caps_u111 at hw
  refine ml_iconst (pc := 111) X dX12_caps_111 ?_
  exact ml_zret (pc := 112) X ⟨by decide, by decide⟩ hw dX12_caps_112
set_option maxRecDepth 100000 in
set_option maxHeartbeats 4000000 in
theorem u_X12_caps_121 {p : Program} {e : Env} {s : State} {m : MethodId} {args : Array Value} {below : List Frame} {meth : Method} {c : Code} {base : Nat} {D : va_G} {cA : Nat → ClassId} {n : Nat} {l : Launch} {Q : Int → ml_St → Prop} {K149 : ml_St → Prop} (X : ml_X p s m c meth args D cA cX12_caps 3 RX12 (some .boolean)) (hn : 256 ≤ n) (hK149 : ∀ (σ : ml_St) (ls : Array Slot), lv_has ls 3 [(0, .ref (base + (215 : Int).toNat))] → K149 σ → ml_V p l e rm_X12_caps s m args below meth c (MQ below (ml_Qi ml_B base D cA n Q) args s 0 0 (ml_A base)) base D cA 0 0 n n σ (F0 m 149 ls [])) : ∀ (N : Nat) (σ : ml_St) (x1 : Int) (h_x1 : I32 x1) (ls : Array Slot), lv_has ls 3 [(0, .ref (base + (215 : Int).toNat)), (1, .int (Int32.ofInt x1))] → f_X12_caps_u121 Q K149 N σ x1 → ml_V p l e rm_X12_caps s m args below meth c (MQ below (ml_Qi ml_B base D cA n Q) args s 0 0 (ml_A base)) base D cA 0 0 n n σ (F0 m 121 ls []) := by
  intro N
  induction N with
  | zero => intro σ x1 h_x1 ls hl hw; exact False.elim hw
  | succ N ih =>
    intro σ x1 h_x1 ls hl hw
    unfold f_X12_caps_u121 at hw
    refine ml_iload_n (pc := 121) X hl 1 rfl rfl dX12_caps_121 ?_
    refine ml_iconst (pc := 122) X dX12_caps_122 ?_
    refine ml_aload_n (pc := 123) X hl 0 rfl rfl dX12_caps_123 ?_
    refine gf_X12_13 (pc := 124) X (ml_c215 hn) dX12_caps_124 (fun r1 => ?_)
    have hw := hw r1
    obtain ⟨v2, hw⟩ := hw
    refine ml_imul (pc := 127) X dX12_caps_127 ?_
    refine ml_icmp_ge (pc := 128) (tgt := 149) X h_x1 v2 dX12_caps_128 (by decide) (fun c3 => ?_) (fun c3 => ?_)
    · have hw := hw.1 c3
      exact hK149 σ   _ (lv_sub hl [0] rfl) hw
    · have hw := hw.2 c3
      refine ml_aload_n (pc := 131) X hl 0 rfl rfl dX12_caps_131 ?_
      refine gf_X12_17 (pc := 132) X (ml_c215 hn) dX12_caps_132 ?_
      refine ml_iload_n (pc := 135) X hl 1 rfl rfl dX12_caps_135 ?_
      refine ml_aload_n (pc := 136) X hl 0 rfl rfl dX12_caps_136 ?_
      refine gf_X12_7 (pc := 137) X (ml_c215 hn) dX12_caps_137 ?_
      refine ml_iload_n (pc := 140) X hl 1 rfl rfl dX12_caps_140 ?_
      obtain ⟨a4, b4, hw⟩ := hw
      refine ml_bald (pc := 141) (N := 200) X (ml_c216 hn) a4 b4 dX12_caps_141 (fun r4 => ?_)
      have hw := hw r4
      obtain ⟨a5, b5, hw⟩ := hw
      refine ml_iast (pc := 142) (N := 10) X (ml_c217 hn) a5 b5 r4.i dX12_caps_142 (fun σ5 g5 => ?_)
      have hw := hw σ5 g5
      obtain ⟨v6, hw⟩ := hw
      obtain ⟨y6, e6⟩ : ∃ y : Int, y = x1 + 1 := ⟨_, rfl⟩
      have hw := hw y6 e6
      rw [← e6] at v6
      refine ml_iinc (pc := 143) X e6 hl 1 rfl (by decide) (lst' := [(1, .int (Int32.ofInt y6)), (0, .ref (base + (215 : Int).toNat))]) rfl dX12_caps_143 (fun ls hl => ?_)
      refine ml_goto (pc := 146) (tgt := 121) X dX12_caps_146 (by decide) ?_
      exact ih σ5 y6 v6 _ (lv_sub hl [1, 0] rfl) hw
set_option maxRecDepth 100000 in
set_option maxHeartbeats 4000000 in
theorem u_X12_caps_149 {p : Program} {e : Env} {s : State} {m : MethodId} {args : Array Value} {below : List Frame} {meth : Method} {c : Code} {base : Nat} {D : va_G} {cA : Nat → ClassId} {n : Nat} {l : Launch} {Q : Int → ml_St → Prop} (X : ml_X p s m c meth args D cA cX12_caps 3 RX12 (some .boolean)) (hn : 256 ≤ n) (σ : ml_St) (ls : Array Slot) (hl : lv_has ls 3 [(0, .ref (base + (215 : Int).toNat))]) (hw : f_X12_caps_u149 Q σ) : ml_V p l e rm_X12_caps s m args below meth c (MQ below (ml_Qi ml_B base D cA n Q) args s 0 0 (ml_A base)) base D cA 0 0 n n σ (F0 m 149 ls []) := by
  unfold f_X12_caps_u149 at hw
  refine ml_aload_n (pc := 149) X hl 0 rfl rfl dX12_caps_149 ?_
  refine ml_iconst (pc := 150) X dX12_caps_150 ?_
  refine pf_X12_151 (pc := 151) X (ml_c215 hn) ⟨by decide, by decide⟩ dX12_caps_151 (fun σ1 g1 => ?_)
  have hw := hw σ1 g1
  refine ml_iconst (pc := 154) X dX12_caps_154 ?_
  exact ml_zret (pc := 155) X ⟨by decide, by decide⟩ hw dX12_caps_155
set_option maxRecDepth 100000 in
set_option maxHeartbeats 4000000 in
theorem u_X12_caps_119 {p : Program} {e : Env} {s : State} {m : MethodId} {args : Array Value} {below : List Frame} {meth : Method} {c : Code} {base : Nat} {D : va_G} {cA : Nat → ClassId} {n : Nat} {l : Launch} {Q : Int → ml_St → Prop} (X : ml_X p s m c meth args D cA cX12_caps 3 RX12 (some .boolean)) (hn : 256 ≤ n) (σ : ml_St) (ls : Array Slot) (hl : lv_has ls 3 [(0, .ref (base + (215 : Int).toNat))]) (hw : f_X12_caps_u119 Q σ) : ml_V p l e rm_X12_caps s m args below meth c (MQ below (ml_Qi ml_B base D cA n Q) args s 0 0 (ml_A base)) base D cA 0 0 n n σ (F0 m 119 ls []) := by
  unfold f_X12_caps_u119 at hw
  refine ml_iconst (pc := 119) X dX12_caps_119 ?_
  refine ml_istore_n (pc := 120) X rfl hl (by decide) (lst' := [(1, .int (Int32.ofInt 0)), (0, .ref (base + (215 : Int).toNat))]) rfl dX12_caps_120 (fun ls hl => ?_)
  obtain ⟨N0, hw⟩ := hw
  exact u_X12_caps_121 X hn (fun σ   ls hl hw => u_X12_caps_149 X hn σ   ls hl hw) N0 σ 0 ⟨by decide, by decide⟩ _ (lv_sub hl [1, 0] rfl) hw
set_option maxRecDepth 100000 in
set_option maxHeartbeats 4000000 in
theorem u_X12_caps_0 {p : Program} {e : Env} {s : State} {m : MethodId} {args : Array Value} {below : List Frame} {meth : Method} {c : Code} {base : Nat} {D : va_G} {cA : Nat → ClassId} {n : Nat} {l : Launch} {Q : Int → ml_St → Prop} (X : ml_X p s m c meth args D cA cX12_caps 3 RX12 (some .boolean)) (hn : 256 ≤ n) (σ : ml_St) (ls : Array Slot) (hl : lv_has ls 3 [(0, .ref (base + (215 : Int).toNat))]) (hw : f_X12_caps_u0 Q σ) : ml_V p l e rm_X12_caps s m args below meth c (MQ below (ml_Qi ml_B base D cA n Q) args s 0 0 (ml_A base)) base D cA 0 0 n n σ (F0 m 0 ls []) := by
  unfold f_X12_caps_u0 at hw
  refine ml_aload_n (pc := 0) X hl 0 rfl rfl dX12_caps_0 ?_
  refine gf_X12_13 (pc := 1) X (ml_c215 hn) dX12_caps_1 (fun r1 => ?_)
  have hw := hw r1
  refine ml_iconst (pc := 4) X dX12_caps_4 ?_
  obtain ⟨z2, v2, hw⟩ := hw
  refine ml_irem (pc := 5) X r1 ⟨by decide, by decide⟩ z2 dX12_caps_5 ?_
  refine ml_iconst (pc := 6) X dX12_caps_6 ?_
  refine ml_icmp_eq (pc := 7) (tgt := 23) X v2 ⟨by decide, by decide⟩ dX12_caps_7 (by decide) (fun c3 => ?_) (fun c3 => ?_)
  · have hw := hw.1 c3
    exact u_X12_caps_23 X hn σ   _ (lv_sub hl [] rfl) hw
  · have hw := hw.2 c3
    refine ml_aload_n (pc := 10) X hl 0 rfl rfl dX12_caps_10 ?_
    refine gf_X12_155 (pc := 11) X (ml_c215 hn) dX12_caps_11 (fun r4 => ?_)
    have hw := hw r4
    refine ml_iconst (pc := 14) X dX12_caps_14 ?_
    refine ml_aload_n (pc := 15) X hl 0 rfl rfl dX12_caps_15 ?_
    refine gf_X12_13 (pc := 16) X (ml_c215 hn) dX12_caps_16 (fun r5 => ?_)
    have hw := hw r5
    obtain ⟨v6, hw⟩ := hw
    refine ml_imul (pc := 19) X dX12_caps_19 ?_
    refine ml_icmp_ge (pc := 20) (tgt := 25) X r4 v6 dX12_caps_20 (by decide) (fun c7 => ?_) (fun c7 => ?_)
    · have hw := hw.1 c7
      refine ml_aload_n (pc := 25) X hl 0 rfl rfl dX12_caps_25 ?_
      refine ml_iconst (pc := 26) X dX12_caps_26 ?_
      refine pf_X12_155 (pc := 27) X (ml_c215 hn) ⟨by decide, by decide⟩ dX12_caps_27 (fun σ8 g8 => ?_)
      have hw := hw σ8 g8
      refine ml_iconst (pc := 30) X dX12_caps_30 ?_
      refine ml_istore_n (pc := 31) X rfl hl (by decide) (lst' := [(1, .int (Int32.ofInt 0)), (0, .ref (base + (215 : Int).toNat))]) rfl dX12_caps_31 (fun ls hl => ?_)
      obtain ⟨N0, hw⟩ := hw
      exact u_X12_caps_32 X hn (fun σ   ls hl hw => u_X12_caps_111 X hn σ   ls hl hw) (fun σ   ls hl hw => u_X12_caps_119 X hn σ   ls hl hw) N0 σ8 0 ⟨by decide, by decide⟩ _ (lv_sub hl [1, 0] rfl) hw
    · have hw := hw.2 c7
      exact u_X12_caps_23 X hn σ   _ (lv_sub hl [] rfl) hw
set_option maxRecDepth 100000 in
theorem c_X12_caps (l : Launch) (base : Nat) (D : va_G) (cA : Nat → ClassId) (n : Nat) (hn : 256 ≤ n) (σ : ml_St) (Q : Int → ml_St → Prop) (hw : f_X12_caps σ Q) : Met l yX12_caps (Cond.code yX12_caps cX12_caps 3 (some .boolean) :: ml_T) rm_X12_caps (va_Pc [.ref (base + (215 : Int).toNat)] (ml_U base D cA n σ)) (ml_Qi ml_B base D cA n Q) 0 0 (ml_A base) := by
  refine Met.ofW (cc := cX12_caps) (maxL := 3) (ret := (some .boolean)) (by decide) rfl ?_
  intro p e s m args below meth c s₁ B hml hv
  obtain ⟨rfl, hP, hK, hok, hro⟩ := hv
  have X : ml_X p s m c meth _ D cA cX12_caps 3 RX12 (some .boolean) := ⟨B.exec, B.bytes, hml, findClass_of_methodNamed B.named, fun w hw => atoms_spec (ws := Cond.code yX12_caps cX12_caps 3 (some .boolean) :: ml_T) B.pre w (List.mem_cons_of_mem _ hw), hK, B.notSynchronized, B.returns⟩
  have hl := lv_entry [.ref (base + (215 : Int).toNat)] (n := 3) (Nat.le_of_ble_eq_true rfl)
  rw [lg_entry_eq]
  generalize (lg_sl [.ref (base + (215 : Int).toNat)] ++ List.replicate (3 - (lg_sl [.ref (base + (215 : Int).toNat)]).length) Slot.unset).toArray = ls at hl ⊢
  have hl : lv_has ls 3 [(0, .ref (base + (215 : Int).toNat))] := hl
  unfold f_X12_caps at hw
  exact u_X12_caps_0 X hn σ  _ (lv_sub hl [0] rfl) hw s.heap [] hP va_S.rf hok hro
theorem dX12_signs_0 : decode cX12_signs 0 = .ok (.aload_n 0, 1) := by decide +kernel
theorem dX12_signs_1 : decode cX12_signs 1 = .ok (.iload_n 1, 1) := by decide +kernel
theorem dX12_signs_2 : decode cX12_signs 2 = .ok (.invokevirtual 287, 3) := by decide +kernel
theorem dX12_signs_5 : decode cX12_signs 5 = .ok (.ifCond .eq 11, 3) := by decide +kernel
theorem dX12_signs_8 : decode cX12_signs 8 = .ok (.aload_n 0, 1) := by decide +kernel
theorem dX12_signs_9 : decode cX12_signs 9 = .ok (.iload_n 1, 1) := by decide +kernel
theorem dX12_signs_10 : decode cX12_signs 10 = .ok (.invokevirtual 217, 3) := by decide +kernel
theorem dX12_signs_13 : decode cX12_signs 13 = .ok (.goto 6, 3) := by decide +kernel
theorem dX12_signs_16 : decode cX12_signs 16 = .ok (.ldc2_w 290, 3) := by decide +kernel
theorem dX12_signs_19 : decode cX12_signs 19 = .ok (.lreturn, 1) := by decide +kernel
def f_X12_signs_u19 (Q : Int → ml_St → Prop) (σ : ml_St) (s0 : Int) : Prop :=
Q s0 σ
def f_X12_signs_u0 (Q : Int → ml_St → Prop) (σ : ml_St) (x1 : Int) : Prop :=
f_X12_isWord σ x1 (fun r1 σ1 => ∀ _ : ml_B r1,
(r1 = 0 →
f_X12_signs_u19 Q σ1 (-1)) ∧
(r1 ≠ 0 →
f_X12_signsOf σ1 x1 (fun r3 σ3 => ∀ _ : I64 r3,
f_X12_signs_u19 Q σ3 r3)))
def f_X12_signs (σ : ml_St) (x1 : Int) (Q : Int → ml_St → Prop) : Prop := f_X12_signs_u0 Q σ x1
def rm_X12_signs : Room := { frames := 2, cells := 0, slots := 0, locals := 46 }
set_option maxRecDepth 100000 in
set_option maxHeartbeats 4000000 in
theorem u_X12_signs_19 {p : Program} {e : Env} {s : State} {m : MethodId} {args : Array Value} {below : List Frame} {meth : Method} {c : Code} {base : Nat} {D : va_G} {cA : Nat → ClassId} {n : Nat} {l : Launch} {Q : Int → ml_St → Prop} (X : ml_X p s m c meth args D cA cX12_signs 2 RX12 (some .long)) (hn : 256 ≤ n) (σ : ml_St) (s0 : Int) (h_s0 : I64 s0) (ls : Array Slot) (hl : lv_has ls 2 []) (hw : f_X12_signs_u19 Q σ s0) : ml_V p l e rm_X12_signs s m args below meth c (MQ below (ml_Ql base D cA n Q) args s 0 0 (ml_A base)) base D cA 0 0 n n σ (F0 m 19 ls [.long (Int64.ofInt s0)]) := by
  unfold f_X12_signs_u19 at hw
  exact ml_lret (pc := 19) X h_s0 hw dX12_signs_19
set_option maxRecDepth 100000 in
set_option maxHeartbeats 4000000 in
theorem u_X12_signs_0 {p : Program} {e : Env} {s : State} {m : MethodId} {args : Array Value} {below : List Frame} {meth : Method} {c : Code} {base : Nat} {D : va_G} {cA : Nat → ClassId} {n : Nat} {l : Launch} {Q : Int → ml_St → Prop} (X : ml_X p s m c meth args D cA cX12_signs 2 RX12 (some .long)) (hn : 256 ≤ n) (σ : ml_St) (x1 : Int) (h_x1 : I32 x1) (ls : Array Slot) (hl : lv_has ls 2 [(0, .ref (base + (215 : Int).toNat)), (1, .int (Int32.ofInt x1))]) (hw : f_X12_signs_u0 Q σ x1) : ml_V p l e rm_X12_signs s m args below meth c (MQ below (ml_Ql base D cA n Q) args s 0 0 (ml_A base)) base D cA 0 0 n n σ (F0 m 0 ls []) := by
  unfold f_X12_signs_u0 at hw
  refine ml_aload_n (pc := 0) X hl 0 rfl rfl dX12_signs_0 ?_
  refine ml_iload_n (pc := 1) X hl 1 rfl rfl dX12_signs_1 ?_
  refine ml_callzV (pc := 2) (rest := []) X [.int (Int32.ofInt x1)] (by decide) rfl (ml_c215 hn) (c_X12_isWord l base D cA n hn σ x1 h_x1 _ hw) cv_X12_287 ⟨rfl, rfl⟩ ⟨by decide, by decide⟩ rfl rfl hl (Nat.le_of_ble_eq_true rfl) ⟨Nat.zero_le _, Nat.zero_le _⟩ dX12_signs_2 (fun r1 σ1 t1 hw => ?_)
  have hw := hw t1
  refine ml_if_eq (pc := 5) (tgt := 16) X t1.i dX12_signs_5 (by decide) (fun c2 => ?_) (fun c2 => ?_)
  · have hw := hw.1 c2
    refine ml_ldc2 (pc := 16) (v := (-1)) X dX12_signs_16 tc_6_52 ?_
    exact u_X12_signs_19 X hn σ1 (-1) ⟨by decide, by decide⟩ _ (lv_sub hl [] rfl) hw
  · have hw := hw.2 c2
    refine ml_aload_n (pc := 8) X hl 0 rfl rfl dX12_signs_8 ?_
    refine ml_iload_n (pc := 9) X hl 1 rfl rfl dX12_signs_9 ?_
    refine ml_calllV (pc := 10) (rest := []) X [.int (Int32.ofInt x1)] (by decide) rfl (ml_c215 hn) (c_X12_signsOf l base D cA n hn σ1 x1 h_x1 _ hw) cv_X12_217 ⟨rfl, rfl⟩ ⟨by decide, by decide⟩ rfl rfl hl (Nat.le_of_ble_eq_true rfl) ⟨Nat.zero_le _, Nat.zero_le _⟩ dX12_signs_10 (fun r3 σ3 t3 hw => ?_)
    have hw := hw t3
    refine ml_goto (pc := 13) (tgt := 19) X dX12_signs_13 (by decide) ?_
    exact u_X12_signs_19 X hn σ3 r3 t3 _ (lv_sub hl [] rfl) hw
set_option maxRecDepth 100000 in
theorem c_X12_signs (l : Launch) (base : Nat) (D : va_G) (cA : Nat → ClassId) (n : Nat) (hn : 256 ≤ n) (σ : ml_St) (x1 : Int) (h_x1 : I32 x1) (Q : Int → ml_St → Prop) (hw : f_X12_signs σ x1 Q) : Met l yX12_signs (Cond.code yX12_signs cX12_signs 2 (some .long) :: ml_T) rm_X12_signs (va_Pc [.ref (base + (215 : Int).toNat), .int (Int32.ofInt x1)] (ml_U base D cA n σ)) (ml_Ql base D cA n Q) 0 0 (ml_A base) := by
  refine Met.ofW (cc := cX12_signs) (maxL := 2) (ret := (some .long)) (by decide) rfl ?_
  intro p e s m args below meth c s₁ B hml hv
  obtain ⟨rfl, hP, hK, hok, hro⟩ := hv
  have X : ml_X p s m c meth _ D cA cX12_signs 2 RX12 (some .long) := ⟨B.exec, B.bytes, hml, findClass_of_methodNamed B.named, fun w hw => atoms_spec (ws := Cond.code yX12_signs cX12_signs 2 (some .long) :: ml_T) B.pre w (List.mem_cons_of_mem _ hw), hK, B.notSynchronized, B.returns⟩
  have hl := lv_entry [.ref (base + (215 : Int).toNat), .int (Int32.ofInt x1)] (n := 2) (Nat.le_of_ble_eq_true rfl)
  rw [lg_entry_eq]
  generalize (lg_sl [.ref (base + (215 : Int).toNat), .int (Int32.ofInt x1)] ++ List.replicate (2 - (lg_sl [.ref (base + (215 : Int).toNat), .int (Int32.ofInt x1)]).length) Slot.unset).toArray = ls at hl ⊢
  have hl : lv_has ls 2 [(0, .ref (base + (215 : Int).toNat)), (1, .int (Int32.ofInt x1))] := hl
  unfold f_X12_signs at hw
  exact u_X12_signs_0 X hn σ x1 h_x1 _ (lv_sub hl [0, 1] rfl) hw s.heap [] hP va_S.rf hok hro
theorem dX12_isEnd_0 : decode cX12_isEnd 0 = .ok (.iload_n 1, 1) := by decide +kernel
theorem dX12_isEnd_1 : decode cX12_isEnd 1 = .ok (.i2l, 1) := by decide +kernel
theorem dX12_isEnd_2 : decode cX12_isEnd 2 = .ok (.lconst 0, 1) := by decide +kernel
theorem dX12_isEnd_3 : decode cX12_isEnd 3 = .ok (.iconst 2, 1) := by decide +kernel
theorem dX12_isEnd_4 : decode cX12_isEnd 4 = .ok (.aload_n 0, 1) := by decide +kernel
theorem dX12_isEnd_5 : decode cX12_isEnd 5 = .ok (.getfield 13, 3) := by decide +kernel
theorem dX12_isEnd_8 : decode cX12_isEnd 8 = .ok (.imul, 1) := by decide +kernel
theorem dX12_isEnd_9 : decode cX12_isEnd 9 = .ok (.iconst 1, 1) := by decide +kernel
theorem dX12_isEnd_10 : decode cX12_isEnd 10 = .ok (.isub, 1) := by decide +kernel
theorem dX12_isEnd_11 : decode cX12_isEnd 11 = .ok (.i2l, 1) := by decide +kernel
theorem dX12_isEnd_12 : decode cX12_isEnd 12 = .ok (.invokestatic 143, 3) := by decide +kernel
theorem dX12_isEnd_15 : decode cX12_isEnd 15 = .ok (.ireturn, 1) := by decide +kernel
def f_X12_isEnd_u0 (Q : Int → ml_St → Prop) (σ : ml_St) (x1 : Int) : Prop :=
∀ _ : I32 (σ 215 2),
I32 (2 * (σ 215 2)) ∧
I32 ((2 * (σ 215 2)) - 1) ∧
f_X12_lies σ x1 0 ((2 * (σ 215 2)) - 1) (fun r4 σ4 => ∀ _ : ml_B r4,
Q r4 σ4)
def f_X12_isEnd (σ : ml_St) (x1 : Int) (Q : Int → ml_St → Prop) : Prop := f_X12_isEnd_u0 Q σ x1
def rm_X12_isEnd : Room := { frames := 1, cells := 0, slots := 0, locals := 25 }
set_option maxRecDepth 100000 in
set_option maxHeartbeats 4000000 in
theorem u_X12_isEnd_0 {p : Program} {e : Env} {s : State} {m : MethodId} {args : Array Value} {below : List Frame} {meth : Method} {c : Code} {base : Nat} {D : va_G} {cA : Nat → ClassId} {n : Nat} {l : Launch} {Q : Int → ml_St → Prop} (X : ml_X p s m c meth args D cA cX12_isEnd 2 RX12 (some .boolean)) (hn : 256 ≤ n) (σ : ml_St) (x1 : Int) (h_x1 : I32 x1) (ls : Array Slot) (hl : lv_has ls 2 [(0, .ref (base + (215 : Int).toNat)), (1, .int (Int32.ofInt x1))]) (hw : f_X12_isEnd_u0 Q σ x1) : ml_V p l e rm_X12_isEnd s m args below meth c (MQ below (ml_Qi ml_B base D cA n Q) args s 0 0 (ml_A base)) base D cA 0 0 n n σ (F0 m 0 ls []) := by
  unfold f_X12_isEnd_u0 at hw
  refine ml_iload_n (pc := 0) X hl 1 rfl rfl dX12_isEnd_0 ?_
  refine ml_i2l (pc := 1) X h_x1 dX12_isEnd_1 ?_
  refine ml_lconst0 (pc := 2) X dX12_isEnd_2 ?_
  refine ml_iconst (pc := 3) X dX12_isEnd_3 ?_
  refine ml_aload_n (pc := 4) X hl 0 rfl rfl dX12_isEnd_4 ?_
  refine gf_X12_13 (pc := 5) X (ml_c215 hn) dX12_isEnd_5 (fun r1 => ?_)
  have hw := hw r1
  obtain ⟨v2, hw⟩ := hw
  refine ml_imul (pc := 8) X dX12_isEnd_8 ?_
  refine ml_iconst (pc := 9) X dX12_isEnd_9 ?_
  obtain ⟨v3, hw⟩ := hw
  refine ml_isub (pc := 10) X dX12_isEnd_10 ?_
  refine ml_i2l (pc := 11) X v3 dX12_isEnd_11 ?_
  refine ml_callzS (pc := 12) (rest := []) X [.long (Int64.ofInt x1), .long (Int64.ofInt 0), .long (Int64.ofInt ((2 * (σ 215 2)) - 1))] (c_X12_lies l base D cA n hn σ x1 0 ((2 * (σ 215 2)) - 1) (h_x1).l ⟨by decide, by decide⟩ (v3).l _ hw) cv_X12_143 ⟨rfl, rfl⟩ ⟨by decide, by decide⟩ rfl rfl hl (Nat.le_of_ble_eq_true rfl) ⟨Nat.zero_le _, Nat.zero_le _⟩ dX12_isEnd_12 (fun r4 σ4 t4 hw => ?_)
  have hw := hw t4
  exact ml_zret (pc := 15) X t4 hw dX12_isEnd_15
set_option maxRecDepth 100000 in
theorem c_X12_isEnd (l : Launch) (base : Nat) (D : va_G) (cA : Nat → ClassId) (n : Nat) (hn : 256 ≤ n) (σ : ml_St) (x1 : Int) (h_x1 : I32 x1) (Q : Int → ml_St → Prop) (hw : f_X12_isEnd σ x1 Q) : Met l yX12_isEnd (Cond.code yX12_isEnd cX12_isEnd 2 (some .boolean) :: ml_T) rm_X12_isEnd (va_Pc [.ref (base + (215 : Int).toNat), .int (Int32.ofInt x1)] (ml_U base D cA n σ)) (ml_Qi ml_B base D cA n Q) 0 0 (ml_A base) := by
  refine Met.ofW (cc := cX12_isEnd) (maxL := 2) (ret := (some .boolean)) (by decide) rfl ?_
  intro p e s m args below meth c s₁ B hml hv
  obtain ⟨rfl, hP, hK, hok, hro⟩ := hv
  have X : ml_X p s m c meth _ D cA cX12_isEnd 2 RX12 (some .boolean) := ⟨B.exec, B.bytes, hml, findClass_of_methodNamed B.named, fun w hw => atoms_spec (ws := Cond.code yX12_isEnd cX12_isEnd 2 (some .boolean) :: ml_T) B.pre w (List.mem_cons_of_mem _ hw), hK, B.notSynchronized, B.returns⟩
  have hl := lv_entry [.ref (base + (215 : Int).toNat), .int (Int32.ofInt x1)] (n := 2) (Nat.le_of_ble_eq_true rfl)
  rw [lg_entry_eq]
  generalize (lg_sl [.ref (base + (215 : Int).toNat), .int (Int32.ofInt x1)] ++ List.replicate (2 - (lg_sl [.ref (base + (215 : Int).toNat), .int (Int32.ofInt x1)]).length) Slot.unset).toArray = ls at hl ⊢
  have hl : lv_has ls 2 [(0, .ref (base + (215 : Int).toNat)), (1, .int (Int32.ofInt x1))] := hl
  unfold f_X12_isEnd at hw
  exact u_X12_isEnd_0 X hn σ x1 h_x1 _ (lv_sub hl [0, 1] rfl) hw s.heap [] hP va_S.rf hok hro
theorem dX12_isMade_0 : decode cX12_isMade 0 = .ok (.aload_n 0, 1) := by decide +kernel
theorem dX12_isMade_1 : decode cX12_isMade 1 = .ok (.iload_n 1, 1) := by decide +kernel
theorem dX12_isMade_2 : decode cX12_isMade 2 = .ok (.invokevirtual 287, 3) := by decide +kernel
theorem dX12_isMade_5 : decode cX12_isMade 5 = .ok (.ifCond .eq 15, 3) := by decide +kernel
theorem dX12_isMade_8 : decode cX12_isMade 8 = .ok (.aload_n 0, 1) := by decide +kernel
theorem dX12_isMade_9 : decode cX12_isMade 9 = .ok (.iload_n 1, 1) := by decide +kernel
theorem dX12_isMade_10 : decode cX12_isMade 10 = .ok (.invokevirtual 262, 3) := by decide +kernel
theorem dX12_isMade_13 : decode cX12_isMade 13 = .ok (.ifCond .ne 7, 3) := by decide +kernel
theorem dX12_isMade_16 : decode cX12_isMade 16 = .ok (.iconst 1, 1) := by decide +kernel
theorem dX12_isMade_17 : decode cX12_isMade 17 = .ok (.goto 4, 3) := by decide +kernel
theorem dX12_isMade_20 : decode cX12_isMade 20 = .ok (.iconst 0, 1) := by decide +kernel
theorem dX12_isMade_21 : decode cX12_isMade 21 = .ok (.ireturn, 1) := by decide +kernel
def f_X12_isMade_u21 (Q : Int → ml_St → Prop) (σ : ml_St) (s0 : Int) : Prop :=
Q s0 σ
def f_X12_isMade_u20 (Q : Int → ml_St → Prop) (σ : ml_St) : Prop :=
f_X12_isMade_u21 Q σ 0
def f_X12_isMade_u0 (Q : Int → ml_St → Prop) (σ : ml_St) (x1 : Int) : Prop :=
f_X12_isWord σ x1 (fun r1 σ1 => ∀ _ : ml_B r1,
(r1 = 0 →
f_X12_isMade_u20 Q σ1) ∧
(r1 ≠ 0 →
f_X12_isTooLong σ1 x1 (fun r3 σ3 => ∀ _ : ml_B r3,
(r3 ≠ 0 →
f_X12_isMade_u20 Q σ3) ∧
(r3 = 0 →
f_X12_isMade_u21 Q σ3 1))))
def f_X12_isMade (σ : ml_St) (x1 : Int) (Q : Int → ml_St → Prop) : Prop := f_X12_isMade_u0 Q σ x1
def rm_X12_isMade : Room := { frames := 3, cells := 0, slots := 0, locals := 65 }
set_option maxRecDepth 100000 in
set_option maxHeartbeats 4000000 in
theorem u_X12_isMade_21 {p : Program} {e : Env} {s : State} {m : MethodId} {args : Array Value} {below : List Frame} {meth : Method} {c : Code} {base : Nat} {D : va_G} {cA : Nat → ClassId} {n : Nat} {l : Launch} {Q : Int → ml_St → Prop} (X : ml_X p s m c meth args D cA cX12_isMade 2 RX12 (some .boolean)) (hn : 256 ≤ n) (σ : ml_St) (s0 : Int) (h_s0 : ml_B s0) (ls : Array Slot) (hl : lv_has ls 2 []) (hw : f_X12_isMade_u21 Q σ s0) : ml_V p l e rm_X12_isMade s m args below meth c (MQ below (ml_Qi ml_B base D cA n Q) args s 0 0 (ml_A base)) base D cA 0 0 n n σ (F0 m 21 ls [.int (Int32.ofInt s0)]) := by
  unfold f_X12_isMade_u21 at hw
  exact ml_zret (pc := 21) X h_s0 hw dX12_isMade_21
set_option maxRecDepth 100000 in
set_option maxHeartbeats 4000000 in
theorem u_X12_isMade_20 {p : Program} {e : Env} {s : State} {m : MethodId} {args : Array Value} {below : List Frame} {meth : Method} {c : Code} {base : Nat} {D : va_G} {cA : Nat → ClassId} {n : Nat} {l : Launch} {Q : Int → ml_St → Prop} (X : ml_X p s m c meth args D cA cX12_isMade 2 RX12 (some .boolean)) (hn : 256 ≤ n) (σ : ml_St) (ls : Array Slot) (hl : lv_has ls 2 []) (hw : f_X12_isMade_u20 Q σ) : ml_V p l e rm_X12_isMade s m args below meth c (MQ below (ml_Qi ml_B base D cA n Q) args s 0 0 (ml_A base)) base D cA 0 0 n n σ (F0 m 20 ls []) := by
  unfold f_X12_isMade_u20 at hw
  refine ml_iconst (pc := 20) X dX12_isMade_20 ?_
  exact u_X12_isMade_21 X hn σ 0 ⟨by decide, by decide⟩ _ (lv_sub hl [] rfl) hw
set_option maxRecDepth 100000 in
set_option maxHeartbeats 4000000 in
theorem u_X12_isMade_0 {p : Program} {e : Env} {s : State} {m : MethodId} {args : Array Value} {below : List Frame} {meth : Method} {c : Code} {base : Nat} {D : va_G} {cA : Nat → ClassId} {n : Nat} {l : Launch} {Q : Int → ml_St → Prop} (X : ml_X p s m c meth args D cA cX12_isMade 2 RX12 (some .boolean)) (hn : 256 ≤ n) (σ : ml_St) (x1 : Int) (h_x1 : I32 x1) (ls : Array Slot) (hl : lv_has ls 2 [(0, .ref (base + (215 : Int).toNat)), (1, .int (Int32.ofInt x1))]) (hw : f_X12_isMade_u0 Q σ x1) : ml_V p l e rm_X12_isMade s m args below meth c (MQ below (ml_Qi ml_B base D cA n Q) args s 0 0 (ml_A base)) base D cA 0 0 n n σ (F0 m 0 ls []) := by
  unfold f_X12_isMade_u0 at hw
  refine ml_aload_n (pc := 0) X hl 0 rfl rfl dX12_isMade_0 ?_
  refine ml_iload_n (pc := 1) X hl 1 rfl rfl dX12_isMade_1 ?_
  refine ml_callzV (pc := 2) (rest := []) X [.int (Int32.ofInt x1)] (by decide) rfl (ml_c215 hn) (c_X12_isWord l base D cA n hn σ x1 h_x1 _ hw) cv_X12_287 ⟨rfl, rfl⟩ ⟨by decide, by decide⟩ rfl rfl hl (Nat.le_of_ble_eq_true rfl) ⟨Nat.zero_le _, Nat.zero_le _⟩ dX12_isMade_2 (fun r1 σ1 t1 hw => ?_)
  have hw := hw t1
  refine ml_if_eq (pc := 5) (tgt := 20) X t1.i dX12_isMade_5 (by decide) (fun c2 => ?_) (fun c2 => ?_)
  · have hw := hw.1 c2
    exact u_X12_isMade_20 X hn σ1   _ (lv_sub hl [] rfl) hw
  · have hw := hw.2 c2
    refine ml_aload_n (pc := 8) X hl 0 rfl rfl dX12_isMade_8 ?_
    refine ml_iload_n (pc := 9) X hl 1 rfl rfl dX12_isMade_9 ?_
    refine ml_callzV (pc := 10) (rest := []) X [.int (Int32.ofInt x1)] (by decide) rfl (ml_c215 hn) (c_X12_isTooLong l base D cA n hn σ1 x1 h_x1 _ hw) cv_X12_262 ⟨rfl, rfl⟩ ⟨by decide, by decide⟩ rfl rfl hl (Nat.le_of_ble_eq_true rfl) ⟨Nat.zero_le _, Nat.zero_le _⟩ dX12_isMade_10 (fun r3 σ3 t3 hw => ?_)
    have hw := hw t3
    refine ml_if_ne (pc := 13) (tgt := 20) X t3.i dX12_isMade_13 (by decide) (fun c4 => ?_) (fun c4 => ?_)
    · have hw := hw.1 c4
      exact u_X12_isMade_20 X hn σ3   _ (lv_sub hl [] rfl) hw
    · have hw := hw.2 c4
      refine ml_iconst (pc := 16) X dX12_isMade_16 ?_
      refine ml_goto (pc := 17) (tgt := 21) X dX12_isMade_17 (by decide) ?_
      exact u_X12_isMade_21 X hn σ3 1 ⟨by decide, by decide⟩ _ (lv_sub hl [] rfl) hw
set_option maxRecDepth 100000 in
theorem c_X12_isMade (l : Launch) (base : Nat) (D : va_G) (cA : Nat → ClassId) (n : Nat) (hn : 256 ≤ n) (σ : ml_St) (x1 : Int) (h_x1 : I32 x1) (Q : Int → ml_St → Prop) (hw : f_X12_isMade σ x1 Q) : Met l yX12_isMade (Cond.code yX12_isMade cX12_isMade 2 (some .boolean) :: ml_T) rm_X12_isMade (va_Pc [.ref (base + (215 : Int).toNat), .int (Int32.ofInt x1)] (ml_U base D cA n σ)) (ml_Qi ml_B base D cA n Q) 0 0 (ml_A base) := by
  refine Met.ofW (cc := cX12_isMade) (maxL := 2) (ret := (some .boolean)) (by decide) rfl ?_
  intro p e s m args below meth c s₁ B hml hv
  obtain ⟨rfl, hP, hK, hok, hro⟩ := hv
  have X : ml_X p s m c meth _ D cA cX12_isMade 2 RX12 (some .boolean) := ⟨B.exec, B.bytes, hml, findClass_of_methodNamed B.named, fun w hw => atoms_spec (ws := Cond.code yX12_isMade cX12_isMade 2 (some .boolean) :: ml_T) B.pre w (List.mem_cons_of_mem _ hw), hK, B.notSynchronized, B.returns⟩
  have hl := lv_entry [.ref (base + (215 : Int).toNat), .int (Int32.ofInt x1)] (n := 2) (Nat.le_of_ble_eq_true rfl)
  rw [lg_entry_eq]
  generalize (lg_sl [.ref (base + (215 : Int).toNat), .int (Int32.ofInt x1)] ++ List.replicate (2 - (lg_sl [.ref (base + (215 : Int).toNat), .int (Int32.ofInt x1)]).length) Slot.unset).toArray = ls at hl ⊢
  have hl : lv_has ls 2 [(0, .ref (base + (215 : Int).toNat)), (1, .int (Int32.ofInt x1))] := hl
  unfold f_X12_isMade at hw
  exact u_X12_isMade_0 X hn σ x1 h_x1 _ (lv_sub hl [0, 1] rfl) hw s.heap [] hP va_S.rf hok hro
theorem dX12_joined_0 : decode cX12_joined 0 = .ok (.aload_n 0, 1) := by decide +kernel
theorem dX12_joined_1 : decode cX12_joined 1 = .ok (.iload_n 1, 1) := by decide +kernel
theorem dX12_joined_2 : decode cX12_joined 2 = .ok (.invokevirtual 292, 3) := by decide +kernel
theorem dX12_joined_5 : decode cX12_joined 5 = .ok (.ifCond .eq 25, 3) := by decide +kernel
theorem dX12_joined_8 : decode cX12_joined 8 = .ok (.aload_n 0, 1) := by decide +kernel
theorem dX12_joined_9 : decode cX12_joined 9 = .ok (.iload_n 2, 1) := by decide +kernel
theorem dX12_joined_10 : decode cX12_joined 10 = .ok (.invokevirtual 295, 3) := by decide +kernel
theorem dX12_joined_13 : decode cX12_joined 13 = .ok (.ifCond .eq 17, 3) := by decide +kernel
theorem dX12_joined_16 : decode cX12_joined 16 = .ok (.aload_n 0, 1) := by decide +kernel
theorem dX12_joined_17 : decode cX12_joined 17 = .ok (.getfield 49, 3) := by decide +kernel
theorem dX12_joined_20 : decode cX12_joined 20 = .ok (.bipush 10, 2) := by decide +kernel
theorem dX12_joined_22 : decode cX12_joined 22 = .ok (.iload_n 1, 1) := by decide +kernel
theorem dX12_joined_23 : decode cX12_joined 23 = .ok (.imul, 1) := by decide +kernel
theorem dX12_joined_24 : decode cX12_joined 24 = .ok (.iload_n 2, 1) := by decide +kernel
theorem dX12_joined_25 : decode cX12_joined 25 = .ok (.iadd, 1) := by decide +kernel
theorem dX12_joined_26 : decode cX12_joined 26 = .ok (.iaload, 1) := by decide +kernel
theorem dX12_joined_27 : decode cX12_joined 27 = .ok (.goto 4, 3) := by decide +kernel
theorem dX12_joined_30 : decode cX12_joined 30 = .ok (.iconst (-1), 1) := by decide +kernel
theorem dX12_joined_31 : decode cX12_joined 31 = .ok (.ireturn, 1) := by decide +kernel
def f_X12_joined_u31 (Q : Int → ml_St → Prop) (σ : ml_St) (s0 : Int) : Prop :=
Q s0 σ
def f_X12_joined_u30 (Q : Int → ml_St → Prop) (σ : ml_St) : Prop :=
f_X12_joined_u31 Q σ (-1)
def f_X12_joined_u0 (Q : Int → ml_St → Prop) (σ : ml_St) (x1 : Int) (x2 : Int) : Prop :=
f_X12_isMade σ x1 (fun r1 σ1 => ∀ _ : ml_B r1,
(r1 = 0 →
f_X12_joined_u30 Q σ1) ∧
(r1 ≠ 0 →
f_X12_isEnd σ1 x2 (fun r3 σ3 => ∀ _ : ml_B r3,
(r3 = 0 →
f_X12_joined_u30 Q σ3) ∧
(r3 ≠ 0 →
I32 (10 * x1) ∧
I32 ((10 * x1) + x2) ∧
(0 : Int) ≤ ((10 * x1) + x2) ∧ (((10 * x1) + x2) : Int) < 640 ∧
∀ _ : I32 (σ3 227 ((10 * x1) + x2)),
f_X12_joined_u31 Q σ3 (σ3 227 ((10 * x1) + x2))))))
def f_X12_joined (σ : ml_St) (x1 : Int) (x2 : Int) (Q : Int → ml_St → Prop) : Prop := f_X12_joined_u0 Q σ x1 x2
def rm_X12_joined : Room := { frames := 4, cells := 0, slots := 0, locals := 86 }
set_option maxRecDepth 100000 in
set_option maxHeartbeats 4000000 in
theorem u_X12_joined_31 {p : Program} {e : Env} {s : State} {m : MethodId} {args : Array Value} {below : List Frame} {meth : Method} {c : Code} {base : Nat} {D : va_G} {cA : Nat → ClassId} {n : Nat} {l : Launch} {Q : Int → ml_St → Prop} (X : ml_X p s m c meth args D cA cX12_joined 3 RX12 (some .int)) (hn : 256 ≤ n) (σ : ml_St) (s0 : Int) (h_s0 : I32 s0) (ls : Array Slot) (hl : lv_has ls 3 []) (hw : f_X12_joined_u31 Q σ s0) : ml_V p l e rm_X12_joined s m args below meth c (MQ below (ml_Qi I32 base D cA n Q) args s 0 0 (ml_A base)) base D cA 0 0 n n σ (F0 m 31 ls [.int (Int32.ofInt s0)]) := by
  unfold f_X12_joined_u31 at hw
  exact ml_iret (pc := 31) X h_s0 hw dX12_joined_31
set_option maxRecDepth 100000 in
set_option maxHeartbeats 4000000 in
theorem u_X12_joined_30 {p : Program} {e : Env} {s : State} {m : MethodId} {args : Array Value} {below : List Frame} {meth : Method} {c : Code} {base : Nat} {D : va_G} {cA : Nat → ClassId} {n : Nat} {l : Launch} {Q : Int → ml_St → Prop} (X : ml_X p s m c meth args D cA cX12_joined 3 RX12 (some .int)) (hn : 256 ≤ n) (σ : ml_St) (ls : Array Slot) (hl : lv_has ls 3 []) (hw : f_X12_joined_u30 Q σ) : ml_V p l e rm_X12_joined s m args below meth c (MQ below (ml_Qi I32 base D cA n Q) args s 0 0 (ml_A base)) base D cA 0 0 n n σ (F0 m 30 ls []) := by
  unfold f_X12_joined_u30 at hw
  refine ml_iconst (pc := 30) X dX12_joined_30 ?_
  exact u_X12_joined_31 X hn σ (-1) ⟨by decide, by decide⟩ _ (lv_sub hl [] rfl) hw
set_option maxRecDepth 100000 in
set_option maxHeartbeats 4000000 in
theorem u_X12_joined_0 {p : Program} {e : Env} {s : State} {m : MethodId} {args : Array Value} {below : List Frame} {meth : Method} {c : Code} {base : Nat} {D : va_G} {cA : Nat → ClassId} {n : Nat} {l : Launch} {Q : Int → ml_St → Prop} (X : ml_X p s m c meth args D cA cX12_joined 3 RX12 (some .int)) (hn : 256 ≤ n) (σ : ml_St) (x1 : Int) (x2 : Int) (h_x1 : I32 x1) (h_x2 : I32 x2) (ls : Array Slot) (hl : lv_has ls 3 [(0, .ref (base + (215 : Int).toNat)), (1, .int (Int32.ofInt x1)), (2, .int (Int32.ofInt x2))]) (hw : f_X12_joined_u0 Q σ x1 x2) : ml_V p l e rm_X12_joined s m args below meth c (MQ below (ml_Qi I32 base D cA n Q) args s 0 0 (ml_A base)) base D cA 0 0 n n σ (F0 m 0 ls []) := by
  unfold f_X12_joined_u0 at hw
  refine ml_aload_n (pc := 0) X hl 0 rfl rfl dX12_joined_0 ?_
  refine ml_iload_n (pc := 1) X hl 1 rfl rfl dX12_joined_1 ?_
  refine ml_callzV (pc := 2) (rest := []) X [.int (Int32.ofInt x1)] (by decide) rfl (ml_c215 hn) (c_X12_isMade l base D cA n hn σ x1 h_x1 _ hw) cv_X12_292 ⟨rfl, rfl⟩ ⟨by decide, by decide⟩ rfl rfl hl (Nat.le_of_ble_eq_true rfl) ⟨Nat.zero_le _, Nat.zero_le _⟩ dX12_joined_2 (fun r1 σ1 t1 hw => ?_)
  have hw := hw t1
  refine ml_if_eq (pc := 5) (tgt := 30) X t1.i dX12_joined_5 (by decide) (fun c2 => ?_) (fun c2 => ?_)
  · have hw := hw.1 c2
    exact u_X12_joined_30 X hn σ1   _ (lv_sub hl [] rfl) hw
  · have hw := hw.2 c2
    refine ml_aload_n (pc := 8) X hl 0 rfl rfl dX12_joined_8 ?_
    refine ml_iload_n (pc := 9) X hl 2 rfl rfl dX12_joined_9 ?_
    refine ml_callzV (pc := 10) (rest := []) X [.int (Int32.ofInt x2)] (by decide) rfl (ml_c215 hn) (c_X12_isEnd l base D cA n hn σ1 x2 h_x2 _ hw) cv_X12_295 ⟨rfl, rfl⟩ ⟨by decide, by decide⟩ rfl rfl hl (Nat.le_of_ble_eq_true rfl) ⟨Nat.zero_le _, Nat.zero_le _⟩ dX12_joined_10 (fun r3 σ3 t3 hw => ?_)
    have hw := hw t3
    refine ml_if_eq (pc := 13) (tgt := 30) X t3.i dX12_joined_13 (by decide) (fun c4 => ?_) (fun c4 => ?_)
    · have hw := hw.1 c4
      exact u_X12_joined_30 X hn σ3   _ (lv_sub hl [] rfl) hw
    · have hw := hw.2 c4
      refine ml_aload_n (pc := 16) X hl 0 rfl rfl dX12_joined_16 ?_
      refine gf_X12_49 (pc := 17) X (ml_c215 hn) dX12_joined_17 ?_
      refine ml_bipush (pc := 20) X dX12_joined_20 (by decide) ?_
      refine ml_iload_n (pc := 22) X hl 1 rfl rfl dX12_joined_22 ?_
      obtain ⟨v5, hw⟩ := hw
      refine ml_imul (pc := 23) X dX12_joined_23 ?_
      refine ml_iload_n (pc := 24) X hl 2 rfl rfl dX12_joined_24 ?_
      obtain ⟨v6, hw⟩ := hw
      refine ml_iadd (pc := 25) X dX12_joined_25 ?_
      obtain ⟨a7, b7, hw⟩ := hw
      refine ml_iald (pc := 26) (N := 640) X (ml_c227 hn) a7 b7 dX12_joined_26 (fun r7 => ?_)
      have hw := hw r7
      refine ml_goto (pc := 27) (tgt := 31) X dX12_joined_27 (by decide) ?_
      exact u_X12_joined_31 X hn σ3 (σ3 227 ((10 * x1) + x2)) r7 _ (lv_sub hl [] rfl) hw
set_option maxRecDepth 100000 in
theorem c_X12_joined (l : Launch) (base : Nat) (D : va_G) (cA : Nat → ClassId) (n : Nat) (hn : 256 ≤ n) (σ : ml_St) (x1 : Int) (x2 : Int) (h_x1 : I32 x1) (h_x2 : I32 x2) (Q : Int → ml_St → Prop) (hw : f_X12_joined σ x1 x2 Q) : Met l yX12_joined (Cond.code yX12_joined cX12_joined 3 (some .int) :: ml_T) rm_X12_joined (va_Pc [.ref (base + (215 : Int).toNat), .int (Int32.ofInt x1), .int (Int32.ofInt x2)] (ml_U base D cA n σ)) (ml_Qi I32 base D cA n Q) 0 0 (ml_A base) := by
  refine Met.ofW (cc := cX12_joined) (maxL := 3) (ret := (some .int)) (by decide) rfl ?_
  intro p e s m args below meth c s₁ B hml hv
  obtain ⟨rfl, hP, hK, hok, hro⟩ := hv
  have X : ml_X p s m c meth _ D cA cX12_joined 3 RX12 (some .int) := ⟨B.exec, B.bytes, hml, findClass_of_methodNamed B.named, fun w hw => atoms_spec (ws := Cond.code yX12_joined cX12_joined 3 (some .int) :: ml_T) B.pre w (List.mem_cons_of_mem _ hw), hK, B.notSynchronized, B.returns⟩
  have hl := lv_entry [.ref (base + (215 : Int).toNat), .int (Int32.ofInt x1), .int (Int32.ofInt x2)] (n := 3) (Nat.le_of_ble_eq_true rfl)
  rw [lg_entry_eq]
  generalize (lg_sl [.ref (base + (215 : Int).toNat), .int (Int32.ofInt x1), .int (Int32.ofInt x2)] ++ List.replicate (3 - (lg_sl [.ref (base + (215 : Int).toNat), .int (Int32.ofInt x1), .int (Int32.ofInt x2)]).length) Slot.unset).toArray = ls at hl ⊢
  have hl : lv_has ls 3 [(0, .ref (base + (215 : Int).toNat)), (1, .int (Int32.ofInt x1)), (2, .int (Int32.ofInt x2))] := hl
  unfold f_X12_joined at hw
  exact u_X12_joined_0 X hn σ x1 x2 h_x1 h_x2 _ (lv_sub hl [0, 1, 2] rfl) hw s.heap [] hP va_S.rf hok hro
theorem dX12_length_0 : decode cX12_length 0 = .ok (.aload_n 0, 1) := by decide +kernel
theorem dX12_length_1 : decode cX12_length 1 = .ok (.iload_n 1, 1) := by decide +kernel
theorem dX12_length_2 : decode cX12_length 2 = .ok (.invokevirtual 292, 3) := by decide +kernel
theorem dX12_length_5 : decode cX12_length 5 = .ok (.ifCond .eq 25, 3) := by decide +kernel
theorem dX12_length_8 : decode cX12_length 8 = .ok (.aload_n 0, 1) := by decide +kernel
theorem dX12_length_9 : decode cX12_length 9 = .ok (.iload_n 2, 1) := by decide +kernel
theorem dX12_length_10 : decode cX12_length 10 = .ok (.invokevirtual 295, 3) := by decide +kernel
theorem dX12_length_13 : decode cX12_length 13 = .ok (.ifCond .eq 17, 3) := by decide +kernel
theorem dX12_length_16 : decode cX12_length 16 = .ok (.aload_n 0, 1) := by decide +kernel
theorem dX12_length_17 : decode cX12_length 17 = .ok (.getfield 52, 3) := by decide +kernel
theorem dX12_length_20 : decode cX12_length 20 = .ok (.bipush 10, 2) := by decide +kernel
theorem dX12_length_22 : decode cX12_length 22 = .ok (.iload_n 1, 1) := by decide +kernel
theorem dX12_length_23 : decode cX12_length 23 = .ok (.imul, 1) := by decide +kernel
theorem dX12_length_24 : decode cX12_length 24 = .ok (.iload_n 2, 1) := by decide +kernel
theorem dX12_length_25 : decode cX12_length 25 = .ok (.iadd, 1) := by decide +kernel
theorem dX12_length_26 : decode cX12_length 26 = .ok (.laload, 1) := by decide +kernel
theorem dX12_length_27 : decode cX12_length 27 = .ok (.goto 6, 3) := by decide +kernel
theorem dX12_length_30 : decode cX12_length 30 = .ok (.ldc2_w 290, 3) := by decide +kernel
theorem dX12_length_33 : decode cX12_length 33 = .ok (.lreturn, 1) := by decide +kernel
def f_X12_length_u33 (Q : Int → ml_St → Prop) (σ : ml_St) (s0 : Int) : Prop :=
Q s0 σ
def f_X12_length_u30 (Q : Int → ml_St → Prop) (σ : ml_St) : Prop :=
f_X12_length_u33 Q σ (-1)
def f_X12_length_u0 (Q : Int → ml_St → Prop) (σ : ml_St) (x1 : Int) (x2 : Int) : Prop :=
f_X12_isMade σ x1 (fun r1 σ1 => ∀ _ : ml_B r1,
(r1 = 0 →
f_X12_length_u30 Q σ1) ∧
(r1 ≠ 0 →
f_X12_isEnd σ1 x2 (fun r3 σ3 => ∀ _ : ml_B r3,
(r3 = 0 →
f_X12_length_u30 Q σ3) ∧
(r3 ≠ 0 →
I32 (10 * x1) ∧
I32 ((10 * x1) + x2) ∧
(0 : Int) ≤ ((10 * x1) + x2) ∧ (((10 * x1) + x2) : Int) < 640 ∧
∀ _ : I64 (σ3 228 ((10 * x1) + x2)),
f_X12_length_u33 Q σ3 (σ3 228 ((10 * x1) + x2))))))
def f_X12_length (σ : ml_St) (x1 : Int) (x2 : Int) (Q : Int → ml_St → Prop) : Prop := f_X12_length_u0 Q σ x1 x2
def rm_X12_length : Room := { frames := 4, cells := 0, slots := 0, locals := 86 }
set_option maxRecDepth 100000 in
set_option maxHeartbeats 4000000 in
theorem u_X12_length_33 {p : Program} {e : Env} {s : State} {m : MethodId} {args : Array Value} {below : List Frame} {meth : Method} {c : Code} {base : Nat} {D : va_G} {cA : Nat → ClassId} {n : Nat} {l : Launch} {Q : Int → ml_St → Prop} (X : ml_X p s m c meth args D cA cX12_length 3 RX12 (some .long)) (hn : 256 ≤ n) (σ : ml_St) (s0 : Int) (h_s0 : I64 s0) (ls : Array Slot) (hl : lv_has ls 3 []) (hw : f_X12_length_u33 Q σ s0) : ml_V p l e rm_X12_length s m args below meth c (MQ below (ml_Ql base D cA n Q) args s 0 0 (ml_A base)) base D cA 0 0 n n σ (F0 m 33 ls [.long (Int64.ofInt s0)]) := by
  unfold f_X12_length_u33 at hw
  exact ml_lret (pc := 33) X h_s0 hw dX12_length_33
set_option maxRecDepth 100000 in
set_option maxHeartbeats 4000000 in
theorem u_X12_length_30 {p : Program} {e : Env} {s : State} {m : MethodId} {args : Array Value} {below : List Frame} {meth : Method} {c : Code} {base : Nat} {D : va_G} {cA : Nat → ClassId} {n : Nat} {l : Launch} {Q : Int → ml_St → Prop} (X : ml_X p s m c meth args D cA cX12_length 3 RX12 (some .long)) (hn : 256 ≤ n) (σ : ml_St) (ls : Array Slot) (hl : lv_has ls 3 []) (hw : f_X12_length_u30 Q σ) : ml_V p l e rm_X12_length s m args below meth c (MQ below (ml_Ql base D cA n Q) args s 0 0 (ml_A base)) base D cA 0 0 n n σ (F0 m 30 ls []) := by
  unfold f_X12_length_u30 at hw
  refine ml_ldc2 (pc := 30) (v := (-1)) X dX12_length_30 tc_6_52 ?_
  exact u_X12_length_33 X hn σ (-1) ⟨by decide, by decide⟩ _ (lv_sub hl [] rfl) hw
set_option maxRecDepth 100000 in
set_option maxHeartbeats 4000000 in
theorem u_X12_length_0 {p : Program} {e : Env} {s : State} {m : MethodId} {args : Array Value} {below : List Frame} {meth : Method} {c : Code} {base : Nat} {D : va_G} {cA : Nat → ClassId} {n : Nat} {l : Launch} {Q : Int → ml_St → Prop} (X : ml_X p s m c meth args D cA cX12_length 3 RX12 (some .long)) (hn : 256 ≤ n) (σ : ml_St) (x1 : Int) (x2 : Int) (h_x1 : I32 x1) (h_x2 : I32 x2) (ls : Array Slot) (hl : lv_has ls 3 [(0, .ref (base + (215 : Int).toNat)), (1, .int (Int32.ofInt x1)), (2, .int (Int32.ofInt x2))]) (hw : f_X12_length_u0 Q σ x1 x2) : ml_V p l e rm_X12_length s m args below meth c (MQ below (ml_Ql base D cA n Q) args s 0 0 (ml_A base)) base D cA 0 0 n n σ (F0 m 0 ls []) := by
  unfold f_X12_length_u0 at hw
  refine ml_aload_n (pc := 0) X hl 0 rfl rfl dX12_length_0 ?_
  refine ml_iload_n (pc := 1) X hl 1 rfl rfl dX12_length_1 ?_
  refine ml_callzV (pc := 2) (rest := []) X [.int (Int32.ofInt x1)] (by decide) rfl (ml_c215 hn) (c_X12_isMade l base D cA n hn σ x1 h_x1 _ hw) cv_X12_292 ⟨rfl, rfl⟩ ⟨by decide, by decide⟩ rfl rfl hl (Nat.le_of_ble_eq_true rfl) ⟨Nat.zero_le _, Nat.zero_le _⟩ dX12_length_2 (fun r1 σ1 t1 hw => ?_)
  have hw := hw t1
  refine ml_if_eq (pc := 5) (tgt := 30) X t1.i dX12_length_5 (by decide) (fun c2 => ?_) (fun c2 => ?_)
  · have hw := hw.1 c2
    exact u_X12_length_30 X hn σ1   _ (lv_sub hl [] rfl) hw
  · have hw := hw.2 c2
    refine ml_aload_n (pc := 8) X hl 0 rfl rfl dX12_length_8 ?_
    refine ml_iload_n (pc := 9) X hl 2 rfl rfl dX12_length_9 ?_
    refine ml_callzV (pc := 10) (rest := []) X [.int (Int32.ofInt x2)] (by decide) rfl (ml_c215 hn) (c_X12_isEnd l base D cA n hn σ1 x2 h_x2 _ hw) cv_X12_295 ⟨rfl, rfl⟩ ⟨by decide, by decide⟩ rfl rfl hl (Nat.le_of_ble_eq_true rfl) ⟨Nat.zero_le _, Nat.zero_le _⟩ dX12_length_10 (fun r3 σ3 t3 hw => ?_)
    have hw := hw t3
    refine ml_if_eq (pc := 13) (tgt := 30) X t3.i dX12_length_13 (by decide) (fun c4 => ?_) (fun c4 => ?_)
    · have hw := hw.1 c4
      exact u_X12_length_30 X hn σ3   _ (lv_sub hl [] rfl) hw
    · have hw := hw.2 c4
      refine ml_aload_n (pc := 16) X hl 0 rfl rfl dX12_length_16 ?_
      refine gf_X12_52 (pc := 17) X (ml_c215 hn) dX12_length_17 ?_
      refine ml_bipush (pc := 20) X dX12_length_20 (by decide) ?_
      refine ml_iload_n (pc := 22) X hl 1 rfl rfl dX12_length_22 ?_
      obtain ⟨v5, hw⟩ := hw
      refine ml_imul (pc := 23) X dX12_length_23 ?_
      refine ml_iload_n (pc := 24) X hl 2 rfl rfl dX12_length_24 ?_
      obtain ⟨v6, hw⟩ := hw
      refine ml_iadd (pc := 25) X dX12_length_25 ?_
      obtain ⟨a7, b7, hw⟩ := hw
      refine ml_lald (pc := 26) (N := 640) X (ml_c228 hn) a7 b7 dX12_length_26 (fun r7 => ?_)
      have hw := hw r7
      refine ml_goto (pc := 27) (tgt := 33) X dX12_length_27 (by decide) ?_
      exact u_X12_length_33 X hn σ3 (σ3 228 ((10 * x1) + x2)) r7 _ (lv_sub hl [] rfl) hw
set_option maxRecDepth 100000 in
theorem c_X12_length (l : Launch) (base : Nat) (D : va_G) (cA : Nat → ClassId) (n : Nat) (hn : 256 ≤ n) (σ : ml_St) (x1 : Int) (x2 : Int) (h_x1 : I32 x1) (h_x2 : I32 x2) (Q : Int → ml_St → Prop) (hw : f_X12_length σ x1 x2 Q) : Met l yX12_length (Cond.code yX12_length cX12_length 3 (some .long) :: ml_T) rm_X12_length (va_Pc [.ref (base + (215 : Int).toNat), .int (Int32.ofInt x1), .int (Int32.ofInt x2)] (ml_U base D cA n σ)) (ml_Ql base D cA n Q) 0 0 (ml_A base) := by
  refine Met.ofW (cc := cX12_length) (maxL := 3) (ret := (some .long)) (by decide) rfl ?_
  intro p e s m args below meth c s₁ B hml hv
  obtain ⟨rfl, hP, hK, hok, hro⟩ := hv
  have X : ml_X p s m c meth _ D cA cX12_length 3 RX12 (some .long) := ⟨B.exec, B.bytes, hml, findClass_of_methodNamed B.named, fun w hw => atoms_spec (ws := Cond.code yX12_length cX12_length 3 (some .long) :: ml_T) B.pre w (List.mem_cons_of_mem _ hw), hK, B.notSynchronized, B.returns⟩
  have hl := lv_entry [.ref (base + (215 : Int).toNat), .int (Int32.ofInt x1), .int (Int32.ofInt x2)] (n := 3) (Nat.le_of_ble_eq_true rfl)
  rw [lg_entry_eq]
  generalize (lg_sl [.ref (base + (215 : Int).toNat), .int (Int32.ofInt x1), .int (Int32.ofInt x2)] ++ List.replicate (3 - (lg_sl [.ref (base + (215 : Int).toNat), .int (Int32.ofInt x1), .int (Int32.ofInt x2)]).length) Slot.unset).toArray = ls at hl ⊢
  have hl : lv_has ls 3 [(0, .ref (base + (215 : Int).toNat)), (1, .int (Int32.ofInt x1)), (2, .int (Int32.ofInt x2))] := hl
  unfold f_X12_length at hw
  exact u_X12_length_0 X hn σ x1 x2 h_x1 h_x2 _ (lv_sub hl [0, 1, 2] rfl) hw s.heap [] hP va_S.rf hok hro
theorem dX12_closes_0 : decode cX12_closes 0 = .ok (.aload_n 0, 1) := by decide +kernel
theorem dX12_closes_1 : decode cX12_closes 1 = .ok (.getfield 151, 3) := by decide +kernel
theorem dX12_closes_4 : decode cX12_closes 4 = .ok (.ifCond .eq 12, 3) := by decide +kernel
theorem dX12_closes_7 : decode cX12_closes 7 = .ok (.aload_n 0, 1) := by decide +kernel
theorem dX12_closes_8 : decode cX12_closes 8 = .ok (.getfield 17, 3) := by decide +kernel
theorem dX12_closes_11 : decode cX12_closes 11 = .ok (.iload_n 1, 1) := by decide +kernel
theorem dX12_closes_12 : decode cX12_closes 12 = .ok (.iaload, 1) := by decide +kernel
theorem dX12_closes_13 : decode cX12_closes 13 = .ok (.goto 26, 3) := by decide +kernel
theorem dX12_closes_16 : decode cX12_closes 16 = .ok (.iload_n 1, 1) := by decide +kernel
theorem dX12_closes_17 : decode cX12_closes 17 = .ok (.aload_n 0, 1) := by decide +kernel
theorem dX12_closes_18 : decode cX12_closes 18 = .ok (.getfield 13, 3) := by decide +kernel
theorem dX12_closes_21 : decode cX12_closes 21 = .ok (.if_icmp .ge 12, 3) := by decide +kernel
theorem dX12_closes_24 : decode cX12_closes 24 = .ok (.iload_n 1, 1) := by decide +kernel
theorem dX12_closes_25 : decode cX12_closes 25 = .ok (.aload_n 0, 1) := by decide +kernel
theorem dX12_closes_26 : decode cX12_closes 26 = .ok (.getfield 13, 3) := by decide +kernel
theorem dX12_closes_29 : decode cX12_closes 29 = .ok (.iadd, 1) := by decide +kernel
theorem dX12_closes_30 : decode cX12_closes 30 = .ok (.goto 9, 3) := by decide +kernel
theorem dX12_closes_33 : decode cX12_closes 33 = .ok (.iload_n 1, 1) := by decide +kernel
theorem dX12_closes_34 : decode cX12_closes 34 = .ok (.aload_n 0, 1) := by decide +kernel
theorem dX12_closes_35 : decode cX12_closes 35 = .ok (.getfield 13, 3) := by decide +kernel
theorem dX12_closes_38 : decode cX12_closes 38 = .ok (.isub, 1) := by decide +kernel
theorem dX12_closes_39 : decode cX12_closes 39 = .ok (.ireturn, 1) := by decide +kernel
def f_X12_closes_u39 (Q : Int → ml_St → Prop) (σ : ml_St) (s0 : Int) : Prop :=
Q s0 σ
def f_X12_closes_u0 (Q : Int → ml_St → Prop) (σ : ml_St) (x1 : Int) : Prop :=
∀ _ : ml_B (σ 215 4),
(((σ 215 4) : Int) = 0 →
∀ _ : I32 (σ 215 2),
((σ 215 2) ≤ x1 →
∀ _ : I32 (σ 215 2),
I32 (x1 - (σ 215 2)) ∧
f_X12_closes_u39 Q σ (x1 - (σ 215 2))) ∧
(¬ ((σ 215 2) ≤ x1) →
∀ _ : I32 (σ 215 2),
I32 (x1 + (σ 215 2)) ∧
f_X12_closes_u39 Q σ (x1 + (σ 215 2)))) ∧
((σ 215 4) ≠ 0 →
(0 : Int) ≤ x1 ∧ (x1 : Int) < 10 ∧
∀ _ : I32 (σ 217 x1),
f_X12_closes_u39 Q σ (σ 217 x1))
def f_X12_closes (σ : ml_St) (x1 : Int) (Q : Int → ml_St → Prop) : Prop := f_X12_closes_u0 Q σ x1
def rm_X12_closes : Room := { frames := 0, cells := 0, slots := 0, locals := 0 }
set_option maxRecDepth 100000 in
set_option maxHeartbeats 4000000 in
theorem u_X12_closes_39 {p : Program} {e : Env} {s : State} {m : MethodId} {args : Array Value} {below : List Frame} {meth : Method} {c : Code} {base : Nat} {D : va_G} {cA : Nat → ClassId} {n : Nat} {l : Launch} {Q : Int → ml_St → Prop} (X : ml_X p s m c meth args D cA cX12_closes 2 RX12 (some .int)) (hn : 256 ≤ n) (σ : ml_St) (s0 : Int) (h_s0 : I32 s0) (ls : Array Slot) (hl : lv_has ls 2 []) (hw : f_X12_closes_u39 Q σ s0) : ml_V p l e rm_X12_closes s m args below meth c (MQ below (ml_Qi I32 base D cA n Q) args s 0 0 (ml_A base)) base D cA 0 0 n n σ (F0 m 39 ls [.int (Int32.ofInt s0)]) := by
  unfold f_X12_closes_u39 at hw
  exact ml_iret (pc := 39) X h_s0 hw dX12_closes_39
set_option maxRecDepth 100000 in
set_option maxHeartbeats 4000000 in
theorem u_X12_closes_0 {p : Program} {e : Env} {s : State} {m : MethodId} {args : Array Value} {below : List Frame} {meth : Method} {c : Code} {base : Nat} {D : va_G} {cA : Nat → ClassId} {n : Nat} {l : Launch} {Q : Int → ml_St → Prop} (X : ml_X p s m c meth args D cA cX12_closes 2 RX12 (some .int)) (hn : 256 ≤ n) (σ : ml_St) (x1 : Int) (h_x1 : I32 x1) (ls : Array Slot) (hl : lv_has ls 2 [(0, .ref (base + (215 : Int).toNat)), (1, .int (Int32.ofInt x1))]) (hw : f_X12_closes_u0 Q σ x1) : ml_V p l e rm_X12_closes s m args below meth c (MQ below (ml_Qi I32 base D cA n Q) args s 0 0 (ml_A base)) base D cA 0 0 n n σ (F0 m 0 ls []) := by
  unfold f_X12_closes_u0 at hw
  refine ml_aload_n (pc := 0) X hl 0 rfl rfl dX12_closes_0 ?_
  refine gf_X12_151 (pc := 1) X (ml_c215 hn) dX12_closes_1 (fun r1 => ?_)
  have hw := hw r1
  refine ml_if_eq (pc := 4) (tgt := 16) X r1.i dX12_closes_4 (by decide) (fun c2 => ?_) (fun c2 => ?_)
  · have hw := hw.1 c2
    refine ml_iload_n (pc := 16) X hl 1 rfl rfl dX12_closes_16 ?_
    refine ml_aload_n (pc := 17) X hl 0 rfl rfl dX12_closes_17 ?_
    refine gf_X12_13 (pc := 18) X (ml_c215 hn) dX12_closes_18 (fun r3 => ?_)
    have hw := hw r3
    refine ml_icmp_ge (pc := 21) (tgt := 33) X h_x1 r3 dX12_closes_21 (by decide) (fun c4 => ?_) (fun c4 => ?_)
    · have hw := hw.1 c4
      refine ml_iload_n (pc := 33) X hl 1 rfl rfl dX12_closes_33 ?_
      refine ml_aload_n (pc := 34) X hl 0 rfl rfl dX12_closes_34 ?_
      refine gf_X12_13 (pc := 35) X (ml_c215 hn) dX12_closes_35 (fun r5 => ?_)
      have hw := hw r5
      obtain ⟨v6, hw⟩ := hw
      refine ml_isub (pc := 38) X dX12_closes_38 ?_
      exact u_X12_closes_39 X hn σ (x1 - (σ 215 2)) v6 _ (lv_sub hl [] rfl) hw
    · have hw := hw.2 c4
      refine ml_iload_n (pc := 24) X hl 1 rfl rfl dX12_closes_24 ?_
      refine ml_aload_n (pc := 25) X hl 0 rfl rfl dX12_closes_25 ?_
      refine gf_X12_13 (pc := 26) X (ml_c215 hn) dX12_closes_26 (fun r7 => ?_)
      have hw := hw r7
      obtain ⟨v8, hw⟩ := hw
      refine ml_iadd (pc := 29) X dX12_closes_29 ?_
      refine ml_goto (pc := 30) (tgt := 39) X dX12_closes_30 (by decide) ?_
      exact u_X12_closes_39 X hn σ (x1 + (σ 215 2)) v8 _ (lv_sub hl [] rfl) hw
  · have hw := hw.2 c2
    refine ml_aload_n (pc := 7) X hl 0 rfl rfl dX12_closes_7 ?_
    refine gf_X12_17 (pc := 8) X (ml_c215 hn) dX12_closes_8 ?_
    refine ml_iload_n (pc := 11) X hl 1 rfl rfl dX12_closes_11 ?_
    obtain ⟨a9, b9, hw⟩ := hw
    refine ml_iald (pc := 12) (N := 10) X (ml_c217 hn) a9 b9 dX12_closes_12 (fun r9 => ?_)
    have hw := hw r9
    refine ml_goto (pc := 13) (tgt := 39) X dX12_closes_13 (by decide) ?_
    exact u_X12_closes_39 X hn σ (σ 217 x1) r9 _ (lv_sub hl [] rfl) hw
set_option maxRecDepth 100000 in
theorem c_X12_closes (l : Launch) (base : Nat) (D : va_G) (cA : Nat → ClassId) (n : Nat) (hn : 256 ≤ n) (σ : ml_St) (x1 : Int) (h_x1 : I32 x1) (Q : Int → ml_St → Prop) (hw : f_X12_closes σ x1 Q) : Met l yX12_closes (Cond.code yX12_closes cX12_closes 2 (some .int) :: ml_T) rm_X12_closes (va_Pc [.ref (base + (215 : Int).toNat), .int (Int32.ofInt x1)] (ml_U base D cA n σ)) (ml_Qi I32 base D cA n Q) 0 0 (ml_A base) := by
  refine Met.ofW (cc := cX12_closes) (maxL := 2) (ret := (some .int)) (by decide) rfl ?_
  intro p e s m args below meth c s₁ B hml hv
  obtain ⟨rfl, hP, hK, hok, hro⟩ := hv
  have X : ml_X p s m c meth _ D cA cX12_closes 2 RX12 (some .int) := ⟨B.exec, B.bytes, hml, findClass_of_methodNamed B.named, fun w hw => atoms_spec (ws := Cond.code yX12_closes cX12_closes 2 (some .int) :: ml_T) B.pre w (List.mem_cons_of_mem _ hw), hK, B.notSynchronized, B.returns⟩
  have hl := lv_entry [.ref (base + (215 : Int).toNat), .int (Int32.ofInt x1)] (n := 2) (Nat.le_of_ble_eq_true rfl)
  rw [lg_entry_eq]
  generalize (lg_sl [.ref (base + (215 : Int).toNat), .int (Int32.ofInt x1)] ++ List.replicate (2 - (lg_sl [.ref (base + (215 : Int).toNat), .int (Int32.ofInt x1)]).length) Slot.unset).toArray = ls at hl ⊢
  have hl : lv_has ls 2 [(0, .ref (base + (215 : Int).toNat)), (1, .int (Int32.ofInt x1))] := hl
  unfold f_X12_closes at hw
  exact u_X12_closes_0 X hn σ x1 h_x1 _ (lv_sub hl [0, 1] rfl) hw s.heap [] hP va_S.rf hok hro
theorem dX12_closing_0 : decode cX12_closing 0 = .ok (.iconst 0, 1) := by decide +kernel
theorem dX12_closing_1 : decode cX12_closing 1 = .ok (.istore_n 2, 1) := by decide +kernel
theorem dX12_closing_2 : decode cX12_closing 2 = .ok (.iconst 0, 1) := by decide +kernel
theorem dX12_closing_3 : decode cX12_closing 3 = .ok (.istore_n 3, 1) := by decide +kernel
theorem dX12_closing_4 : decode cX12_closing 4 = .ok (.iload_n 3, 1) := by decide +kernel
theorem dX12_closing_5 : decode cX12_closing 5 = .ok (.iconst 2, 1) := by decide +kernel
theorem dX12_closing_6 : decode cX12_closing 6 = .ok (.aload_n 0, 1) := by decide +kernel
theorem dX12_closing_7 : decode cX12_closing 7 = .ok (.getfield 13, 3) := by decide +kernel
theorem dX12_closing_10 : decode cX12_closing 10 = .ok (.imul, 1) := by decide +kernel
theorem dX12_closing_11 : decode cX12_closing 11 = .ok (.if_icmp .ge 16, 3) := by decide +kernel
theorem dX12_closing_14 : decode cX12_closing 14 = .ok (.aload_n 0, 1) := by decide +kernel
theorem dX12_closing_15 : decode cX12_closing 15 = .ok (.getfield 71, 3) := by decide +kernel
theorem dX12_closing_18 : decode cX12_closing 18 = .ok (.iload_n 3, 1) := by decide +kernel
theorem dX12_closing_19 : decode cX12_closing 19 = .ok (.iconst 0, 1) := by decide +kernel
theorem dX12_closing_20 : decode cX12_closing 20 = .ok (.bastore, 1) := by decide +kernel
theorem dX12_closing_21 : decode cX12_closing 21 = .ok (.iinc 3 1, 3) := by decide +kernel
theorem dX12_closing_24 : decode cX12_closing 24 = .ok (.goto (-20), 3) := by decide +kernel
theorem dX12_closing_27 : decode cX12_closing 27 = .ok (.iconst 0, 1) := by decide +kernel
theorem dX12_closing_28 : decode cX12_closing 28 = .ok (.istore_n 3, 1) := by decide +kernel
theorem dX12_closing_29 : decode cX12_closing 29 = .ok (.iload_n 3, 1) := by decide +kernel
theorem dX12_closing_30 : decode cX12_closing 30 = .ok (.iconst 2, 1) := by decide +kernel
theorem dX12_closing_31 : decode cX12_closing 31 = .ok (.aload_n 0, 1) := by decide +kernel
theorem dX12_closing_32 : decode cX12_closing 32 = .ok (.getfield 13, 3) := by decide +kernel
theorem dX12_closing_35 : decode cX12_closing 35 = .ok (.imul, 1) := by decide +kernel
theorem dX12_closing_36 : decode cX12_closing 36 = .ok (.if_icmp .ge 78, 3) := by decide +kernel
theorem dX12_closing_39 : decode cX12_closing 39 = .ok (.iload_n 3, 1) := by decide +kernel
theorem dX12_closing_40 : decode cX12_closing 40 = .ok (.istore 4, 2) := by decide +kernel
theorem dX12_closing_42 : decode cX12_closing 42 = .ok (.aload_n 0, 1) := by decide +kernel
theorem dX12_closing_43 : decode cX12_closing 43 = .ok (.getfield 71, 3) := by decide +kernel
theorem dX12_closing_46 : decode cX12_closing 46 = .ok (.iload_n 3, 1) := by decide +kernel
theorem dX12_closing_47 : decode cX12_closing 47 = .ok (.baload, 1) := by decide +kernel
theorem dX12_closing_48 : decode cX12_closing 48 = .ok (.ifCond .eq 6, 3) := by decide +kernel
theorem dX12_closing_51 : decode cX12_closing 51 = .ok (.goto 57, 3) := by decide +kernel
theorem dX12_closing_54 : decode cX12_closing 54 = .ok (.iinc 2 1, 3) := by decide +kernel
theorem dX12_closing_57 : decode cX12_closing 57 = .ok (.aload_n 0, 1) := by decide +kernel
theorem dX12_closing_58 : decode cX12_closing 58 = .ok (.getfield 71, 3) := by decide +kernel
theorem dX12_closing_61 : decode cX12_closing 61 = .ok (.iload 4, 2) := by decide +kernel
theorem dX12_closing_63 : decode cX12_closing 63 = .ok (.baload, 1) := by decide +kernel
theorem dX12_closing_64 : decode cX12_closing 64 = .ok (.ifCond .ne 44, 3) := by decide +kernel
theorem dX12_closing_67 : decode cX12_closing 67 = .ok (.aload_n 0, 1) := by decide +kernel
theorem dX12_closing_68 : decode cX12_closing 68 = .ok (.getfield 71, 3) := by decide +kernel
theorem dX12_closing_71 : decode cX12_closing 71 = .ok (.iload 4, 2) := by decide +kernel
theorem dX12_closing_73 : decode cX12_closing 73 = .ok (.iconst 1, 1) := by decide +kernel
theorem dX12_closing_74 : decode cX12_closing 74 = .ok (.bastore, 1) := by decide +kernel
theorem dX12_closing_75 : decode cX12_closing 75 = .ok (.aload_n 0, 1) := by decide +kernel
theorem dX12_closing_76 : decode cX12_closing 76 = .ok (.getfield 49, 3) := by decide +kernel
theorem dX12_closing_79 : decode cX12_closing 79 = .ok (.bipush 10, 2) := by decide +kernel
theorem dX12_closing_81 : decode cX12_closing 81 = .ok (.iload_n 1, 1) := by decide +kernel
theorem dX12_closing_82 : decode cX12_closing 82 = .ok (.imul, 1) := by decide +kernel
theorem dX12_closing_83 : decode cX12_closing 83 = .ok (.iload 4, 2) := by decide +kernel
theorem dX12_closing_85 : decode cX12_closing 85 = .ok (.iadd, 1) := by decide +kernel
theorem dX12_closing_86 : decode cX12_closing 86 = .ok (.iaload, 1) := by decide +kernel
theorem dX12_closing_87 : decode cX12_closing 87 = .ok (.istore 4, 2) := by decide +kernel
theorem dX12_closing_89 : decode cX12_closing 89 = .ok (.aload_n 0, 1) := by decide +kernel
theorem dX12_closing_90 : decode cX12_closing 90 = .ok (.getfield 71, 3) := by decide +kernel
theorem dX12_closing_93 : decode cX12_closing 93 = .ok (.iload 4, 2) := by decide +kernel
theorem dX12_closing_95 : decode cX12_closing 95 = .ok (.iconst 1, 1) := by decide +kernel
theorem dX12_closing_96 : decode cX12_closing 96 = .ok (.bastore, 1) := by decide +kernel
theorem dX12_closing_97 : decode cX12_closing 97 = .ok (.aload_n 0, 1) := by decide +kernel
theorem dX12_closing_98 : decode cX12_closing 98 = .ok (.iload 4, 2) := by decide +kernel
theorem dX12_closing_100 : decode cX12_closing 100 = .ok (.invokevirtual 298, 3) := by decide +kernel
theorem dX12_closing_103 : decode cX12_closing 103 = .ok (.istore 4, 2) := by decide +kernel
theorem dX12_closing_105 : decode cX12_closing 105 = .ok (.goto (-48), 3) := by decide +kernel
theorem dX12_closing_108 : decode cX12_closing 108 = .ok (.iinc 3 1, 3) := by decide +kernel
theorem dX12_closing_111 : decode cX12_closing 111 = .ok (.goto (-82), 3) := by decide +kernel
theorem dX12_closing_114 : decode cX12_closing 114 = .ok (.iload_n 2, 1) := by decide +kernel
theorem dX12_closing_115 : decode cX12_closing 115 = .ok (.ireturn, 1) := by decide +kernel
def f_X12_closing_u4 (Q : Int → ml_St → Prop) (K27 : ml_St → Int → Int → Prop) : Nat → ml_St → Int → Int → Int → Prop
| 0, _, _, _, _ => False
| N + 1, σ, x1, x2, x3 =>
∀ _ : I32 (σ 215 2),
I32 (2 * (σ 215 2)) ∧
((2 * (σ 215 2)) ≤ x3 →
K27 σ x1 x2) ∧
(¬ ((2 * (σ 215 2)) ≤ x3) →
(0 : Int) ≤ x3 ∧ (x3 : Int) < 10 ∧
∀ σ4, σ4 = ml_up σ 234 x3 0 →
I32 (x3 + 1) ∧
∀ y5 : Int, y5 = x3 + 1 →
f_X12_closing_u4 Q K27 N σ4 x1 x2 y5)
def f_X12_closing_u57 (Q : Int → ml_St → Prop) (K108 : ml_St → Int → Int → Int → Prop) : Nat → ml_St → Int → Int → Int → Int → Prop
| 0, _, _, _, _, _ => False
| N + 1, σ, x1, x2, x3, x4 =>
(0 : Int) ≤ x4 ∧ (x4 : Int) < 10 ∧
∀ _ : ml_B (σ 234 x4),
(((σ 234 x4) : Int) ≠ 0 →
K108 σ x1 x2 x3) ∧
((σ 234 x4) = 0 →
(0 : Int) ≤ x4 ∧ (x4 : Int) < 10 ∧
∀ σ3, σ3 = ml_up σ 234 x4 1 →
I32 (10 * x1) ∧
I32 ((10 * x1) + x4) ∧
(0 : Int) ≤ ((10 * x1) + x4) ∧ (((10 * x1) + x4) : Int) < 640 ∧
∀ _ : I32 (σ3 227 ((10 * x1) + x4)),
∀ y7 : Int, y7 = σ3 227 ((10 * x1) + x4) →
(0 : Int) ≤ y7 ∧ (y7 : Int) < 10 ∧
∀ σ8, σ8 = ml_up σ3 234 y7 1 →
f_X12_closes σ8 y7 (fun r9 σ9 => ∀ _ : I32 r9,
f_X12_closing_u57 Q K108 N σ9 x1 x2 x3 r9))
def f_X12_closing_u108 (Q : Int → ml_St → Prop) (K29 : ml_St → Int → Int → Int → Prop) (σ : ml_St) (x1 : Int) (x2 : Int) (x3 : Int) : Prop :=
I32 (x3 + 1) ∧
∀ y1 : Int, y1 = x3 + 1 →
K29 σ x1 x2 y1
def f_X12_closing_u29 (Q : Int → ml_St → Prop) (K114 : ml_St → Int → Prop) : Nat → ml_St → Int → Int → Int → Prop
| 0, _, _, _, _ => False
| N + 1, σ, x1, x2, x3 =>
∀ _ : I32 (σ 215 2),
I32 (2 * (σ 215 2)) ∧
((2 * (σ 215 2)) ≤ x3 →
K114 σ x2) ∧
(¬ ((2 * (σ 215 2)) ≤ x3) →
(0 : Int) ≤ x3 ∧ (x3 : Int) < 10 ∧
∀ _ : ml_B (σ 234 x3),
(((σ 234 x3) : Int) = 0 →
I32 (x2 + 1) ∧
∀ y6 : Int, y6 = x2 + 1 →
∃ N1, f_X12_closing_u57 Q (f_X12_closing_u108 Q (f_X12_closing_u29 Q K114 N)) N1 σ x1 y6 x3 x3) ∧
((σ 234 x3) ≠ 0 →
f_X12_closing_u108 Q (f_X12_closing_u29 Q K114 N) σ x1 x2 x3))
def f_X12_closing_u114 (Q : Int → ml_St → Prop) (σ : ml_St) (x2 : Int) : Prop :=
Q x2 σ
def f_X12_closing_u27 (Q : Int → ml_St → Prop) (σ : ml_St) (x1 : Int) (x2 : Int) : Prop :=
∃ N1, f_X12_closing_u29 Q (f_X12_closing_u114 Q) N1 σ x1 x2 0
def f_X12_closing_u0 (Q : Int → ml_St → Prop) (σ : ml_St) (x1 : Int) : Prop :=
∃ N1, f_X12_closing_u4 Q (f_X12_closing_u27 Q) N1 σ x1 0 0
def f_X12_closing (σ : ml_St) (x1 : Int) (Q : Int → ml_St → Prop) : Prop := f_X12_closing_u0 Q σ x1
def rm_X12_closing : Room := { frames := 1, cells := 0, slots := 0, locals := 21 }
set_option maxRecDepth 100000 in
set_option maxHeartbeats 4000000 in
theorem u_X12_closing_4 {p : Program} {e : Env} {s : State} {m : MethodId} {args : Array Value} {below : List Frame} {meth : Method} {c : Code} {base : Nat} {D : va_G} {cA : Nat → ClassId} {n : Nat} {l : Launch} {Q : Int → ml_St → Prop} {K27 : ml_St → Int → Int → Prop} (X : ml_X p s m c meth args D cA cX12_closing 5 RX12 (some .int)) (hn : 256 ≤ n) (hK27 : ∀ (σ : ml_St) (x1 : Int) (x2 : Int) (h_x1 : I32 x1) (h_x2 : ml_B x2) (ls : Array Slot), lv_has ls 5 [(0, .ref (base + (215 : Int).toNat)), (1, .int (Int32.ofInt x1)), (2, .int (Int32.ofInt x2))] → K27 σ x1 x2 → ml_V p l e rm_X12_closing s m args below meth c (MQ below (ml_Qi I32 base D cA n Q) args s 0 0 (ml_A base)) base D cA 0 0 n n σ (F0 m 27 ls [])) : ∀ (N : Nat) (σ : ml_St) (x1 : Int) (x2 : Int) (x3 : Int) (h_x1 : I32 x1) (h_x2 : ml_B x2) (h_x3 : I32 x3) (ls : Array Slot), lv_has ls 5 [(0, .ref (base + (215 : Int).toNat)), (1, .int (Int32.ofInt x1)), (2, .int (Int32.ofInt x2)), (3, .int (Int32.ofInt x3))] → f_X12_closing_u4 Q K27 N σ x1 x2 x3 → ml_V p l e rm_X12_closing s m args below meth c (MQ below (ml_Qi I32 base D cA n Q) args s 0 0 (ml_A base)) base D cA 0 0 n n σ (F0 m 4 ls []) := by
  intro N
  induction N with
  | zero => intro σ x1 x2 x3 h_x1 h_x2 h_x3 ls hl hw; exact False.elim hw
  | succ N ih =>
    intro σ x1 x2 x3 h_x1 h_x2 h_x3 ls hl hw
    unfold f_X12_closing_u4 at hw
    refine ml_iload_n (pc := 4) X hl 3 rfl rfl dX12_closing_4 ?_
    refine ml_iconst (pc := 5) X dX12_closing_5 ?_
    refine ml_aload_n (pc := 6) X hl 0 rfl rfl dX12_closing_6 ?_
    refine gf_X12_13 (pc := 7) X (ml_c215 hn) dX12_closing_7 (fun r1 => ?_)
    have hw := hw r1
    obtain ⟨v2, hw⟩ := hw
    refine ml_imul (pc := 10) X dX12_closing_10 ?_
    refine ml_icmp_ge (pc := 11) (tgt := 27) X h_x3 v2 dX12_closing_11 (by decide) (fun c3 => ?_) (fun c3 => ?_)
    · have hw := hw.1 c3
      exact hK27 σ x1 x2 h_x1 h_x2 _ (lv_sub hl [0, 1, 2] rfl) hw
    · have hw := hw.2 c3
      refine ml_aload_n (pc := 14) X hl 0 rfl rfl dX12_closing_14 ?_
      refine gf_X12_71 (pc := 15) X (ml_c215 hn) dX12_closing_15 ?_
      refine ml_iload_n (pc := 18) X hl 3 rfl rfl dX12_closing_18 ?_
      refine ml_iconst (pc := 19) X dX12_closing_19 ?_
      obtain ⟨a4, b4, hw⟩ := hw
      refine ml_zast (pc := 20) (N := 10) X (ml_c234 hn) a4 b4 ⟨by decide, by decide⟩ dX12_closing_20 (fun σ4 g4 => ?_)
      have hw := hw σ4 g4
      obtain ⟨v5, hw⟩ := hw
      obtain ⟨y5, e5⟩ : ∃ y : Int, y = x3 + 1 := ⟨_, rfl⟩
      have hw := hw y5 e5
      rw [← e5] at v5
      refine ml_iinc (pc := 21) X e5 hl 3 rfl (by decide) (lst' := [(3, .int (Int32.ofInt y5)), (0, .ref (base + (215 : Int).toNat)), (1, .int (Int32.ofInt x1)), (2, .int (Int32.ofInt x2))]) rfl dX12_closing_21 (fun ls hl => ?_)
      refine ml_goto (pc := 24) (tgt := 4) X dX12_closing_24 (by decide) ?_
      exact ih σ4 x1 x2 y5 h_x1 h_x2 v5 _ (lv_sub hl [1, 2, 3, 0] rfl) hw
set_option maxRecDepth 100000 in
set_option maxHeartbeats 4000000 in
theorem u_X12_closing_57 {p : Program} {e : Env} {s : State} {m : MethodId} {args : Array Value} {below : List Frame} {meth : Method} {c : Code} {base : Nat} {D : va_G} {cA : Nat → ClassId} {n : Nat} {l : Launch} {Q : Int → ml_St → Prop} {K108 : ml_St → Int → Int → Int → Prop} (X : ml_X p s m c meth args D cA cX12_closing 5 RX12 (some .int)) (hn : 256 ≤ n) (hK108 : ∀ (σ : ml_St) (x1 : Int) (x2 : Int) (x3 : Int) (h_x1 : I32 x1) (h_x2 : I32 x2) (h_x3 : I32 x3) (ls : Array Slot), lv_has ls 5 [(0, .ref (base + (215 : Int).toNat)), (1, .int (Int32.ofInt x1)), (2, .int (Int32.ofInt x2)), (3, .int (Int32.ofInt x3))] → K108 σ x1 x2 x3 → ml_V p l e rm_X12_closing s m args below meth c (MQ below (ml_Qi I32 base D cA n Q) args s 0 0 (ml_A base)) base D cA 0 0 n n σ (F0 m 108 ls [])) : ∀ (N : Nat) (σ : ml_St) (x1 : Int) (x2 : Int) (x3 : Int) (x4 : Int) (h_x1 : I32 x1) (h_x2 : I32 x2) (h_x3 : I32 x3) (h_x4 : I32 x4) (ls : Array Slot), lv_has ls 5 [(0, .ref (base + (215 : Int).toNat)), (1, .int (Int32.ofInt x1)), (2, .int (Int32.ofInt x2)), (3, .int (Int32.ofInt x3)), (4, .int (Int32.ofInt x4))] → f_X12_closing_u57 Q K108 N σ x1 x2 x3 x4 → ml_V p l e rm_X12_closing s m args below meth c (MQ below (ml_Qi I32 base D cA n Q) args s 0 0 (ml_A base)) base D cA 0 0 n n σ (F0 m 57 ls []) := by
  intro N
  induction N with
  | zero => intro σ x1 x2 x3 x4 h_x1 h_x2 h_x3 h_x4 ls hl hw; exact False.elim hw
  | succ N ih =>
    intro σ x1 x2 x3 x4 h_x1 h_x2 h_x3 h_x4 ls hl hw
    unfold f_X12_closing_u57 at hw
    refine ml_aload_n (pc := 57) X hl 0 rfl rfl dX12_closing_57 ?_
    refine gf_X12_71 (pc := 58) X (ml_c215 hn) dX12_closing_58 ?_
    refine ml_iload (pc := 61) X hl 4 rfl dX12_closing_61 ?_
    obtain ⟨a1, b1, hw⟩ := hw
    refine ml_zald (pc := 63) (N := 10) X (ml_c234 hn) a1 b1 dX12_closing_63 (fun r1 => ?_)
    have hw := hw r1
    refine ml_if_ne (pc := 64) (tgt := 108) X r1.i dX12_closing_64 (by decide) (fun c2 => ?_) (fun c2 => ?_)
    · have hw := hw.1 c2
      exact hK108 σ x1 x2 x3 h_x1 h_x2 h_x3 _ (lv_sub hl [0, 1, 2, 3] rfl) hw
    · have hw := hw.2 c2
      refine ml_aload_n (pc := 67) X hl 0 rfl rfl dX12_closing_67 ?_
      refine gf_X12_71 (pc := 68) X (ml_c215 hn) dX12_closing_68 ?_
      refine ml_iload (pc := 71) X hl 4 rfl dX12_closing_71 ?_
      refine ml_iconst (pc := 73) X dX12_closing_73 ?_
      obtain ⟨a3, b3, hw⟩ := hw
      refine ml_zast (pc := 74) (N := 10) X (ml_c234 hn) a3 b3 ⟨by decide, by decide⟩ dX12_closing_74 (fun σ3 g3 => ?_)
      have hw := hw σ3 g3
      refine ml_aload_n (pc := 75) X hl 0 rfl rfl dX12_closing_75 ?_
      refine gf_X12_49 (pc := 76) X (ml_c215 hn) dX12_closing_76 ?_
      refine ml_bipush (pc := 79) X dX12_closing_79 (by decide) ?_
      refine ml_iload_n (pc := 81) X hl 1 rfl rfl dX12_closing_81 ?_
      obtain ⟨v4, hw⟩ := hw
      refine ml_imul (pc := 82) X dX12_closing_82 ?_
      refine ml_iload (pc := 83) X hl 4 rfl dX12_closing_83 ?_
      obtain ⟨v5, hw⟩ := hw
      refine ml_iadd (pc := 85) X dX12_closing_85 ?_
      obtain ⟨a6, b6, hw⟩ := hw
      refine ml_iald (pc := 86) (N := 640) X (ml_c227 hn) a6 b6 dX12_closing_86 (fun r6 => ?_)
      have hw := hw r6
      refine ml_topI (pc := 87) (fun y7 e7 => ?_)
      have hw := hw y7 e7
      have q7 : I32 y7 := by rw [e7]; exact r6
      refine ml_istore (pc := 87) X hl (by decide) (lst' := [(4, .int (Int32.ofInt y7)), (0, .ref (base + (215 : Int).toNat)), (1, .int (Int32.ofInt x1)), (2, .int (Int32.ofInt x2)), (3, .int (Int32.ofInt x3))]) rfl dX12_closing_87 (fun ls hl => ?_)
      refine ml_aload_n (pc := 89) X hl 1 rfl rfl dX12_closing_89 ?_
      refine gf_X12_71 (pc := 90) X (ml_c215 hn) dX12_closing_90 ?_
      refine ml_iload (pc := 93) X hl 0 rfl dX12_closing_93 ?_
      refine ml_iconst (pc := 95) X dX12_closing_95 ?_
      obtain ⟨a8, b8, hw⟩ := hw
      refine ml_zast (pc := 96) (N := 10) X (ml_c234 hn) a8 b8 ⟨by decide, by decide⟩ dX12_closing_96 (fun σ8 g8 => ?_)
      have hw := hw σ8 g8
      refine ml_aload_n (pc := 97) X hl 1 rfl rfl dX12_closing_97 ?_
      refine ml_iload (pc := 98) X hl 0 rfl dX12_closing_98 ?_
      refine ml_calliV (pc := 100) (rest := []) X [.int (Int32.ofInt y7)] (by decide) rfl (ml_c215 hn) (c_X12_closes l base D cA n hn σ8 y7 q7 _ hw) cv_X12_298 ⟨rfl, rfl⟩ ⟨by decide, by decide⟩ rfl rfl hl (Nat.le_of_ble_eq_true rfl) ⟨Nat.zero_le _, Nat.zero_le _⟩ dX12_closing_100 (fun r9 σ9 t9 hw => ?_)
      have hw := hw t9
      refine ml_istore (pc := 103) X hl (by decide) (lst' := [(4, .int (Int32.ofInt r9)), (0, .ref (base + (215 : Int).toNat)), (1, .int (Int32.ofInt x1)), (2, .int (Int32.ofInt x2)), (3, .int (Int32.ofInt x3))]) rfl dX12_closing_103 (fun ls hl => ?_)
      refine ml_goto (pc := 105) (tgt := 57) X dX12_closing_105 (by decide) ?_
      exact ih σ9 x1 x2 x3 r9 h_x1 h_x2 h_x3 t9 _ (lv_sub hl [1, 2, 3, 4, 0] rfl) hw
set_option maxRecDepth 100000 in
set_option maxHeartbeats 4000000 in
theorem u_X12_closing_108 {p : Program} {e : Env} {s : State} {m : MethodId} {args : Array Value} {below : List Frame} {meth : Method} {c : Code} {base : Nat} {D : va_G} {cA : Nat → ClassId} {n : Nat} {l : Launch} {Q : Int → ml_St → Prop} {K29 : ml_St → Int → Int → Int → Prop} (X : ml_X p s m c meth args D cA cX12_closing 5 RX12 (some .int)) (hn : 256 ≤ n) (hK29 : ∀ (σ : ml_St) (x1 : Int) (x2 : Int) (x3 : Int) (h_x1 : I32 x1) (h_x2 : I32 x2) (h_x3 : I32 x3) (ls : Array Slot), lv_has ls 5 [(0, .ref (base + (215 : Int).toNat)), (1, .int (Int32.ofInt x1)), (2, .int (Int32.ofInt x2)), (3, .int (Int32.ofInt x3))] → K29 σ x1 x2 x3 → ml_V p l e rm_X12_closing s m args below meth c (MQ below (ml_Qi I32 base D cA n Q) args s 0 0 (ml_A base)) base D cA 0 0 n n σ (F0 m 29 ls [])) (σ : ml_St) (x1 : Int) (x2 : Int) (x3 : Int) (h_x1 : I32 x1) (h_x2 : I32 x2) (h_x3 : I32 x3) (ls : Array Slot) (hl : lv_has ls 5 [(0, .ref (base + (215 : Int).toNat)), (1, .int (Int32.ofInt x1)), (2, .int (Int32.ofInt x2)), (3, .int (Int32.ofInt x3))]) (hw : f_X12_closing_u108 Q K29 σ x1 x2 x3) : ml_V p l e rm_X12_closing s m args below meth c (MQ below (ml_Qi I32 base D cA n Q) args s 0 0 (ml_A base)) base D cA 0 0 n n σ (F0 m 108 ls []) := by
  unfold f_X12_closing_u108 at hw
  obtain ⟨v1, hw⟩ := hw
  obtain ⟨y1, e1⟩ : ∃ y : Int, y = x3 + 1 := ⟨_, rfl⟩
  have hw := hw y1 e1
  rw [← e1] at v1
  refine ml_iinc (pc := 108) X e1 hl 3 rfl (by decide) (lst' := [(3, .int (Int32.ofInt y1)), (0, .ref (base + (215 : Int).toNat)), (1, .int (Int32.ofInt x1)), (2, .int (Int32.ofInt x2))]) rfl dX12_closing_108 (fun ls hl => ?_)
  refine ml_goto (pc := 111) (tgt := 29) X dX12_closing_111 (by decide) ?_
  exact hK29 σ x1 x2 y1 h_x1 h_x2 v1 _ (lv_sub hl [1, 2, 3, 0] rfl) hw
set_option maxRecDepth 100000 in
set_option maxHeartbeats 4000000 in
theorem u_X12_closing_29 {p : Program} {e : Env} {s : State} {m : MethodId} {args : Array Value} {below : List Frame} {meth : Method} {c : Code} {base : Nat} {D : va_G} {cA : Nat → ClassId} {n : Nat} {l : Launch} {Q : Int → ml_St → Prop} {K114 : ml_St → Int → Prop} (X : ml_X p s m c meth args D cA cX12_closing 5 RX12 (some .int)) (hn : 256 ≤ n) (hK114 : ∀ (σ : ml_St) (x2 : Int) (h_x2 : I32 x2) (ls : Array Slot), lv_has ls 5 [(2, .int (Int32.ofInt x2))] → K114 σ x2 → ml_V p l e rm_X12_closing s m args below meth c (MQ below (ml_Qi I32 base D cA n Q) args s 0 0 (ml_A base)) base D cA 0 0 n n σ (F0 m 114 ls [])) : ∀ (N : Nat) (σ : ml_St) (x1 : Int) (x2 : Int) (x3 : Int) (h_x1 : I32 x1) (h_x2 : I32 x2) (h_x3 : I32 x3) (ls : Array Slot), lv_has ls 5 [(0, .ref (base + (215 : Int).toNat)), (1, .int (Int32.ofInt x1)), (2, .int (Int32.ofInt x2)), (3, .int (Int32.ofInt x3))] → f_X12_closing_u29 Q K114 N σ x1 x2 x3 → ml_V p l e rm_X12_closing s m args below meth c (MQ below (ml_Qi I32 base D cA n Q) args s 0 0 (ml_A base)) base D cA 0 0 n n σ (F0 m 29 ls []) := by
  intro N
  induction N with
  | zero => intro σ x1 x2 x3 h_x1 h_x2 h_x3 ls hl hw; exact False.elim hw
  | succ N ih =>
    intro σ x1 x2 x3 h_x1 h_x2 h_x3 ls hl hw
    unfold f_X12_closing_u29 at hw
    refine ml_iload_n (pc := 29) X hl 3 rfl rfl dX12_closing_29 ?_
    refine ml_iconst (pc := 30) X dX12_closing_30 ?_
    refine ml_aload_n (pc := 31) X hl 0 rfl rfl dX12_closing_31 ?_
    refine gf_X12_13 (pc := 32) X (ml_c215 hn) dX12_closing_32 (fun r1 => ?_)
    have hw := hw r1
    obtain ⟨v2, hw⟩ := hw
    refine ml_imul (pc := 35) X dX12_closing_35 ?_
    refine ml_icmp_ge (pc := 36) (tgt := 114) X h_x3 v2 dX12_closing_36 (by decide) (fun c3 => ?_) (fun c3 => ?_)
    · have hw := hw.1 c3
      exact hK114 σ x2 h_x2 _ (lv_sub hl [2] rfl) hw
    · have hw := hw.2 c3
      refine ml_iload_n (pc := 39) X hl 3 rfl rfl dX12_closing_39 ?_
      refine ml_istore (pc := 40) X hl (by decide) (lst' := [(4, .int (Int32.ofInt x3)), (0, .ref (base + (215 : Int).toNat)), (1, .int (Int32.ofInt x1)), (2, .int (Int32.ofInt x2)), (3, .int (Int32.ofInt x3))]) rfl dX12_closing_40 (fun ls hl => ?_)
      refine ml_aload_n (pc := 42) X hl 1 rfl rfl dX12_closing_42 ?_
      refine gf_X12_71 (pc := 43) X (ml_c215 hn) dX12_closing_43 ?_
      refine ml_iload_n (pc := 46) X hl 4 rfl rfl dX12_closing_46 ?_
      obtain ⟨a4, b4, hw⟩ := hw
      refine ml_zald (pc := 47) (N := 10) X (ml_c234 hn) a4 b4 dX12_closing_47 (fun r4 => ?_)
      have hw := hw r4
      refine ml_if_eq (pc := 48) (tgt := 54) X r4.i dX12_closing_48 (by decide) (fun c5 => ?_) (fun c5 => ?_)
      · have hw := hw.1 c5
        obtain ⟨v6, hw⟩ := hw
        obtain ⟨y6, e6⟩ : ∃ y : Int, y = x2 + 1 := ⟨_, rfl⟩
        have hw := hw y6 e6
        rw [← e6] at v6
        refine ml_iinc (pc := 54) X e6 hl 3 rfl (by decide) (lst' := [(2, .int (Int32.ofInt y6)), (4, .int (Int32.ofInt x3)), (0, .ref (base + (215 : Int).toNat)), (1, .int (Int32.ofInt x1)), (3, .int (Int32.ofInt x3))]) rfl dX12_closing_54 (fun ls hl => ?_)
        obtain ⟨N0, hw⟩ := hw
        exact u_X12_closing_57 X hn (fun σ x1 x2 x3 h_x1 h_x2 h_x3 ls hl hw => u_X12_closing_108 X hn ih σ x1 x2 x3 h_x1 h_x2 h_x3 ls hl hw) N0 σ x1 y6 x3 x3 h_x1 v6 h_x3 h_x3 _ (lv_sub hl [2, 3, 0, 4, 1] rfl) hw
      · have hw := hw.2 c5
        refine ml_goto (pc := 51) (tgt := 108) X dX12_closing_51 (by decide) ?_
        exact u_X12_closing_108 X hn ih σ x1 x2 x3 h_x1 h_x2 h_x3 _ (lv_sub hl [1, 2, 3, 4] rfl) hw
set_option maxRecDepth 100000 in
set_option maxHeartbeats 4000000 in
theorem u_X12_closing_114 {p : Program} {e : Env} {s : State} {m : MethodId} {args : Array Value} {below : List Frame} {meth : Method} {c : Code} {base : Nat} {D : va_G} {cA : Nat → ClassId} {n : Nat} {l : Launch} {Q : Int → ml_St → Prop} (X : ml_X p s m c meth args D cA cX12_closing 5 RX12 (some .int)) (hn : 256 ≤ n) (σ : ml_St) (x2 : Int) (h_x2 : I32 x2) (ls : Array Slot) (hl : lv_has ls 5 [(2, .int (Int32.ofInt x2))]) (hw : f_X12_closing_u114 Q σ x2) : ml_V p l e rm_X12_closing s m args below meth c (MQ below (ml_Qi I32 base D cA n Q) args s 0 0 (ml_A base)) base D cA 0 0 n n σ (F0 m 114 ls []) := by
  unfold f_X12_closing_u114 at hw
  refine ml_iload_n (pc := 114) X hl 0 rfl rfl dX12_closing_114 ?_
  exact ml_iret (pc := 115) X h_x2 hw dX12_closing_115
set_option maxRecDepth 100000 in
set_option maxHeartbeats 4000000 in
theorem u_X12_closing_27 {p : Program} {e : Env} {s : State} {m : MethodId} {args : Array Value} {below : List Frame} {meth : Method} {c : Code} {base : Nat} {D : va_G} {cA : Nat → ClassId} {n : Nat} {l : Launch} {Q : Int → ml_St → Prop} (X : ml_X p s m c meth args D cA cX12_closing 5 RX12 (some .int)) (hn : 256 ≤ n) (σ : ml_St) (x1 : Int) (x2 : Int) (h_x1 : I32 x1) (h_x2 : ml_B x2) (ls : Array Slot) (hl : lv_has ls 5 [(0, .ref (base + (215 : Int).toNat)), (1, .int (Int32.ofInt x1)), (2, .int (Int32.ofInt x2))]) (hw : f_X12_closing_u27 Q σ x1 x2) : ml_V p l e rm_X12_closing s m args below meth c (MQ below (ml_Qi I32 base D cA n Q) args s 0 0 (ml_A base)) base D cA 0 0 n n σ (F0 m 27 ls []) := by
  unfold f_X12_closing_u27 at hw
  refine ml_iconst (pc := 27) X dX12_closing_27 ?_
  refine ml_istore_n (pc := 28) X rfl hl (by decide) (lst' := [(3, .int (Int32.ofInt 0)), (0, .ref (base + (215 : Int).toNat)), (1, .int (Int32.ofInt x1)), (2, .int (Int32.ofInt x2))]) rfl dX12_closing_28 (fun ls hl => ?_)
  obtain ⟨N0, hw⟩ := hw
  exact u_X12_closing_29 X hn (fun σ x2 h_x2 ls hl hw => u_X12_closing_114 X hn σ x2 h_x2 ls hl hw) N0 σ x1 x2 0 h_x1 h_x2.i ⟨by decide, by decide⟩ _ (lv_sub hl [1, 2, 3, 0] rfl) hw
set_option maxRecDepth 100000 in
set_option maxHeartbeats 4000000 in
theorem u_X12_closing_0 {p : Program} {e : Env} {s : State} {m : MethodId} {args : Array Value} {below : List Frame} {meth : Method} {c : Code} {base : Nat} {D : va_G} {cA : Nat → ClassId} {n : Nat} {l : Launch} {Q : Int → ml_St → Prop} (X : ml_X p s m c meth args D cA cX12_closing 5 RX12 (some .int)) (hn : 256 ≤ n) (σ : ml_St) (x1 : Int) (h_x1 : I32 x1) (ls : Array Slot) (hl : lv_has ls 5 [(0, .ref (base + (215 : Int).toNat)), (1, .int (Int32.ofInt x1))]) (hw : f_X12_closing_u0 Q σ x1) : ml_V p l e rm_X12_closing s m args below meth c (MQ below (ml_Qi I32 base D cA n Q) args s 0 0 (ml_A base)) base D cA 0 0 n n σ (F0 m 0 ls []) := by
  unfold f_X12_closing_u0 at hw
  refine ml_iconst (pc := 0) X dX12_closing_0 ?_
  refine ml_istore_n (pc := 1) X rfl hl (by decide) (lst' := [(2, .int (Int32.ofInt 0)), (0, .ref (base + (215 : Int).toNat)), (1, .int (Int32.ofInt x1))]) rfl dX12_closing_1 (fun ls hl => ?_)
  refine ml_iconst (pc := 2) X dX12_closing_2 ?_
  refine ml_istore_n (pc := 3) X rfl hl (by decide) (lst' := [(3, .int (Int32.ofInt 0)), (2, .int (Int32.ofInt 0)), (0, .ref (base + (215 : Int).toNat)), (1, .int (Int32.ofInt x1))]) rfl dX12_closing_3 (fun ls hl => ?_)
  obtain ⟨N0, hw⟩ := hw
  exact u_X12_closing_4 X hn (fun σ x1 x2 h_x1 h_x2 ls hl hw => u_X12_closing_27 X hn σ x1 x2 h_x1 h_x2 ls hl hw) N0 σ x1 0 0 h_x1 ⟨by decide, by decide⟩ ⟨by decide, by decide⟩ _ (lv_sub hl [2, 3, 1, 0] rfl) hw
set_option maxRecDepth 100000 in
theorem c_X12_closing (l : Launch) (base : Nat) (D : va_G) (cA : Nat → ClassId) (n : Nat) (hn : 256 ≤ n) (σ : ml_St) (x1 : Int) (h_x1 : I32 x1) (Q : Int → ml_St → Prop) (hw : f_X12_closing σ x1 Q) : Met l yX12_closing (Cond.code yX12_closing cX12_closing 5 (some .int) :: ml_T) rm_X12_closing (va_Pc [.ref (base + (215 : Int).toNat), .int (Int32.ofInt x1)] (ml_U base D cA n σ)) (ml_Qi I32 base D cA n Q) 0 0 (ml_A base) := by
  refine Met.ofW (cc := cX12_closing) (maxL := 5) (ret := (some .int)) (by decide) rfl ?_
  intro p e s m args below meth c s₁ B hml hv
  obtain ⟨rfl, hP, hK, hok, hro⟩ := hv
  have X : ml_X p s m c meth _ D cA cX12_closing 5 RX12 (some .int) := ⟨B.exec, B.bytes, hml, findClass_of_methodNamed B.named, fun w hw => atoms_spec (ws := Cond.code yX12_closing cX12_closing 5 (some .int) :: ml_T) B.pre w (List.mem_cons_of_mem _ hw), hK, B.notSynchronized, B.returns⟩
  have hl := lv_entry [.ref (base + (215 : Int).toNat), .int (Int32.ofInt x1)] (n := 5) (Nat.le_of_ble_eq_true rfl)
  rw [lg_entry_eq]
  generalize (lg_sl [.ref (base + (215 : Int).toNat), .int (Int32.ofInt x1)] ++ List.replicate (5 - (lg_sl [.ref (base + (215 : Int).toNat), .int (Int32.ofInt x1)]).length) Slot.unset).toArray = ls at hl ⊢
  have hl : lv_has ls 5 [(0, .ref (base + (215 : Int).toNat)), (1, .int (Int32.ofInt x1))] := hl
  unfold f_X12_closing at hw
  exact u_X12_closing_0 X hn σ x1 h_x1 _ (lv_sub hl [0, 1] rfl) hw s.heap [] hP va_S.rf hok hro
theorem dX12_loops_0 : decode cX12_loops 0 = .ok (.aload_n 0, 1) := by decide +kernel
theorem dX12_loops_1 : decode cX12_loops 1 = .ok (.iload_n 1, 1) := by decide +kernel
theorem dX12_loops_2 : decode cX12_loops 2 = .ok (.invokevirtual 292, 3) := by decide +kernel
theorem dX12_loops_5 : decode cX12_loops 5 = .ok (.ifCond .ne 7, 3) := by decide +kernel
theorem dX12_loops_8 : decode cX12_loops 8 = .ok (.ldc2_w 290, 3) := by decide +kernel
theorem dX12_loops_11 : decode cX12_loops 11 = .ok (.lreturn, 1) := by decide +kernel
theorem dX12_loops_12 : decode cX12_loops 12 = .ok (.iload_n 2, 1) := by decide +kernel
theorem dX12_loops_13 : decode cX12_loops 13 = .ok (.tableswitch 66 0 3 #[31, 38, 45, 52], 31) := by decide +kernel
theorem dX12_loops_44 : decode cX12_loops 44 = .ok (.aload_n 0, 1) := by decide +kernel
theorem dX12_loops_45 : decode cX12_loops 45 = .ok (.getfield 55, 3) := by decide +kernel
theorem dX12_loops_48 : decode cX12_loops 48 = .ok (.iload_n 1, 1) := by decide +kernel
theorem dX12_loops_49 : decode cX12_loops 49 = .ok (.laload, 1) := by decide +kernel
theorem dX12_loops_50 : decode cX12_loops 50 = .ok (.lreturn, 1) := by decide +kernel
theorem dX12_loops_51 : decode cX12_loops 51 = .ok (.aload_n 0, 1) := by decide +kernel
theorem dX12_loops_52 : decode cX12_loops 52 = .ok (.getfield 58, 3) := by decide +kernel
theorem dX12_loops_55 : decode cX12_loops 55 = .ok (.iload_n 1, 1) := by decide +kernel
theorem dX12_loops_56 : decode cX12_loops 56 = .ok (.laload, 1) := by decide +kernel
theorem dX12_loops_57 : decode cX12_loops 57 = .ok (.lreturn, 1) := by decide +kernel
theorem dX12_loops_58 : decode cX12_loops 58 = .ok (.aload_n 0, 1) := by decide +kernel
theorem dX12_loops_59 : decode cX12_loops 59 = .ok (.getfield 61, 3) := by decide +kernel
theorem dX12_loops_62 : decode cX12_loops 62 = .ok (.iload_n 1, 1) := by decide +kernel
theorem dX12_loops_63 : decode cX12_loops 63 = .ok (.laload, 1) := by decide +kernel
theorem dX12_loops_64 : decode cX12_loops 64 = .ok (.lreturn, 1) := by decide +kernel
theorem dX12_loops_65 : decode cX12_loops 65 = .ok (.aload_n 0, 1) := by decide +kernel
theorem dX12_loops_66 : decode cX12_loops 66 = .ok (.getfield 55, 3) := by decide +kernel
theorem dX12_loops_69 : decode cX12_loops 69 = .ok (.iload_n 1, 1) := by decide +kernel
theorem dX12_loops_70 : decode cX12_loops 70 = .ok (.laload, 1) := by decide +kernel
theorem dX12_loops_71 : decode cX12_loops 71 = .ok (.aload_n 0, 1) := by decide +kernel
theorem dX12_loops_72 : decode cX12_loops 72 = .ok (.iload_n 1, 1) := by decide +kernel
theorem dX12_loops_73 : decode cX12_loops 73 = .ok (.invokevirtual 302, 3) := by decide +kernel
theorem dX12_loops_76 : decode cX12_loops 76 = .ok (.i2l, 1) := by decide +kernel
theorem dX12_loops_77 : decode cX12_loops 77 = .ok (.ladd, 1) := by decide +kernel
theorem dX12_loops_78 : decode cX12_loops 78 = .ok (.lreturn, 1) := by decide +kernel
theorem dX12_loops_79 : decode cX12_loops 79 = .ok (.ldc2_w 290, 3) := by decide +kernel
theorem dX12_loops_82 : decode cX12_loops 82 = .ok (.lreturn, 1) := by decide +kernel
def f_X12_loops_u0 (Q : Int → ml_St → Prop) (σ : ml_St) (x1 : Int) (x2 : Int) : Prop :=
f_X12_isMade σ x1 (fun r1 σ1 => ∀ _ : ml_B r1,
(r1 ≠ 0 →
(x2 = 0 →
(0 : Int) ≤ x1 ∧ (x1 : Int) < 64 ∧
∀ _ : I64 (σ1 229 x1),
Q (σ1 229 x1) σ1) ∧
(x2 = 1 →
(0 : Int) ≤ x1 ∧ (x1 : Int) < 64 ∧
∀ _ : I64 (σ1 230 x1),
Q (σ1 230 x1) σ1) ∧
(x2 = 2 →
(0 : Int) ≤ x1 ∧ (x1 : Int) < 64 ∧
∀ _ : I64 (σ1 231 x1),
Q (σ1 231 x1) σ1) ∧
(x2 = 3 →
(0 : Int) ≤ x1 ∧ (x1 : Int) < 64 ∧
∀ _ : I64 (σ1 229 x1),
f_X12_closing σ1 x1 (fun r8 σ8 => ∀ _ : I32 r8,
Q (w64 ((σ1 229 x1) + r8)) σ8)) ∧
(x2 < 0 ∨ 3 < x2 →
Q (-1) σ1)) ∧
(r1 = 0 →
Q (-1) σ1))
def f_X12_loops (σ : ml_St) (x1 : Int) (x2 : Int) (Q : Int → ml_St → Prop) : Prop := f_X12_loops_u0 Q σ x1 x2
def rm_X12_loops : Room := { frames := 4, cells := 0, slots := 0, locals := 86 }
set_option maxRecDepth 100000 in
set_option maxHeartbeats 4000000 in
theorem u_X12_loops_0 {p : Program} {e : Env} {s : State} {m : MethodId} {args : Array Value} {below : List Frame} {meth : Method} {c : Code} {base : Nat} {D : va_G} {cA : Nat → ClassId} {n : Nat} {l : Launch} {Q : Int → ml_St → Prop} (X : ml_X p s m c meth args D cA cX12_loops 3 RX12 (some .long)) (hn : 256 ≤ n) (σ : ml_St) (x1 : Int) (x2 : Int) (h_x1 : I32 x1) (h_x2 : I32 x2) (ls : Array Slot) (hl : lv_has ls 3 [(0, .ref (base + (215 : Int).toNat)), (1, .int (Int32.ofInt x1)), (2, .int (Int32.ofInt x2))]) (hw : f_X12_loops_u0 Q σ x1 x2) : ml_V p l e rm_X12_loops s m args below meth c (MQ below (ml_Ql base D cA n Q) args s 0 0 (ml_A base)) base D cA 0 0 n n σ (F0 m 0 ls []) := by
  unfold f_X12_loops_u0 at hw
  refine ml_aload_n (pc := 0) X hl 0 rfl rfl dX12_loops_0 ?_
  refine ml_iload_n (pc := 1) X hl 1 rfl rfl dX12_loops_1 ?_
  refine ml_callzV (pc := 2) (rest := []) X [.int (Int32.ofInt x1)] (by decide) rfl (ml_c215 hn) (c_X12_isMade l base D cA n hn σ x1 h_x1 _ hw) cv_X12_292 ⟨rfl, rfl⟩ ⟨by decide, by decide⟩ rfl rfl hl (Nat.le_of_ble_eq_true rfl) ⟨Nat.zero_le _, Nat.zero_le _⟩ dX12_loops_2 (fun r1 σ1 t1 hw => ?_)
  have hw := hw t1
  refine ml_if_ne (pc := 5) (tgt := 12) X t1.i dX12_loops_5 (by decide) (fun c2 => ?_) (fun c2 => ?_)
  · have hw := hw.1 c2
    refine ml_iload_n (pc := 12) X hl 2 rfl rfl dX12_loops_12 ?_
    rcases (show x2 = 0 ∨ x2 = 1 ∨ x2 = 2 ∨ x2 = 3 ∨ (x2 < 0 ∨ 3 < x2) by omega) with c3 | c3 | c3 | c3 | c3
    · have hw := hw.1 c3
      refine ml_tIn (pc := 13) (off := 31) (tgt := 44) X c3 dX12_loops_13 (by decide) (by decide) (by decide +kernel) (by decide) ?_
      refine ml_aload_n (pc := 44) X hl 0 rfl rfl dX12_loops_44 ?_
      refine gf_X12_55 (pc := 45) X (ml_c215 hn) dX12_loops_45 ?_
      refine ml_iload_n (pc := 48) X hl 1 rfl rfl dX12_loops_48 ?_
      obtain ⟨a4, b4, hw⟩ := hw
      refine ml_lald (pc := 49) (N := 64) X (ml_c229 hn) a4 b4 dX12_loops_49 (fun r4 => ?_)
      have hw := hw r4
      exact ml_lret (pc := 50) X r4 hw dX12_loops_50
    · have hw := hw.2.1 c3
      refine ml_tIn (pc := 13) (off := 38) (tgt := 51) X c3 dX12_loops_13 (by decide) (by decide) (by decide +kernel) (by decide) ?_
      refine ml_aload_n (pc := 51) X hl 0 rfl rfl dX12_loops_51 ?_
      refine gf_X12_58 (pc := 52) X (ml_c215 hn) dX12_loops_52 ?_
      refine ml_iload_n (pc := 55) X hl 1 rfl rfl dX12_loops_55 ?_
      obtain ⟨a5, b5, hw⟩ := hw
      refine ml_lald (pc := 56) (N := 64) X (ml_c230 hn) a5 b5 dX12_loops_56 (fun r5 => ?_)
      have hw := hw r5
      exact ml_lret (pc := 57) X r5 hw dX12_loops_57
    · have hw := hw.2.2.1 c3
      refine ml_tIn (pc := 13) (off := 45) (tgt := 58) X c3 dX12_loops_13 (by decide) (by decide) (by decide +kernel) (by decide) ?_
      refine ml_aload_n (pc := 58) X hl 0 rfl rfl dX12_loops_58 ?_
      refine gf_X12_61 (pc := 59) X (ml_c215 hn) dX12_loops_59 ?_
      refine ml_iload_n (pc := 62) X hl 1 rfl rfl dX12_loops_62 ?_
      obtain ⟨a6, b6, hw⟩ := hw
      refine ml_lald (pc := 63) (N := 64) X (ml_c231 hn) a6 b6 dX12_loops_63 (fun r6 => ?_)
      have hw := hw r6
      exact ml_lret (pc := 64) X r6 hw dX12_loops_64
    · have hw := hw.2.2.2.1 c3
      refine ml_tIn (pc := 13) (off := 52) (tgt := 65) X c3 dX12_loops_13 (by decide) (by decide) (by decide +kernel) (by decide) ?_
      refine ml_aload_n (pc := 65) X hl 0 rfl rfl dX12_loops_65 ?_
      refine gf_X12_55 (pc := 66) X (ml_c215 hn) dX12_loops_66 ?_
      refine ml_iload_n (pc := 69) X hl 1 rfl rfl dX12_loops_69 ?_
      obtain ⟨a7, b7, hw⟩ := hw
      refine ml_lald (pc := 70) (N := 64) X (ml_c229 hn) a7 b7 dX12_loops_70 (fun r7 => ?_)
      have hw := hw r7
      refine ml_aload_n (pc := 71) X hl 0 rfl rfl dX12_loops_71 ?_
      refine ml_iload_n (pc := 72) X hl 1 rfl rfl dX12_loops_72 ?_
      refine ml_calliV (pc := 73) (rest := [.long (Int64.ofInt (σ1 229 x1))]) X [.int (Int32.ofInt x1)] (by decide) rfl (ml_c215 hn) (c_X12_closing l base D cA n hn σ1 x1 h_x1 _ hw) cv_X12_302 ⟨rfl, rfl⟩ ⟨by decide, by decide⟩ rfl rfl hl (Nat.le_of_ble_eq_true rfl) ⟨Nat.zero_le _, Nat.zero_le _⟩ dX12_loops_73 (fun r8 σ8 t8 hw => ?_)
      have hw := hw t8
      refine ml_i2l (pc := 76) X t8 dX12_loops_76 ?_
      refine ml_laddW (pc := 77) X dX12_loops_77 ?_
      exact ml_lret (pc := 78) X (w64_r _) hw dX12_loops_78
    · have hw := hw.2.2.2.2 c3
      refine ml_tOut (pc := 13) (tgt := 79) X h_x2 dX12_loops_13 c3 (by decide) ?_
      refine ml_ldc2 (pc := 79) (v := (-1)) X dX12_loops_79 tc_6_52 ?_
      exact ml_lret (pc := 82) X ⟨by decide, by decide⟩ hw dX12_loops_82
  · have hw := hw.2 c2
    refine ml_ldc2 (pc := 8) (v := (-1)) X dX12_loops_8 tc_6_52 ?_
    exact ml_lret (pc := 11) X ⟨by decide, by decide⟩ hw dX12_loops_11
set_option maxRecDepth 100000 in
theorem c_X12_loops (l : Launch) (base : Nat) (D : va_G) (cA : Nat → ClassId) (n : Nat) (hn : 256 ≤ n) (σ : ml_St) (x1 : Int) (x2 : Int) (h_x1 : I32 x1) (h_x2 : I32 x2) (Q : Int → ml_St → Prop) (hw : f_X12_loops σ x1 x2 Q) : Met l yX12_loops (Cond.code yX12_loops cX12_loops 3 (some .long) :: ml_T) rm_X12_loops (va_Pc [.ref (base + (215 : Int).toNat), .int (Int32.ofInt x1), .int (Int32.ofInt x2)] (ml_U base D cA n σ)) (ml_Ql base D cA n Q) 0 0 (ml_A base) := by
  refine Met.ofW (cc := cX12_loops) (maxL := 3) (ret := (some .long)) (by decide) rfl ?_
  intro p e s m args below meth c s₁ B hml hv
  obtain ⟨rfl, hP, hK, hok, hro⟩ := hv
  have X : ml_X p s m c meth _ D cA cX12_loops 3 RX12 (some .long) := ⟨B.exec, B.bytes, hml, findClass_of_methodNamed B.named, fun w hw => atoms_spec (ws := Cond.code yX12_loops cX12_loops 3 (some .long) :: ml_T) B.pre w (List.mem_cons_of_mem _ hw), hK, B.notSynchronized, B.returns⟩
  have hl := lv_entry [.ref (base + (215 : Int).toNat), .int (Int32.ofInt x1), .int (Int32.ofInt x2)] (n := 3) (Nat.le_of_ble_eq_true rfl)
  rw [lg_entry_eq]
  generalize (lg_sl [.ref (base + (215 : Int).toNat), .int (Int32.ofInt x1), .int (Int32.ofInt x2)] ++ List.replicate (3 - (lg_sl [.ref (base + (215 : Int).toNat), .int (Int32.ofInt x1), .int (Int32.ofInt x2)]).length) Slot.unset).toArray = ls at hl ⊢
  have hl : lv_has ls 3 [(0, .ref (base + (215 : Int).toNat)), (1, .int (Int32.ofInt x1)), (2, .int (Int32.ofInt x2))] := hl
  unfold f_X12_loops at hw
  exact u_X12_loops_0 X hn σ x1 x2 h_x1 h_x2 _ (lv_sub hl [0, 1, 2] rfl) hw s.heap [] hP va_S.rf hok hro
theorem dX12_codeOf_0 : decode cX12_codeOf 0 = .ok (.lconst 0, 1) := by decide +kernel
theorem dX12_codeOf_1 : decode cX12_codeOf 1 = .ok (.lstore_n 2, 1) := by decide +kernel
theorem dX12_codeOf_2 : decode cX12_codeOf 2 = .ok (.iconst 0, 1) := by decide +kernel
theorem dX12_codeOf_3 : decode cX12_codeOf 3 = .ok (.istore 4, 2) := by decide +kernel
theorem dX12_codeOf_5 : decode cX12_codeOf 5 = .ok (.iload 4, 2) := by decide +kernel
theorem dX12_codeOf_7 : decode cX12_codeOf 7 = .ok (.iconst 2, 1) := by decide +kernel
theorem dX12_codeOf_8 : decode cX12_codeOf 8 = .ok (.aload_n 0, 1) := by decide +kernel
theorem dX12_codeOf_9 : decode cX12_codeOf 9 = .ok (.getfield 13, 3) := by decide +kernel
theorem dX12_codeOf_12 : decode cX12_codeOf 12 = .ok (.imul, 1) := by decide +kernel
theorem dX12_codeOf_13 : decode cX12_codeOf 13 = .ok (.if_icmp .ge 29, 3) := by decide +kernel
theorem dX12_codeOf_16 : decode cX12_codeOf 16 = .ok (.ldc2_w 305, 3) := by decide +kernel
theorem dX12_codeOf_19 : decode cX12_codeOf 19 = .ok (.lload_n 2, 1) := by decide +kernel
theorem dX12_codeOf_20 : decode cX12_codeOf 20 = .ok (.lmul, 1) := by decide +kernel
theorem dX12_codeOf_21 : decode cX12_codeOf 21 = .ok (.aload_n 0, 1) := by decide +kernel
theorem dX12_codeOf_22 : decode cX12_codeOf 22 = .ok (.getfield 49, 3) := by decide +kernel
theorem dX12_codeOf_25 : decode cX12_codeOf 25 = .ok (.bipush 10, 2) := by decide +kernel
theorem dX12_codeOf_27 : decode cX12_codeOf 27 = .ok (.iload_n 1, 1) := by decide +kernel
theorem dX12_codeOf_28 : decode cX12_codeOf 28 = .ok (.imul, 1) := by decide +kernel
theorem dX12_codeOf_29 : decode cX12_codeOf 29 = .ok (.iload 4, 2) := by decide +kernel
theorem dX12_codeOf_31 : decode cX12_codeOf 31 = .ok (.iadd, 1) := by decide +kernel
theorem dX12_codeOf_32 : decode cX12_codeOf 32 = .ok (.iaload, 1) := by decide +kernel
theorem dX12_codeOf_33 : decode cX12_codeOf 33 = .ok (.i2l, 1) := by decide +kernel
theorem dX12_codeOf_34 : decode cX12_codeOf 34 = .ok (.ladd, 1) := by decide +kernel
theorem dX12_codeOf_35 : decode cX12_codeOf 35 = .ok (.lstore_n 2, 1) := by decide +kernel
theorem dX12_codeOf_36 : decode cX12_codeOf 36 = .ok (.iinc 4 1, 3) := by decide +kernel
theorem dX12_codeOf_39 : decode cX12_codeOf 39 = .ok (.goto (-34), 3) := by decide +kernel
theorem dX12_codeOf_42 : decode cX12_codeOf 42 = .ok (.lload_n 2, 1) := by decide +kernel
theorem dX12_codeOf_43 : decode cX12_codeOf 43 = .ok (.lreturn, 1) := by decide +kernel
def f_X12_codeOf_u5 (Q : Int → ml_St → Prop) (K42 : ml_St → Int → Prop) : Nat → ml_St → Int → Int → Int → Prop
| 0, _, _, _, _ => False
| N + 1, σ, x1, x2, x4 =>
∀ _ : I32 (σ 215 2),
I32 (2 * (σ 215 2)) ∧
((2 * (σ 215 2)) ≤ x4 →
K42 σ x2) ∧
(¬ ((2 * (σ 215 2)) ≤ x4) →
I32 (10 * x1) ∧
I32 ((10 * x1) + x4) ∧
(0 : Int) ≤ ((10 * x1) + x4) ∧ (((10 * x1) + x4) : Int) < 640 ∧
∀ _ : I32 (σ 227 ((10 * x1) + x4)),
∀ y9 : Int, y9 = w64 ((w64 (10 * x2)) + (σ 227 ((10 * x1) + x4))) →
I32 (x4 + 1) ∧
∀ y10 : Int, y10 = x4 + 1 →
f_X12_codeOf_u5 Q K42 N σ x1 y9 y10)
def f_X12_codeOf_u42 (Q : Int → ml_St → Prop) (σ : ml_St) (x2 : Int) : Prop :=
Q x2 σ
def f_X12_codeOf_u0 (Q : Int → ml_St → Prop) (σ : ml_St) (x1 : Int) : Prop :=
∃ N1, f_X12_codeOf_u5 Q (f_X12_codeOf_u42 Q) N1 σ x1 0 0
def f_X12_codeOf (σ : ml_St) (x1 : Int) (Q : Int → ml_St → Prop) : Prop := f_X12_codeOf_u0 Q σ x1
def rm_X12_codeOf : Room := { frames := 0, cells := 0, slots := 0, locals := 0 }
set_option maxRecDepth 100000 in
set_option maxHeartbeats 4000000 in
theorem u_X12_codeOf_5 {p : Program} {e : Env} {s : State} {m : MethodId} {args : Array Value} {below : List Frame} {meth : Method} {c : Code} {base : Nat} {D : va_G} {cA : Nat → ClassId} {n : Nat} {l : Launch} {Q : Int → ml_St → Prop} {K42 : ml_St → Int → Prop} (X : ml_X p s m c meth args D cA cX12_codeOf 5 RX12 (some .long)) (hn : 256 ≤ n) (hK42 : ∀ (σ : ml_St) (x2 : Int) (h_x2 : I64 x2) (ls : Array Slot), lv_has ls 5 [(2, .long (Int64.ofInt x2))] → K42 σ x2 → ml_V p l e rm_X12_codeOf s m args below meth c (MQ below (ml_Ql base D cA n Q) args s 0 0 (ml_A base)) base D cA 0 0 n n σ (F0 m 42 ls [])) : ∀ (N : Nat) (σ : ml_St) (x1 : Int) (x2 : Int) (x4 : Int) (h_x1 : I32 x1) (h_x2 : I64 x2) (h_x4 : I32 x4) (ls : Array Slot), lv_has ls 5 [(0, .ref (base + (215 : Int).toNat)), (1, .int (Int32.ofInt x1)), (2, .long (Int64.ofInt x2)), (4, .int (Int32.ofInt x4))] → f_X12_codeOf_u5 Q K42 N σ x1 x2 x4 → ml_V p l e rm_X12_codeOf s m args below meth c (MQ below (ml_Ql base D cA n Q) args s 0 0 (ml_A base)) base D cA 0 0 n n σ (F0 m 5 ls []) := by
  intro N
  induction N with
  | zero => intro σ x1 x2 x4 h_x1 h_x2 h_x4 ls hl hw; exact False.elim hw
  | succ N ih =>
    intro σ x1 x2 x4 h_x1 h_x2 h_x4 ls hl hw
    unfold f_X12_codeOf_u5 at hw
    refine ml_iload (pc := 5) X hl 3 rfl dX12_codeOf_5 ?_
    refine ml_iconst (pc := 7) X dX12_codeOf_7 ?_
    refine ml_aload_n (pc := 8) X hl 0 rfl rfl dX12_codeOf_8 ?_
    refine gf_X12_13 (pc := 9) X (ml_c215 hn) dX12_codeOf_9 (fun r1 => ?_)
    have hw := hw r1
    obtain ⟨v2, hw⟩ := hw
    refine ml_imul (pc := 12) X dX12_codeOf_12 ?_
    refine ml_icmp_ge (pc := 13) (tgt := 42) X h_x4 v2 dX12_codeOf_13 (by decide) (fun c3 => ?_) (fun c3 => ?_)
    · have hw := hw.1 c3
      exact hK42 σ x2 h_x2 _ (lv_sub hl [2] rfl) hw
    · have hw := hw.2 c3
      refine ml_ldc2 (pc := 16) (v := 10) X dX12_codeOf_16 tc_6_93 ?_
      refine ml_lload_n (pc := 19) X hl 2 rfl rfl dX12_codeOf_19 ?_
      refine ml_lmulW (pc := 20) X dX12_codeOf_20 ?_
      refine ml_aload_n (pc := 21) X hl 0 rfl rfl dX12_codeOf_21 ?_
      refine gf_X12_49 (pc := 22) X (ml_c215 hn) dX12_codeOf_22 ?_
      refine ml_bipush (pc := 25) X dX12_codeOf_25 (by decide) ?_
      refine ml_iload_n (pc := 27) X hl 1 rfl rfl dX12_codeOf_27 ?_
      obtain ⟨v5, hw⟩ := hw
      refine ml_imul (pc := 28) X dX12_codeOf_28 ?_
      refine ml_iload (pc := 29) X hl 3 rfl dX12_codeOf_29 ?_
      obtain ⟨v6, hw⟩ := hw
      refine ml_iadd (pc := 31) X dX12_codeOf_31 ?_
      obtain ⟨a7, b7, hw⟩ := hw
      refine ml_iald (pc := 32) (N := 640) X (ml_c227 hn) a7 b7 dX12_codeOf_32 (fun r7 => ?_)
      have hw := hw r7
      refine ml_i2l (pc := 33) X r7 dX12_codeOf_33 ?_
      refine ml_laddW (pc := 34) X dX12_codeOf_34 ?_
      refine ml_topL (pc := 35) (fun y9 e9 => ?_)
      have hw := hw y9 e9
      have q9 : I64 y9 := by rw [e9]; exact (w64_r _)
      refine ml_lstore_n (pc := 35) X rfl hl (by decide) (lst' := [(2, .long (Int64.ofInt y9)), (0, .ref (base + (215 : Int).toNat)), (1, .int (Int32.ofInt x1)), (4, .int (Int32.ofInt x4))]) rfl dX12_codeOf_35 (fun ls hl => ?_)
      obtain ⟨v10, hw⟩ := hw
      obtain ⟨y10, e10⟩ : ∃ y : Int, y = x4 + 1 := ⟨_, rfl⟩
      have hw := hw y10 e10
      rw [← e10] at v10
      refine ml_iinc (pc := 36) X e10 hl 3 rfl (by decide) (lst' := [(4, .int (Int32.ofInt y10)), (2, .long (Int64.ofInt y9)), (0, .ref (base + (215 : Int).toNat)), (1, .int (Int32.ofInt x1))]) rfl dX12_codeOf_36 (fun ls hl => ?_)
      refine ml_goto (pc := 39) (tgt := 5) X dX12_codeOf_39 (by decide) ?_
      exact ih σ x1 y9 y10 h_x1 q9 v10 _ (lv_sub hl [2, 3, 1, 0] rfl) hw
set_option maxRecDepth 100000 in
set_option maxHeartbeats 4000000 in
theorem u_X12_codeOf_42 {p : Program} {e : Env} {s : State} {m : MethodId} {args : Array Value} {below : List Frame} {meth : Method} {c : Code} {base : Nat} {D : va_G} {cA : Nat → ClassId} {n : Nat} {l : Launch} {Q : Int → ml_St → Prop} (X : ml_X p s m c meth args D cA cX12_codeOf 5 RX12 (some .long)) (hn : 256 ≤ n) (σ : ml_St) (x2 : Int) (h_x2 : I64 x2) (ls : Array Slot) (hl : lv_has ls 5 [(2, .long (Int64.ofInt x2))]) (hw : f_X12_codeOf_u42 Q σ x2) : ml_V p l e rm_X12_codeOf s m args below meth c (MQ below (ml_Ql base D cA n Q) args s 0 0 (ml_A base)) base D cA 0 0 n n σ (F0 m 42 ls []) := by
  unfold f_X12_codeOf_u42 at hw
  refine ml_lload_n (pc := 42) X hl 0 rfl rfl dX12_codeOf_42 ?_
  exact ml_lret (pc := 43) X h_x2 hw dX12_codeOf_43
set_option maxRecDepth 100000 in
set_option maxHeartbeats 4000000 in
theorem u_X12_codeOf_0 {p : Program} {e : Env} {s : State} {m : MethodId} {args : Array Value} {below : List Frame} {meth : Method} {c : Code} {base : Nat} {D : va_G} {cA : Nat → ClassId} {n : Nat} {l : Launch} {Q : Int → ml_St → Prop} (X : ml_X p s m c meth args D cA cX12_codeOf 5 RX12 (some .long)) (hn : 256 ≤ n) (σ : ml_St) (x1 : Int) (h_x1 : I32 x1) (ls : Array Slot) (hl : lv_has ls 5 [(0, .ref (base + (215 : Int).toNat)), (1, .int (Int32.ofInt x1))]) (hw : f_X12_codeOf_u0 Q σ x1) : ml_V p l e rm_X12_codeOf s m args below meth c (MQ below (ml_Ql base D cA n Q) args s 0 0 (ml_A base)) base D cA 0 0 n n σ (F0 m 0 ls []) := by
  unfold f_X12_codeOf_u0 at hw
  refine ml_lconst0 (pc := 0) X dX12_codeOf_0 ?_
  refine ml_lstore_n (pc := 1) X rfl hl (by decide) (lst' := [(2, .long (Int64.ofInt 0)), (0, .ref (base + (215 : Int).toNat)), (1, .int (Int32.ofInt x1))]) rfl dX12_codeOf_1 (fun ls hl => ?_)
  refine ml_iconst (pc := 2) X dX12_codeOf_2 ?_
  refine ml_istore (pc := 3) X hl (by decide) (lst' := [(4, .int (Int32.ofInt 0)), (2, .long (Int64.ofInt 0)), (0, .ref (base + (215 : Int).toNat)), (1, .int (Int32.ofInt x1))]) rfl dX12_codeOf_3 (fun ls hl => ?_)
  obtain ⟨N0, hw⟩ := hw
  exact u_X12_codeOf_5 X hn (fun σ x2 h_x2 ls hl hw => u_X12_codeOf_42 X hn σ x2 h_x2 ls hl hw) N0 σ x1 0 0 h_x1 ⟨by decide, by decide⟩ ⟨by decide, by decide⟩ _ (lv_sub hl [2, 3, 1, 0] rfl) hw
set_option maxRecDepth 100000 in
theorem c_X12_codeOf (l : Launch) (base : Nat) (D : va_G) (cA : Nat → ClassId) (n : Nat) (hn : 256 ≤ n) (σ : ml_St) (x1 : Int) (h_x1 : I32 x1) (Q : Int → ml_St → Prop) (hw : f_X12_codeOf σ x1 Q) : Met l yX12_codeOf (Cond.code yX12_codeOf cX12_codeOf 5 (some .long) :: ml_T) rm_X12_codeOf (va_Pc [.ref (base + (215 : Int).toNat), .int (Int32.ofInt x1)] (ml_U base D cA n σ)) (ml_Ql base D cA n Q) 0 0 (ml_A base) := by
  refine Met.ofW (cc := cX12_codeOf) (maxL := 5) (ret := (some .long)) (by decide) rfl ?_
  intro p e s m args below meth c s₁ B hml hv
  obtain ⟨rfl, hP, hK, hok, hro⟩ := hv
  have X : ml_X p s m c meth _ D cA cX12_codeOf 5 RX12 (some .long) := ⟨B.exec, B.bytes, hml, findClass_of_methodNamed B.named, fun w hw => atoms_spec (ws := Cond.code yX12_codeOf cX12_codeOf 5 (some .long) :: ml_T) B.pre w (List.mem_cons_of_mem _ hw), hK, B.notSynchronized, B.returns⟩
  have hl := lv_entry [.ref (base + (215 : Int).toNat), .int (Int32.ofInt x1)] (n := 5) (Nat.le_of_ble_eq_true rfl)
  rw [lg_entry_eq]
  generalize (lg_sl [.ref (base + (215 : Int).toNat), .int (Int32.ofInt x1)] ++ List.replicate (5 - (lg_sl [.ref (base + (215 : Int).toNat), .int (Int32.ofInt x1)]).length) Slot.unset).toArray = ls at hl ⊢
  have hl : lv_has ls 5 [(0, .ref (base + (215 : Int).toNat)), (1, .int (Int32.ofInt x1))] := hl
  unfold f_X12_codeOf at hw
  exact u_X12_codeOf_0 X hn σ x1 h_x1 _ (lv_sub hl [0, 1] rfl) hw s.heap [] hP va_S.rf hok hro
theorem dX12_powers_0 : decode cX12_powers 0 = .ok (.aload_n 0, 1) := by decide +kernel
theorem dX12_powers_1 : decode cX12_powers 1 = .ok (.iload_n 1, 1) := by decide +kernel
theorem dX12_powers_2 : decode cX12_powers 2 = .ok (.bipush 60, 2) := by decide +kernel
theorem dX12_powers_4 : decode cX12_powers 4 = .ok (.invokevirtual 242, 3) := by decide +kernel
theorem dX12_powers_7 : decode cX12_powers 7 = .ok (.aload_n 0, 1) := by decide +kernel
theorem dX12_powers_8 : decode cX12_powers 8 = .ok (.iconst 0, 1) := by decide +kernel
theorem dX12_powers_9 : decode cX12_powers 9 = .ok (.putfield 307, 3) := by decide +kernel
theorem dX12_powers_12 : decode cX12_powers 12 = .ok (.iconst 1, 1) := by decide +kernel
theorem dX12_powers_13 : decode cX12_powers 13 = .ok (.istore_n 2, 1) := by decide +kernel
theorem dX12_powers_14 : decode cX12_powers 14 = .ok (.aload_n 0, 1) := by decide +kernel
theorem dX12_powers_15 : decode cX12_powers 15 = .ok (.getfield 307, 3) := by decide +kernel
theorem dX12_powers_18 : decode cX12_powers 18 = .ok (.ifCond .ne 110, 3) := by decide +kernel
theorem dX12_powers_21 : decode cX12_powers 21 = .ok (.aload_n 0, 1) := by decide +kernel
theorem dX12_powers_22 : decode cX12_powers 22 = .ok (.getfield 74, 3) := by decide +kernel
theorem dX12_powers_25 : decode cX12_powers 25 = .ok (.iload_n 2, 1) := by decide +kernel
theorem dX12_powers_26 : decode cX12_powers 26 = .ok (.aload_n 0, 1) := by decide +kernel
theorem dX12_powers_27 : decode cX12_powers 27 = .ok (.bipush 60, 2) := by decide +kernel
theorem dX12_powers_29 : decode cX12_powers 29 = .ok (.invokevirtual 310, 3) := by decide +kernel
theorem dX12_powers_32 : decode cX12_powers 32 = .ok (.lastore, 1) := by decide +kernel
theorem dX12_powers_33 : decode cX12_powers 33 = .ok (.aload_n 0, 1) := by decide +kernel
theorem dX12_powers_34 : decode cX12_powers 34 = .ok (.getfield 77, 3) := by decide +kernel
theorem dX12_powers_37 : decode cX12_powers 37 = .ok (.iload_n 2, 1) := by decide +kernel
theorem dX12_powers_38 : decode cX12_powers 38 = .ok (.aload_n 0, 1) := by decide +kernel
theorem dX12_powers_39 : decode cX12_powers 39 = .ok (.getfield 55, 3) := by decide +kernel
theorem dX12_powers_42 : decode cX12_powers 42 = .ok (.bipush 60, 2) := by decide +kernel
theorem dX12_powers_44 : decode cX12_powers 44 = .ok (.laload, 1) := by decide +kernel
theorem dX12_powers_45 : decode cX12_powers 45 = .ok (.aload_n 0, 1) := by decide +kernel
theorem dX12_powers_46 : decode cX12_powers 46 = .ok (.bipush 60, 2) := by decide +kernel
theorem dX12_powers_48 : decode cX12_powers 48 = .ok (.invokevirtual 302, 3) := by decide +kernel
theorem dX12_powers_51 : decode cX12_powers 51 = .ok (.i2l, 1) := by decide +kernel
theorem dX12_powers_52 : decode cX12_powers 52 = .ok (.ladd, 1) := by decide +kernel
theorem dX12_powers_53 : decode cX12_powers 53 = .ok (.lastore, 1) := by decide +kernel
theorem dX12_powers_54 : decode cX12_powers 54 = .ok (.iconst 1, 1) := by decide +kernel
theorem dX12_powers_55 : decode cX12_powers 55 = .ok (.istore_n 3, 1) := by decide +kernel
theorem dX12_powers_56 : decode cX12_powers 56 = .ok (.iload_n 3, 1) := by decide +kernel
theorem dX12_powers_57 : decode cX12_powers 57 = .ok (.iload_n 2, 1) := by decide +kernel
theorem dX12_powers_58 : decode cX12_powers 58 = .ok (.if_icmp .ge 47, 3) := by decide +kernel
theorem dX12_powers_61 : decode cX12_powers 61 = .ok (.aload_n 0, 1) := by decide +kernel
theorem dX12_powers_62 : decode cX12_powers 62 = .ok (.getfield 307, 3) := by decide +kernel
theorem dX12_powers_65 : decode cX12_powers 65 = .ok (.ifCond .ne 40, 3) := by decide +kernel
theorem dX12_powers_68 : decode cX12_powers 68 = .ok (.aload_n 0, 1) := by decide +kernel
theorem dX12_powers_69 : decode cX12_powers 69 = .ok (.getfield 74, 3) := by decide +kernel
theorem dX12_powers_72 : decode cX12_powers 72 = .ok (.iload_n 3, 1) := by decide +kernel
theorem dX12_powers_73 : decode cX12_powers 73 = .ok (.laload, 1) := by decide +kernel
theorem dX12_powers_74 : decode cX12_powers 74 = .ok (.aload_n 0, 1) := by decide +kernel
theorem dX12_powers_75 : decode cX12_powers 75 = .ok (.getfield 74, 3) := by decide +kernel
theorem dX12_powers_78 : decode cX12_powers 78 = .ok (.iload_n 2, 1) := by decide +kernel
theorem dX12_powers_79 : decode cX12_powers 79 = .ok (.laload, 1) := by decide +kernel
theorem dX12_powers_80 : decode cX12_powers 80 = .ok (.lcmp, 1) := by decide +kernel
theorem dX12_powers_81 : decode cX12_powers 81 = .ok (.ifCond .eq 6, 3) := by decide +kernel
theorem dX12_powers_84 : decode cX12_powers 84 = .ok (.goto 15, 3) := by decide +kernel
theorem dX12_powers_87 : decode cX12_powers 87 = .ok (.aload_n 0, 1) := by decide +kernel
theorem dX12_powers_88 : decode cX12_powers 88 = .ok (.iload_n 3, 1) := by decide +kernel
theorem dX12_powers_89 : decode cX12_powers 89 = .ok (.putfield 307, 3) := by decide +kernel
theorem dX12_powers_92 : decode cX12_powers 92 = .ok (.aload_n 0, 1) := by decide +kernel
theorem dX12_powers_93 : decode cX12_powers 93 = .ok (.iload_n 2, 1) := by decide +kernel
theorem dX12_powers_94 : decode cX12_powers 94 = .ok (.iload_n 3, 1) := by decide +kernel
theorem dX12_powers_95 : decode cX12_powers 95 = .ok (.isub, 1) := by decide +kernel
theorem dX12_powers_96 : decode cX12_powers 96 = .ok (.putfield 313, 3) := by decide +kernel
theorem dX12_powers_99 : decode cX12_powers 99 = .ok (.iinc 3 1, 3) := by decide +kernel
theorem dX12_powers_102 : decode cX12_powers 102 = .ok (.goto (-46), 3) := by decide +kernel
theorem dX12_powers_105 : decode cX12_powers 105 = .ok (.aload_n 0, 1) := by decide +kernel
theorem dX12_powers_106 : decode cX12_powers 106 = .ok (.bipush 60, 2) := by decide +kernel
theorem dX12_powers_108 : decode cX12_powers 108 = .ok (.iload_n 1, 1) := by decide +kernel
theorem dX12_powers_109 : decode cX12_powers 109 = .ok (.bipush 62, 2) := by decide +kernel
theorem dX12_powers_111 : decode cX12_powers 111 = .ok (.invokevirtual 245, 3) := by decide +kernel
theorem dX12_powers_114 : decode cX12_powers 114 = .ok (.aload_n 0, 1) := by decide +kernel
theorem dX12_powers_115 : decode cX12_powers 115 = .ok (.bipush 62, 2) := by decide +kernel
theorem dX12_powers_117 : decode cX12_powers 117 = .ok (.bipush 60, 2) := by decide +kernel
theorem dX12_powers_119 : decode cX12_powers 119 = .ok (.invokevirtual 242, 3) := by decide +kernel
theorem dX12_powers_122 : decode cX12_powers 122 = .ok (.iinc 2 1, 3) := by decide +kernel
theorem dX12_powers_125 : decode cX12_powers 125 = .ok (.goto (-111), 3) := by decide +kernel
theorem dX12_powers_128 : decode cX12_powers 128 = .ok (.aload_n 0, 1) := by decide +kernel
theorem dX12_powers_129 : decode cX12_powers 129 = .ok (.aload_n 0, 1) := by decide +kernel
theorem dX12_powers_130 : decode cX12_powers 130 = .ok (.getfield 307, 3) := by decide +kernel
theorem dX12_powers_133 : decode cX12_powers 133 = .ok (.iconst 2, 1) := by decide +kernel
theorem dX12_powers_134 : decode cX12_powers 134 = .ok (.aload_n 0, 1) := by decide +kernel
theorem dX12_powers_135 : decode cX12_powers 135 = .ok (.getfield 313, 3) := by decide +kernel
theorem dX12_powers_138 : decode cX12_powers 138 = .ok (.imul, 1) := by decide +kernel
theorem dX12_powers_139 : decode cX12_powers 139 = .ok (.iadd, 1) := by decide +kernel
theorem dX12_powers_140 : decode cX12_powers 140 = .ok (.putfield 316, 3) := by decide +kernel
theorem dX12_powers_143 : decode cX12_powers 143 = .ok (.iload_n 2, 1) := by decide +kernel
theorem dX12_powers_144 : decode cX12_powers 144 = .ok (.aload_n 0, 1) := by decide +kernel
theorem dX12_powers_145 : decode cX12_powers 145 = .ok (.getfield 316, 3) := by decide +kernel
theorem dX12_powers_148 : decode cX12_powers 148 = .ok (.if_icmp .gt 47, 3) := by decide +kernel
theorem dX12_powers_151 : decode cX12_powers 151 = .ok (.aload_n 0, 1) := by decide +kernel
theorem dX12_powers_152 : decode cX12_powers 152 = .ok (.getfield 77, 3) := by decide +kernel
theorem dX12_powers_155 : decode cX12_powers 155 = .ok (.iload_n 2, 1) := by decide +kernel
theorem dX12_powers_156 : decode cX12_powers 156 = .ok (.aload_n 0, 1) := by decide +kernel
theorem dX12_powers_157 : decode cX12_powers 157 = .ok (.getfield 55, 3) := by decide +kernel
theorem dX12_powers_160 : decode cX12_powers 160 = .ok (.bipush 60, 2) := by decide +kernel
theorem dX12_powers_162 : decode cX12_powers 162 = .ok (.laload, 1) := by decide +kernel
theorem dX12_powers_163 : decode cX12_powers 163 = .ok (.aload_n 0, 1) := by decide +kernel
theorem dX12_powers_164 : decode cX12_powers 164 = .ok (.bipush 60, 2) := by decide +kernel
theorem dX12_powers_166 : decode cX12_powers 166 = .ok (.invokevirtual 302, 3) := by decide +kernel
theorem dX12_powers_169 : decode cX12_powers 169 = .ok (.i2l, 1) := by decide +kernel
theorem dX12_powers_170 : decode cX12_powers 170 = .ok (.ladd, 1) := by decide +kernel
theorem dX12_powers_171 : decode cX12_powers 171 = .ok (.lastore, 1) := by decide +kernel
theorem dX12_powers_172 : decode cX12_powers 172 = .ok (.aload_n 0, 1) := by decide +kernel
theorem dX12_powers_173 : decode cX12_powers 173 = .ok (.bipush 60, 2) := by decide +kernel
theorem dX12_powers_175 : decode cX12_powers 175 = .ok (.iload_n 1, 1) := by decide +kernel
theorem dX12_powers_176 : decode cX12_powers 176 = .ok (.bipush 62, 2) := by decide +kernel
theorem dX12_powers_178 : decode cX12_powers 178 = .ok (.invokevirtual 245, 3) := by decide +kernel
theorem dX12_powers_181 : decode cX12_powers 181 = .ok (.aload_n 0, 1) := by decide +kernel
theorem dX12_powers_182 : decode cX12_powers 182 = .ok (.bipush 62, 2) := by decide +kernel
theorem dX12_powers_184 : decode cX12_powers 184 = .ok (.bipush 60, 2) := by decide +kernel
theorem dX12_powers_186 : decode cX12_powers 186 = .ok (.invokevirtual 242, 3) := by decide +kernel
theorem dX12_powers_189 : decode cX12_powers 189 = .ok (.iinc 2 1, 3) := by decide +kernel
theorem dX12_powers_192 : decode cX12_powers 192 = .ok (.goto (-49), 3) := by decide +kernel
theorem dX12_powers_195 : decode cX12_powers 195 = .ok (.aload_n 0, 1) := by decide +kernel
theorem dX12_powers_196 : decode cX12_powers 196 = .ok (.aload_n 0, 1) := by decide +kernel
theorem dX12_powers_197 : decode cX12_powers 197 = .ok (.getfield 77, 3) := by decide +kernel
theorem dX12_powers_200 : decode cX12_powers 200 = .ok (.aload_n 0, 1) := by decide +kernel
theorem dX12_powers_201 : decode cX12_powers 201 = .ok (.getfield 307, 3) := by decide +kernel
theorem dX12_powers_204 : decode cX12_powers 204 = .ok (.aload_n 0, 1) := by decide +kernel
theorem dX12_powers_205 : decode cX12_powers 205 = .ok (.getfield 313, 3) := by decide +kernel
theorem dX12_powers_208 : decode cX12_powers 208 = .ok (.iadd, 1) := by decide +kernel
theorem dX12_powers_209 : decode cX12_powers 209 = .ok (.laload, 1) := by decide +kernel
theorem dX12_powers_210 : decode cX12_powers 210 = .ok (.aload_n 0, 1) := by decide +kernel
theorem dX12_powers_211 : decode cX12_powers 211 = .ok (.getfield 77, 3) := by decide +kernel
theorem dX12_powers_214 : decode cX12_powers 214 = .ok (.aload_n 0, 1) := by decide +kernel
theorem dX12_powers_215 : decode cX12_powers 215 = .ok (.getfield 307, 3) := by decide +kernel
theorem dX12_powers_218 : decode cX12_powers 218 = .ok (.laload, 1) := by decide +kernel
theorem dX12_powers_219 : decode cX12_powers 219 = .ok (.lsub, 1) := by decide +kernel
theorem dX12_powers_220 : decode cX12_powers 220 = .ok (.putfield 319, 3) := by decide +kernel
theorem dX12_powers_223 : decode cX12_powers 223 = .ok (.return_, 1) := by decide +kernel
def f_X12_powers_u99 (Q : ml_St → Prop) (K56 : ml_St → Int → Int → Int → Prop) (σ : ml_St) (x1 : Int) (x2 : Int) (x3 : Int) : Prop :=
I32 (x3 + 1) ∧
∀ y1 : Int, y1 = x3 + 1 →
K56 σ x1 x2 y1
def f_X12_powers_u56 (Q : ml_St → Prop) (K105 : ml_St → Int → Int → Prop) : Nat → ml_St → Int → Int → Int → Prop
| 0, _, _, _, _ => False
| N + 1, σ, x1, x2, x3 =>
(x2 ≤ x3 →
K105 σ x1 x2) ∧
(¬ (x2 ≤ x3) →
∀ _ : I32 (σ 215 32),
(((σ 215 32) : Int) ≠ 0 →
K105 σ x1 x2) ∧
((σ 215 32) = 0 →
(0 : Int) ≤ x3 ∧ (x3 : Int) < 1000 ∧
∀ _ : I64 (σ 235 x3),
(0 : Int) ≤ x2 ∧ (x2 : Int) < 1000 ∧
∀ _ : I64 (σ 235 x2),
(((σ 235 x3) : Int) = (σ 235 x2) →
∀ σ7, σ7 = ml_up σ 215 32 x3 →
I32 (x2 - x3) ∧
∀ σ9, σ9 = ml_up σ7 215 33 (x2 - x3) →
f_X12_powers_u99 Q (f_X12_powers_u56 Q K105 N) σ9 x1 x2 x3) ∧
((σ 235 x3) ≠ (σ 235 x2) →
f_X12_powers_u99 Q (f_X12_powers_u56 Q K105 N) σ x1 x2 x3)))
def f_X12_powers_u105 (Q : ml_St → Prop) (K14 : ml_St → Int → Int → Prop) (σ : ml_St) (x1 : Int) (x2 : Int) : Prop :=
f_X12_lays σ 60 x1 62 (fun σ1 =>
f_X12_copies σ1 62 60 (fun σ2 =>
I32 (x2 + 1) ∧
∀ y3 : Int, y3 = x2 + 1 →
K14 σ2 x1 y3))
def f_X12_powers_u14 (Q : ml_St → Prop) (K128 : ml_St → Int → Int → Prop) : Nat → ml_St → Int → Int → Prop
| 0, _, _, _ => False
| N + 1, σ, x1, x2 =>
∀ _ : I32 (σ 215 32),
(((σ 215 32) : Int) ≠ 0 →
K128 σ x1 x2) ∧
((σ 215 32) = 0 →
f_X12_codeOf σ 60 (fun r3 σ3 => ∀ _ : I64 r3,
(0 : Int) ≤ x2 ∧ (x2 : Int) < 1000 ∧
∀ σ4, σ4 = ml_up σ3 235 x2 r3 →
(0 : Int) ≤ 60 ∧ (60 : Int) < 64 ∧
∀ _ : I64 (σ4 229 60),
f_X12_closing σ4 60 (fun r6 σ6 => ∀ _ : I32 r6,
(0 : Int) ≤ x2 ∧ (x2 : Int) < 2900 ∧
∀ σ8, σ8 = ml_up σ6 236 x2 (w64 ((σ4 229 60) + r6)) →
∃ N1, f_X12_powers_u56 Q (f_X12_powers_u105 Q (f_X12_powers_u14 Q K128 N)) N1 σ8 x1 x2 1)))
def f_X12_powers_u143 (Q : ml_St → Prop) (K195 : ml_St → Prop) : Nat → ml_St → Int → Int → Prop
| 0, _, _, _ => False
| N + 1, σ, x1, x2 =>
∀ _ : I32 (σ 215 34),
((σ 215 34) < x2 →
K195 σ) ∧
(¬ ((σ 215 34) < x2) →
(0 : Int) ≤ 60 ∧ (60 : Int) < 64 ∧
∀ _ : I64 (σ 229 60),
f_X12_closing σ 60 (fun r4 σ4 => ∀ _ : I32 r4,
(0 : Int) ≤ x2 ∧ (x2 : Int) < 2900 ∧
∀ σ6, σ6 = ml_up σ4 236 x2 (w64 ((σ 229 60) + r4)) →
f_X12_lays σ6 60 x1 62 (fun σ7 =>
f_X12_copies σ7 62 60 (fun σ8 =>
I32 (x2 + 1) ∧
∀ y9 : Int, y9 = x2 + 1 →
f_X12_powers_u143 Q K195 N σ8 x1 y9))))
def f_X12_powers_u195 (Q : ml_St → Prop) (σ : ml_St) : Prop :=
∀ _ : I32 (σ 215 32),
∀ _ : I32 (σ 215 33),
I32 ((σ 215 32) + (σ 215 33)) ∧
(0 : Int) ≤ ((σ 215 32) + (σ 215 33)) ∧ (((σ 215 32) + (σ 215 33)) : Int) < 2900 ∧
∀ _ : I64 (σ 236 ((σ 215 32) + (σ 215 33))),
∀ _ : I32 (σ 215 32),
(0 : Int) ≤ (σ 215 32) ∧ ((σ 215 32) : Int) < 2900 ∧
∀ _ : I64 (σ 236 (σ 215 32)),
∀ σ8, σ8 = ml_up σ 215 35 (w64 ((σ 236 ((σ 215 32) + (σ 215 33))) - (σ 236 (σ 215 32)))) →
Q σ8
def f_X12_powers_u128 (Q : ml_St → Prop) (σ : ml_St) (x1 : Int) (x2 : Int) : Prop :=
∀ _ : I32 (σ 215 32),
∀ _ : I32 (σ 215 33),
I32 (2 * (σ 215 33)) ∧
I32 ((σ 215 32) + (2 * (σ 215 33))) ∧
∀ σ5, σ5 = ml_up σ 215 34 ((σ 215 32) + (2 * (σ 215 33))) →
∃ N1, f_X12_powers_u143 Q (f_X12_powers_u195 Q) N1 σ5 x1 x2
def f_X12_powers_u0 (Q : ml_St → Prop) (σ : ml_St) (x1 : Int) : Prop :=
f_X12_copies σ x1 60 (fun σ1 =>
∀ σ2, σ2 = ml_up σ1 215 32 0 →
∃ N1, f_X12_powers_u14 Q (f_X12_powers_u128 Q) N1 σ2 x1 1)
def f_X12_powers (σ : ml_St) (x1 : Int) (Q : ml_St → Prop) : Prop := f_X12_powers_u0 Q σ x1
def rm_X12_powers : Room := { frames := 2, cells := 0, slots := 0, locals := 53 }
set_option maxRecDepth 100000 in
set_option maxHeartbeats 4000000 in
theorem u_X12_powers_99 {p : Program} {e : Env} {s : State} {m : MethodId} {args : Array Value} {below : List Frame} {meth : Method} {c : Code} {base : Nat} {D : va_G} {cA : Nat → ClassId} {n : Nat} {l : Launch} {Q : ml_St → Prop} {K56 : ml_St → Int → Int → Int → Prop} (X : ml_X p s m c meth args D cA cX12_powers 4 RX12 none) (hn : 256 ≤ n) (hK56 : ∀ (σ : ml_St) (x1 : Int) (x2 : Int) (x3 : Int) (h_x1 : I32 x1) (h_x2 : I32 x2) (h_x3 : I32 x3) (ls : Array Slot), lv_has ls 4 [(0, .ref (base + (215 : Int).toNat)), (1, .int (Int32.ofInt x1)), (2, .int (Int32.ofInt x2)), (3, .int (Int32.ofInt x3))] → K56 σ x1 x2 x3 → ml_V p l e rm_X12_powers s m args below meth c (MQ below (ml_Qv base D cA n Q) args s 0 0 (ml_A base)) base D cA 0 0 n n σ (F0 m 56 ls [])) (σ : ml_St) (x1 : Int) (x2 : Int) (x3 : Int) (h_x1 : I32 x1) (h_x2 : I32 x2) (h_x3 : I32 x3) (ls : Array Slot) (hl : lv_has ls 4 [(0, .ref (base + (215 : Int).toNat)), (1, .int (Int32.ofInt x1)), (2, .int (Int32.ofInt x2)), (3, .int (Int32.ofInt x3))]) (hw : f_X12_powers_u99 Q K56 σ x1 x2 x3) : ml_V p l e rm_X12_powers s m args below meth c (MQ below (ml_Qv base D cA n Q) args s 0 0 (ml_A base)) base D cA 0 0 n n σ (F0 m 99 ls []) := by
  unfold f_X12_powers_u99 at hw
  obtain ⟨v1, hw⟩ := hw
  obtain ⟨y1, e1⟩ : ∃ y : Int, y = x3 + 1 := ⟨_, rfl⟩
  have hw := hw y1 e1
  rw [← e1] at v1
  refine ml_iinc (pc := 99) X e1 hl 3 rfl (by decide) (lst' := [(3, .int (Int32.ofInt y1)), (0, .ref (base + (215 : Int).toNat)), (1, .int (Int32.ofInt x1)), (2, .int (Int32.ofInt x2))]) rfl dX12_powers_99 (fun ls hl => ?_)
  refine ml_goto (pc := 102) (tgt := 56) X dX12_powers_102 (by decide) ?_
  exact hK56 σ x1 x2 y1 h_x1 h_x2 v1 _ (lv_sub hl [1, 2, 3, 0] rfl) hw
set_option maxRecDepth 100000 in
set_option maxHeartbeats 4000000 in
theorem u_X12_powers_56 {p : Program} {e : Env} {s : State} {m : MethodId} {args : Array Value} {below : List Frame} {meth : Method} {c : Code} {base : Nat} {D : va_G} {cA : Nat → ClassId} {n : Nat} {l : Launch} {Q : ml_St → Prop} {K105 : ml_St → Int → Int → Prop} (X : ml_X p s m c meth args D cA cX12_powers 4 RX12 none) (hn : 256 ≤ n) (hK105 : ∀ (σ : ml_St) (x1 : Int) (x2 : Int) (h_x1 : I32 x1) (h_x2 : I32 x2) (ls : Array Slot), lv_has ls 4 [(0, .ref (base + (215 : Int).toNat)), (1, .int (Int32.ofInt x1)), (2, .int (Int32.ofInt x2))] → K105 σ x1 x2 → ml_V p l e rm_X12_powers s m args below meth c (MQ below (ml_Qv base D cA n Q) args s 0 0 (ml_A base)) base D cA 0 0 n n σ (F0 m 105 ls [])) : ∀ (N : Nat) (σ : ml_St) (x1 : Int) (x2 : Int) (x3 : Int) (h_x1 : I32 x1) (h_x2 : I32 x2) (h_x3 : I32 x3) (ls : Array Slot), lv_has ls 4 [(0, .ref (base + (215 : Int).toNat)), (1, .int (Int32.ofInt x1)), (2, .int (Int32.ofInt x2)), (3, .int (Int32.ofInt x3))] → f_X12_powers_u56 Q K105 N σ x1 x2 x3 → ml_V p l e rm_X12_powers s m args below meth c (MQ below (ml_Qv base D cA n Q) args s 0 0 (ml_A base)) base D cA 0 0 n n σ (F0 m 56 ls []) := by
  intro N
  induction N with
  | zero => intro σ x1 x2 x3 h_x1 h_x2 h_x3 ls hl hw; exact False.elim hw
  | succ N ih =>
    intro σ x1 x2 x3 h_x1 h_x2 h_x3 ls hl hw
    unfold f_X12_powers_u56 at hw
    refine ml_iload_n (pc := 56) X hl 3 rfl rfl dX12_powers_56 ?_
    refine ml_iload_n (pc := 57) X hl 2 rfl rfl dX12_powers_57 ?_
    refine ml_icmp_ge (pc := 58) (tgt := 105) X h_x3 h_x2 dX12_powers_58 (by decide) (fun c1 => ?_) (fun c1 => ?_)
    · have hw := hw.1 c1
      exact hK105 σ x1 x2 h_x1 h_x2 _ (lv_sub hl [0, 1, 2] rfl) hw
    · have hw := hw.2 c1
      refine ml_aload_n (pc := 61) X hl 0 rfl rfl dX12_powers_61 ?_
      refine gf_X12_307 (pc := 62) X (ml_c215 hn) dX12_powers_62 (fun r2 => ?_)
      have hw := hw r2
      refine ml_if_ne (pc := 65) (tgt := 105) X r2 dX12_powers_65 (by decide) (fun c3 => ?_) (fun c3 => ?_)
      · have hw := hw.1 c3
        exact hK105 σ x1 x2 h_x1 h_x2 _ (lv_sub hl [0, 1, 2] rfl) hw
      · have hw := hw.2 c3
        refine ml_aload_n (pc := 68) X hl 0 rfl rfl dX12_powers_68 ?_
        refine gf_X12_74 (pc := 69) X (ml_c215 hn) dX12_powers_69 ?_
        refine ml_iload_n (pc := 72) X hl 3 rfl rfl dX12_powers_72 ?_
        obtain ⟨a4, b4, hw⟩ := hw
        refine ml_lald (pc := 73) (N := 1000) X (ml_c235 hn) a4 b4 dX12_powers_73 (fun r4 => ?_)
        have hw := hw r4
        refine ml_aload_n (pc := 74) X hl 0 rfl rfl dX12_powers_74 ?_
        refine gf_X12_74 (pc := 75) X (ml_c215 hn) dX12_powers_75 ?_
        refine ml_iload_n (pc := 78) X hl 2 rfl rfl dX12_powers_78 ?_
        obtain ⟨a5, b5, hw⟩ := hw
        refine ml_lald (pc := 79) (N := 1000) X (ml_c235 hn) a5 b5 dX12_powers_79 (fun r5 => ?_)
        have hw := hw r5
        refine ml_lcmp_eq (pc := 80) (tgt := 87) X r4 r5 dX12_powers_80 dX12_powers_81 (by decide) (fun c6 => ?_) (fun c6 => ?_)
        · have hw := hw.1 c6
          refine ml_aload_n (pc := 87) X hl 0 rfl rfl dX12_powers_87 ?_
          refine ml_iload_n (pc := 88) X hl 3 rfl rfl dX12_powers_88 ?_
          refine pf_X12_307 (pc := 89) X (ml_c215 hn) h_x3 dX12_powers_89 (fun σ7 g7 => ?_)
          have hw := hw σ7 g7
          refine ml_aload_n (pc := 92) X hl 0 rfl rfl dX12_powers_92 ?_
          refine ml_iload_n (pc := 93) X hl 2 rfl rfl dX12_powers_93 ?_
          refine ml_iload_n (pc := 94) X hl 3 rfl rfl dX12_powers_94 ?_
          obtain ⟨v8, hw⟩ := hw
          refine ml_isub (pc := 95) X dX12_powers_95 ?_
          refine pf_X12_313 (pc := 96) X (ml_c215 hn) v8 dX12_powers_96 (fun σ9 g9 => ?_)
          have hw := hw σ9 g9
          exact u_X12_powers_99 X hn ih σ9 x1 x2 x3 h_x1 h_x2 h_x3 _ (lv_sub hl [0, 1, 2, 3] rfl) hw
        · have hw := hw.2 c6
          refine ml_goto (pc := 84) (tgt := 99) X dX12_powers_84 (by decide) ?_
          exact u_X12_powers_99 X hn ih σ x1 x2 x3 h_x1 h_x2 h_x3 _ (lv_sub hl [0, 1, 2, 3] rfl) hw
set_option maxRecDepth 100000 in
set_option maxHeartbeats 4000000 in
theorem u_X12_powers_105 {p : Program} {e : Env} {s : State} {m : MethodId} {args : Array Value} {below : List Frame} {meth : Method} {c : Code} {base : Nat} {D : va_G} {cA : Nat → ClassId} {n : Nat} {l : Launch} {Q : ml_St → Prop} {K14 : ml_St → Int → Int → Prop} (X : ml_X p s m c meth args D cA cX12_powers 4 RX12 none) (hn : 256 ≤ n) (hK14 : ∀ (σ : ml_St) (x1 : Int) (x2 : Int) (h_x1 : I32 x1) (h_x2 : I32 x2) (ls : Array Slot), lv_has ls 4 [(0, .ref (base + (215 : Int).toNat)), (1, .int (Int32.ofInt x1)), (2, .int (Int32.ofInt x2))] → K14 σ x1 x2 → ml_V p l e rm_X12_powers s m args below meth c (MQ below (ml_Qv base D cA n Q) args s 0 0 (ml_A base)) base D cA 0 0 n n σ (F0 m 14 ls [])) (σ : ml_St) (x1 : Int) (x2 : Int) (h_x1 : I32 x1) (h_x2 : I32 x2) (ls : Array Slot) (hl : lv_has ls 4 [(0, .ref (base + (215 : Int).toNat)), (1, .int (Int32.ofInt x1)), (2, .int (Int32.ofInt x2))]) (hw : f_X12_powers_u105 Q K14 σ x1 x2) : ml_V p l e rm_X12_powers s m args below meth c (MQ below (ml_Qv base D cA n Q) args s 0 0 (ml_A base)) base D cA 0 0 n n σ (F0 m 105 ls []) := by
  unfold f_X12_powers_u105 at hw
  refine ml_aload_n (pc := 105) X hl 0 rfl rfl dX12_powers_105 ?_
  refine ml_bipush (pc := 106) X dX12_powers_106 (by decide) ?_
  refine ml_iload_n (pc := 108) X hl 1 rfl rfl dX12_powers_108 ?_
  refine ml_bipush (pc := 109) X dX12_powers_109 (by decide) ?_
  refine ml_callvV (pc := 111) (rest := []) X [.int (Int32.ofInt 60), .int (Int32.ofInt x1), .int (Int32.ofInt 62)] (by decide) rfl (ml_c215 hn) (c_X12_lays l base D cA n hn σ 60 x1 62 ⟨by decide, by decide⟩ h_x1 ⟨by decide, by decide⟩ _ hw) cv_X12_245 ⟨rfl, rfl⟩ ⟨by decide, by decide⟩ rfl rfl hl (Nat.le_of_ble_eq_true rfl) ⟨Nat.zero_le _, Nat.zero_le _⟩ dX12_powers_111 (fun σ1 hw => ?_)
  refine ml_aload_n (pc := 114) X hl 0 rfl rfl dX12_powers_114 ?_
  refine ml_bipush (pc := 115) X dX12_powers_115 (by decide) ?_
  refine ml_bipush (pc := 117) X dX12_powers_117 (by decide) ?_
  refine ml_callvV (pc := 119) (rest := []) X [.int (Int32.ofInt 62), .int (Int32.ofInt 60)] (by decide) rfl (ml_c215 hn) (c_X12_copies l base D cA n hn σ1 62 60 ⟨by decide, by decide⟩ ⟨by decide, by decide⟩ _ hw) cv_X12_242 ⟨rfl, rfl⟩ ⟨by decide, by decide⟩ rfl rfl hl (Nat.le_of_ble_eq_true rfl) ⟨Nat.zero_le _, Nat.zero_le _⟩ dX12_powers_119 (fun σ2 hw => ?_)
  obtain ⟨v3, hw⟩ := hw
  obtain ⟨y3, e3⟩ : ∃ y : Int, y = x2 + 1 := ⟨_, rfl⟩
  have hw := hw y3 e3
  rw [← e3] at v3
  refine ml_iinc (pc := 122) X e3 hl 2 rfl (by decide) (lst' := [(2, .int (Int32.ofInt y3)), (0, .ref (base + (215 : Int).toNat)), (1, .int (Int32.ofInt x1))]) rfl dX12_powers_122 (fun ls hl => ?_)
  refine ml_goto (pc := 125) (tgt := 14) X dX12_powers_125 (by decide) ?_
  exact hK14 σ2 x1 y3 h_x1 v3 _ (lv_sub hl [1, 2, 0] rfl) hw
set_option maxRecDepth 100000 in
set_option maxHeartbeats 4000000 in
theorem u_X12_powers_14 {p : Program} {e : Env} {s : State} {m : MethodId} {args : Array Value} {below : List Frame} {meth : Method} {c : Code} {base : Nat} {D : va_G} {cA : Nat → ClassId} {n : Nat} {l : Launch} {Q : ml_St → Prop} {K128 : ml_St → Int → Int → Prop} (X : ml_X p s m c meth args D cA cX12_powers 4 RX12 none) (hn : 256 ≤ n) (hK128 : ∀ (σ : ml_St) (x1 : Int) (x2 : Int) (h_x1 : I32 x1) (h_x2 : I32 x2) (ls : Array Slot), lv_has ls 4 [(0, .ref (base + (215 : Int).toNat)), (1, .int (Int32.ofInt x1)), (2, .int (Int32.ofInt x2))] → K128 σ x1 x2 → ml_V p l e rm_X12_powers s m args below meth c (MQ below (ml_Qv base D cA n Q) args s 0 0 (ml_A base)) base D cA 0 0 n n σ (F0 m 128 ls [])) : ∀ (N : Nat) (σ : ml_St) (x1 : Int) (x2 : Int) (h_x1 : I32 x1) (h_x2 : I32 x2) (ls : Array Slot), lv_has ls 4 [(0, .ref (base + (215 : Int).toNat)), (1, .int (Int32.ofInt x1)), (2, .int (Int32.ofInt x2))] → f_X12_powers_u14 Q K128 N σ x1 x2 → ml_V p l e rm_X12_powers s m args below meth c (MQ below (ml_Qv base D cA n Q) args s 0 0 (ml_A base)) base D cA 0 0 n n σ (F0 m 14 ls []) := by
  intro N
  induction N with
  | zero => intro σ x1 x2 h_x1 h_x2 ls hl hw; exact False.elim hw
  | succ N ih =>
    intro σ x1 x2 h_x1 h_x2 ls hl hw
    unfold f_X12_powers_u14 at hw
    refine ml_aload_n (pc := 14) X hl 0 rfl rfl dX12_powers_14 ?_
    refine gf_X12_307 (pc := 15) X (ml_c215 hn) dX12_powers_15 (fun r1 => ?_)
    have hw := hw r1
    refine ml_if_ne (pc := 18) (tgt := 128) X r1 dX12_powers_18 (by decide) (fun c2 => ?_) (fun c2 => ?_)
    · have hw := hw.1 c2
      exact hK128 σ x1 x2 h_x1 h_x2 _ (lv_sub hl [0, 1, 2] rfl) hw
    · have hw := hw.2 c2
      refine ml_aload_n (pc := 21) X hl 0 rfl rfl dX12_powers_21 ?_
      refine gf_X12_74 (pc := 22) X (ml_c215 hn) dX12_powers_22 ?_
      refine ml_iload_n (pc := 25) X hl 2 rfl rfl dX12_powers_25 ?_
      refine ml_aload_n (pc := 26) X hl 0 rfl rfl dX12_powers_26 ?_
      refine ml_bipush (pc := 27) X dX12_powers_27 (by decide) ?_
      refine ml_calllV (pc := 29) (rest := [.int (Int32.ofInt x2), .ref (base + (235 : Int).toNat)]) X [.int (Int32.ofInt 60)] (by decide) rfl (ml_c215 hn) (c_X12_codeOf l base D cA n hn σ 60 ⟨by decide, by decide⟩ _ hw) cv_X12_310 ⟨rfl, rfl⟩ ⟨by decide, by decide⟩ rfl rfl hl (Nat.le_of_ble_eq_true rfl) ⟨Nat.zero_le _, Nat.zero_le _⟩ dX12_powers_29 (fun r3 σ3 t3 hw => ?_)
      have hw := hw t3
      obtain ⟨a4, b4, hw⟩ := hw
      refine ml_last (pc := 32) (N := 1000) X (ml_c235 hn) a4 b4 t3 dX12_powers_32 (fun σ4 g4 => ?_)
      have hw := hw σ4 g4
      refine ml_aload_n (pc := 33) X hl 0 rfl rfl dX12_powers_33 ?_
      refine gf_X12_77 (pc := 34) X (ml_c215 hn) dX12_powers_34 ?_
      refine ml_iload_n (pc := 37) X hl 2 rfl rfl dX12_powers_37 ?_
      refine ml_aload_n (pc := 38) X hl 0 rfl rfl dX12_powers_38 ?_
      refine gf_X12_55 (pc := 39) X (ml_c215 hn) dX12_powers_39 ?_
      refine ml_bipush (pc := 42) X dX12_powers_42 (by decide) ?_
      obtain ⟨a5, b5, hw⟩ := hw
      refine ml_lald (pc := 44) (N := 64) X (ml_c229 hn) a5 b5 dX12_powers_44 (fun r5 => ?_)
      have hw := hw r5
      refine ml_aload_n (pc := 45) X hl 0 rfl rfl dX12_powers_45 ?_
      refine ml_bipush (pc := 46) X dX12_powers_46 (by decide) ?_
      refine ml_calliV (pc := 48) (rest := [.long (Int64.ofInt (σ4 229 60)), .int (Int32.ofInt x2), .ref (base + (236 : Int).toNat)]) X [.int (Int32.ofInt 60)] (by decide) rfl (ml_c215 hn) (c_X12_closing l base D cA n hn σ4 60 ⟨by decide, by decide⟩ _ hw) cv_X12_302 ⟨rfl, rfl⟩ ⟨by decide, by decide⟩ rfl rfl hl (Nat.le_of_ble_eq_true rfl) ⟨Nat.zero_le _, Nat.zero_le _⟩ dX12_powers_48 (fun r6 σ6 t6 hw => ?_)
      have hw := hw t6
      refine ml_i2l (pc := 51) X t6 dX12_powers_51 ?_
      refine ml_laddW (pc := 52) X dX12_powers_52 ?_
      obtain ⟨a8, b8, hw⟩ := hw
      refine ml_last (pc := 53) (N := 2900) X (ml_c236 hn) a8 b8 (w64_r _) dX12_powers_53 (fun σ8 g8 => ?_)
      have hw := hw σ8 g8
      refine ml_iconst (pc := 54) X dX12_powers_54 ?_
      refine ml_istore_n (pc := 55) X rfl hl (by decide) (lst' := [(3, .int (Int32.ofInt 1)), (0, .ref (base + (215 : Int).toNat)), (1, .int (Int32.ofInt x1)), (2, .int (Int32.ofInt x2))]) rfl dX12_powers_55 (fun ls hl => ?_)
      obtain ⟨N0, hw⟩ := hw
      exact u_X12_powers_56 X hn (fun σ x1 x2 h_x1 h_x2 ls hl hw => u_X12_powers_105 X hn ih σ x1 x2 h_x1 h_x2 ls hl hw) N0 σ8 x1 x2 1 h_x1 h_x2 ⟨by decide, by decide⟩ _ (lv_sub hl [1, 2, 3, 0] rfl) hw
set_option maxRecDepth 100000 in
set_option maxHeartbeats 4000000 in
theorem u_X12_powers_143 {p : Program} {e : Env} {s : State} {m : MethodId} {args : Array Value} {below : List Frame} {meth : Method} {c : Code} {base : Nat} {D : va_G} {cA : Nat → ClassId} {n : Nat} {l : Launch} {Q : ml_St → Prop} {K195 : ml_St → Prop} (X : ml_X p s m c meth args D cA cX12_powers 4 RX12 none) (hn : 256 ≤ n) (hK195 : ∀ (σ : ml_St) (ls : Array Slot), lv_has ls 4 [(0, .ref (base + (215 : Int).toNat))] → K195 σ → ml_V p l e rm_X12_powers s m args below meth c (MQ below (ml_Qv base D cA n Q) args s 0 0 (ml_A base)) base D cA 0 0 n n σ (F0 m 195 ls [])) : ∀ (N : Nat) (σ : ml_St) (x1 : Int) (x2 : Int) (h_x1 : I32 x1) (h_x2 : I32 x2) (ls : Array Slot), lv_has ls 4 [(0, .ref (base + (215 : Int).toNat)), (1, .int (Int32.ofInt x1)), (2, .int (Int32.ofInt x2))] → f_X12_powers_u143 Q K195 N σ x1 x2 → ml_V p l e rm_X12_powers s m args below meth c (MQ below (ml_Qv base D cA n Q) args s 0 0 (ml_A base)) base D cA 0 0 n n σ (F0 m 143 ls []) := by
  intro N
  induction N with
  | zero => intro σ x1 x2 h_x1 h_x2 ls hl hw; exact False.elim hw
  | succ N ih =>
    intro σ x1 x2 h_x1 h_x2 ls hl hw
    unfold f_X12_powers_u143 at hw
    refine ml_iload_n (pc := 143) X hl 2 rfl rfl dX12_powers_143 ?_
    refine ml_aload_n (pc := 144) X hl 0 rfl rfl dX12_powers_144 ?_
    refine gf_X12_316 (pc := 145) X (ml_c215 hn) dX12_powers_145 (fun r1 => ?_)
    have hw := hw r1
    refine ml_icmp_gt (pc := 148) (tgt := 195) X h_x2 r1 dX12_powers_148 (by decide) (fun c2 => ?_) (fun c2 => ?_)
    · have hw := hw.1 c2
      exact hK195 σ   _ (lv_sub hl [0] rfl) hw
    · have hw := hw.2 c2
      refine ml_aload_n (pc := 151) X hl 0 rfl rfl dX12_powers_151 ?_
      refine gf_X12_77 (pc := 152) X (ml_c215 hn) dX12_powers_152 ?_
      refine ml_iload_n (pc := 155) X hl 2 rfl rfl dX12_powers_155 ?_
      refine ml_aload_n (pc := 156) X hl 0 rfl rfl dX12_powers_156 ?_
      refine gf_X12_55 (pc := 157) X (ml_c215 hn) dX12_powers_157 ?_
      refine ml_bipush (pc := 160) X dX12_powers_160 (by decide) ?_
      obtain ⟨a3, b3, hw⟩ := hw
      refine ml_lald (pc := 162) (N := 64) X (ml_c229 hn) a3 b3 dX12_powers_162 (fun r3 => ?_)
      have hw := hw r3
      refine ml_aload_n (pc := 163) X hl 0 rfl rfl dX12_powers_163 ?_
      refine ml_bipush (pc := 164) X dX12_powers_164 (by decide) ?_
      refine ml_calliV (pc := 166) (rest := [.long (Int64.ofInt (σ 229 60)), .int (Int32.ofInt x2), .ref (base + (236 : Int).toNat)]) X [.int (Int32.ofInt 60)] (by decide) rfl (ml_c215 hn) (c_X12_closing l base D cA n hn σ 60 ⟨by decide, by decide⟩ _ hw) cv_X12_302 ⟨rfl, rfl⟩ ⟨by decide, by decide⟩ rfl rfl hl (Nat.le_of_ble_eq_true rfl) ⟨Nat.zero_le _, Nat.zero_le _⟩ dX12_powers_166 (fun r4 σ4 t4 hw => ?_)
      have hw := hw t4
      refine ml_i2l (pc := 169) X t4 dX12_powers_169 ?_
      refine ml_laddW (pc := 170) X dX12_powers_170 ?_
      obtain ⟨a6, b6, hw⟩ := hw
      refine ml_last (pc := 171) (N := 2900) X (ml_c236 hn) a6 b6 (w64_r _) dX12_powers_171 (fun σ6 g6 => ?_)
      have hw := hw σ6 g6
      refine ml_aload_n (pc := 172) X hl 0 rfl rfl dX12_powers_172 ?_
      refine ml_bipush (pc := 173) X dX12_powers_173 (by decide) ?_
      refine ml_iload_n (pc := 175) X hl 1 rfl rfl dX12_powers_175 ?_
      refine ml_bipush (pc := 176) X dX12_powers_176 (by decide) ?_
      refine ml_callvV (pc := 178) (rest := []) X [.int (Int32.ofInt 60), .int (Int32.ofInt x1), .int (Int32.ofInt 62)] (by decide) rfl (ml_c215 hn) (c_X12_lays l base D cA n hn σ6 60 x1 62 ⟨by decide, by decide⟩ h_x1 ⟨by decide, by decide⟩ _ hw) cv_X12_245 ⟨rfl, rfl⟩ ⟨by decide, by decide⟩ rfl rfl hl (Nat.le_of_ble_eq_true rfl) ⟨Nat.zero_le _, Nat.zero_le _⟩ dX12_powers_178 (fun σ7 hw => ?_)
      refine ml_aload_n (pc := 181) X hl 0 rfl rfl dX12_powers_181 ?_
      refine ml_bipush (pc := 182) X dX12_powers_182 (by decide) ?_
      refine ml_bipush (pc := 184) X dX12_powers_184 (by decide) ?_
      refine ml_callvV (pc := 186) (rest := []) X [.int (Int32.ofInt 62), .int (Int32.ofInt 60)] (by decide) rfl (ml_c215 hn) (c_X12_copies l base D cA n hn σ7 62 60 ⟨by decide, by decide⟩ ⟨by decide, by decide⟩ _ hw) cv_X12_242 ⟨rfl, rfl⟩ ⟨by decide, by decide⟩ rfl rfl hl (Nat.le_of_ble_eq_true rfl) ⟨Nat.zero_le _, Nat.zero_le _⟩ dX12_powers_186 (fun σ8 hw => ?_)
      obtain ⟨v9, hw⟩ := hw
      obtain ⟨y9, e9⟩ : ∃ y : Int, y = x2 + 1 := ⟨_, rfl⟩
      have hw := hw y9 e9
      rw [← e9] at v9
      refine ml_iinc (pc := 189) X e9 hl 2 rfl (by decide) (lst' := [(2, .int (Int32.ofInt y9)), (0, .ref (base + (215 : Int).toNat)), (1, .int (Int32.ofInt x1))]) rfl dX12_powers_189 (fun ls hl => ?_)
      refine ml_goto (pc := 192) (tgt := 143) X dX12_powers_192 (by decide) ?_
      exact ih σ8 x1 y9 h_x1 v9 _ (lv_sub hl [1, 2, 0] rfl) hw
set_option maxRecDepth 100000 in
set_option maxHeartbeats 4000000 in
theorem u_X12_powers_195 {p : Program} {e : Env} {s : State} {m : MethodId} {args : Array Value} {below : List Frame} {meth : Method} {c : Code} {base : Nat} {D : va_G} {cA : Nat → ClassId} {n : Nat} {l : Launch} {Q : ml_St → Prop} (X : ml_X p s m c meth args D cA cX12_powers 4 RX12 none) (hn : 256 ≤ n) (σ : ml_St) (ls : Array Slot) (hl : lv_has ls 4 [(0, .ref (base + (215 : Int).toNat))]) (hw : f_X12_powers_u195 Q σ) : ml_V p l e rm_X12_powers s m args below meth c (MQ below (ml_Qv base D cA n Q) args s 0 0 (ml_A base)) base D cA 0 0 n n σ (F0 m 195 ls []) := by
  unfold f_X12_powers_u195 at hw
  refine ml_aload_n (pc := 195) X hl 0 rfl rfl dX12_powers_195 ?_
  refine ml_aload_n (pc := 196) X hl 0 rfl rfl dX12_powers_196 ?_
  refine gf_X12_77 (pc := 197) X (ml_c215 hn) dX12_powers_197 ?_
  refine ml_aload_n (pc := 200) X hl 0 rfl rfl dX12_powers_200 ?_
  refine gf_X12_307 (pc := 201) X (ml_c215 hn) dX12_powers_201 (fun r1 => ?_)
  have hw := hw r1
  refine ml_aload_n (pc := 204) X hl 0 rfl rfl dX12_powers_204 ?_
  refine gf_X12_313 (pc := 205) X (ml_c215 hn) dX12_powers_205 (fun r2 => ?_)
  have hw := hw r2
  obtain ⟨v3, hw⟩ := hw
  refine ml_iadd (pc := 208) X dX12_powers_208 ?_
  obtain ⟨a4, b4, hw⟩ := hw
  refine ml_lald (pc := 209) (N := 2900) X (ml_c236 hn) a4 b4 dX12_powers_209 (fun r4 => ?_)
  have hw := hw r4
  refine ml_aload_n (pc := 210) X hl 0 rfl rfl dX12_powers_210 ?_
  refine gf_X12_77 (pc := 211) X (ml_c215 hn) dX12_powers_211 ?_
  refine ml_aload_n (pc := 214) X hl 0 rfl rfl dX12_powers_214 ?_
  refine gf_X12_307 (pc := 215) X (ml_c215 hn) dX12_powers_215 (fun r5 => ?_)
  have hw := hw r5
  obtain ⟨a6, b6, hw⟩ := hw
  refine ml_lald (pc := 218) (N := 2900) X (ml_c236 hn) a6 b6 dX12_powers_218 (fun r6 => ?_)
  have hw := hw r6
  refine ml_lsubW (pc := 219) X dX12_powers_219 ?_
  refine pf_X12_319 (pc := 220) X (ml_c215 hn) (w64_r _) dX12_powers_220 (fun σ8 g8 => ?_)
  have hw := hw σ8 g8
  exact ml_vret (pc := 223) X hw dX12_powers_223
set_option maxRecDepth 100000 in
set_option maxHeartbeats 4000000 in
theorem u_X12_powers_128 {p : Program} {e : Env} {s : State} {m : MethodId} {args : Array Value} {below : List Frame} {meth : Method} {c : Code} {base : Nat} {D : va_G} {cA : Nat → ClassId} {n : Nat} {l : Launch} {Q : ml_St → Prop} (X : ml_X p s m c meth args D cA cX12_powers 4 RX12 none) (hn : 256 ≤ n) (σ : ml_St) (x1 : Int) (x2 : Int) (h_x1 : I32 x1) (h_x2 : I32 x2) (ls : Array Slot) (hl : lv_has ls 4 [(0, .ref (base + (215 : Int).toNat)), (1, .int (Int32.ofInt x1)), (2, .int (Int32.ofInt x2))]) (hw : f_X12_powers_u128 Q σ x1 x2) : ml_V p l e rm_X12_powers s m args below meth c (MQ below (ml_Qv base D cA n Q) args s 0 0 (ml_A base)) base D cA 0 0 n n σ (F0 m 128 ls []) := by
  unfold f_X12_powers_u128 at hw
  refine ml_aload_n (pc := 128) X hl 0 rfl rfl dX12_powers_128 ?_
  refine ml_aload_n (pc := 129) X hl 0 rfl rfl dX12_powers_129 ?_
  refine gf_X12_307 (pc := 130) X (ml_c215 hn) dX12_powers_130 (fun r1 => ?_)
  have hw := hw r1
  refine ml_iconst (pc := 133) X dX12_powers_133 ?_
  refine ml_aload_n (pc := 134) X hl 0 rfl rfl dX12_powers_134 ?_
  refine gf_X12_313 (pc := 135) X (ml_c215 hn) dX12_powers_135 (fun r2 => ?_)
  have hw := hw r2
  obtain ⟨v3, hw⟩ := hw
  refine ml_imul (pc := 138) X dX12_powers_138 ?_
  obtain ⟨v4, hw⟩ := hw
  refine ml_iadd (pc := 139) X dX12_powers_139 ?_
  refine pf_X12_316 (pc := 140) X (ml_c215 hn) v4 dX12_powers_140 (fun σ5 g5 => ?_)
  have hw := hw σ5 g5
  obtain ⟨N0, hw⟩ := hw
  exact u_X12_powers_143 X hn (fun σ   ls hl hw => u_X12_powers_195 X hn σ   ls hl hw) N0 σ5 x1 x2 h_x1 h_x2 _ (lv_sub hl [0, 1, 2] rfl) hw
set_option maxRecDepth 100000 in
set_option maxHeartbeats 4000000 in
theorem u_X12_powers_0 {p : Program} {e : Env} {s : State} {m : MethodId} {args : Array Value} {below : List Frame} {meth : Method} {c : Code} {base : Nat} {D : va_G} {cA : Nat → ClassId} {n : Nat} {l : Launch} {Q : ml_St → Prop} (X : ml_X p s m c meth args D cA cX12_powers 4 RX12 none) (hn : 256 ≤ n) (σ : ml_St) (x1 : Int) (h_x1 : I32 x1) (ls : Array Slot) (hl : lv_has ls 4 [(0, .ref (base + (215 : Int).toNat)), (1, .int (Int32.ofInt x1))]) (hw : f_X12_powers_u0 Q σ x1) : ml_V p l e rm_X12_powers s m args below meth c (MQ below (ml_Qv base D cA n Q) args s 0 0 (ml_A base)) base D cA 0 0 n n σ (F0 m 0 ls []) := by
  unfold f_X12_powers_u0 at hw
  refine ml_aload_n (pc := 0) X hl 0 rfl rfl dX12_powers_0 ?_
  refine ml_iload_n (pc := 1) X hl 1 rfl rfl dX12_powers_1 ?_
  refine ml_bipush (pc := 2) X dX12_powers_2 (by decide) ?_
  refine ml_callvV (pc := 4) (rest := []) X [.int (Int32.ofInt x1), .int (Int32.ofInt 60)] (by decide) rfl (ml_c215 hn) (c_X12_copies l base D cA n hn σ x1 60 h_x1 ⟨by decide, by decide⟩ _ hw) cv_X12_242 ⟨rfl, rfl⟩ ⟨by decide, by decide⟩ rfl rfl hl (Nat.le_of_ble_eq_true rfl) ⟨Nat.zero_le _, Nat.zero_le _⟩ dX12_powers_4 (fun σ1 hw => ?_)
  refine ml_aload_n (pc := 7) X hl 0 rfl rfl dX12_powers_7 ?_
  refine ml_iconst (pc := 8) X dX12_powers_8 ?_
  refine pf_X12_307 (pc := 9) X (ml_c215 hn) ⟨by decide, by decide⟩ dX12_powers_9 (fun σ2 g2 => ?_)
  have hw := hw σ2 g2
  refine ml_iconst (pc := 12) X dX12_powers_12 ?_
  refine ml_istore_n (pc := 13) X rfl hl (by decide) (lst' := [(2, .int (Int32.ofInt 1)), (0, .ref (base + (215 : Int).toNat)), (1, .int (Int32.ofInt x1))]) rfl dX12_powers_13 (fun ls hl => ?_)
  obtain ⟨N0, hw⟩ := hw
  exact u_X12_powers_14 X hn (fun σ x1 x2 h_x1 h_x2 ls hl hw => u_X12_powers_128 X hn σ x1 x2 h_x1 h_x2 ls hl hw) N0 σ2 x1 1 h_x1 ⟨by decide, by decide⟩ _ (lv_sub hl [1, 2, 0] rfl) hw
set_option maxRecDepth 100000 in
theorem c_X12_powers (l : Launch) (base : Nat) (D : va_G) (cA : Nat → ClassId) (n : Nat) (hn : 256 ≤ n) (σ : ml_St) (x1 : Int) (h_x1 : I32 x1) (Q : ml_St → Prop) (hw : f_X12_powers σ x1 Q) : Met l yX12_powers (Cond.code yX12_powers cX12_powers 4 none :: ml_T) rm_X12_powers (va_Pc [.ref (base + (215 : Int).toNat), .int (Int32.ofInt x1)] (ml_U base D cA n σ)) (ml_Qv base D cA n Q) 0 0 (ml_A base) := by
  refine Met.ofW (cc := cX12_powers) (maxL := 4) (ret := none) (by decide) rfl ?_
  intro p e s m args below meth c s₁ B hml hv
  obtain ⟨rfl, hP, hK, hok, hro⟩ := hv
  have X : ml_X p s m c meth _ D cA cX12_powers 4 RX12 none := ⟨B.exec, B.bytes, hml, findClass_of_methodNamed B.named, fun w hw => atoms_spec (ws := Cond.code yX12_powers cX12_powers 4 none :: ml_T) B.pre w (List.mem_cons_of_mem _ hw), hK, B.notSynchronized, B.returns⟩
  have hl := lv_entry [.ref (base + (215 : Int).toNat), .int (Int32.ofInt x1)] (n := 4) (Nat.le_of_ble_eq_true rfl)
  rw [lg_entry_eq]
  generalize (lg_sl [.ref (base + (215 : Int).toNat), .int (Int32.ofInt x1)] ++ List.replicate (4 - (lg_sl [.ref (base + (215 : Int).toNat), .int (Int32.ofInt x1)]).length) Slot.unset).toArray = ls at hl ⊢
  have hl : lv_has ls 4 [(0, .ref (base + (215 : Int).toNat)), (1, .int (Int32.ofInt x1))] := hl
  unfold f_X12_powers at hw
  exact u_X12_powers_0 X hn σ x1 h_x1 _ (lv_sub hl [0, 1] rfl) hw s.heap [] hP va_S.rf hok hro
theorem dX12_power_0 : decode cX12_power 0 = .ok (.aload_n 0, 1) := by decide +kernel
theorem dX12_power_1 : decode cX12_power 1 = .ok (.iload_n 1, 1) := by decide +kernel
theorem dX12_power_2 : decode cX12_power 2 = .ok (.invokevirtual 292, 3) := by decide +kernel
theorem dX12_power_5 : decode cX12_power 5 = .ok (.ifCond .eq 13, 3) := by decide +kernel
theorem dX12_power_8 : decode cX12_power 8 = .ok (.iload_n 2, 1) := by decide +kernel
theorem dX12_power_9 : decode cX12_power 9 = .ok (.i2l, 1) := by decide +kernel
theorem dX12_power_10 : decode cX12_power 10 = .ok (.lconst 0, 1) := by decide +kernel
theorem dX12_power_11 : decode cX12_power 11 = .ok (.lconst 1, 1) := by decide +kernel
theorem dX12_power_12 : decode cX12_power 12 = .ok (.invokestatic 143, 3) := by decide +kernel
theorem dX12_power_15 : decode cX12_power 15 = .ok (.ifCond .ne 5, 3) := by decide +kernel
theorem dX12_power_18 : decode cX12_power 18 = .ok (.iconst (-1), 1) := by decide +kernel
theorem dX12_power_19 : decode cX12_power 19 = .ok (.ireturn, 1) := by decide +kernel
theorem dX12_power_20 : decode cX12_power 20 = .ok (.aload_n 0, 1) := by decide +kernel
theorem dX12_power_21 : decode cX12_power 21 = .ok (.iload_n 1, 1) := by decide +kernel
theorem dX12_power_22 : decode cX12_power 22 = .ok (.invokevirtual 322, 3) := by decide +kernel
theorem dX12_power_25 : decode cX12_power 25 = .ok (.iload_n 2, 1) := by decide +kernel
theorem dX12_power_26 : decode cX12_power 26 = .ok (.ifCond .ne 10, 3) := by decide +kernel
theorem dX12_power_29 : decode cX12_power 29 = .ok (.aload_n 0, 1) := by decide +kernel
theorem dX12_power_30 : decode cX12_power 30 = .ok (.getfield 307, 3) := by decide +kernel
theorem dX12_power_33 : decode cX12_power 33 = .ok (.goto 7, 3) := by decide +kernel
theorem dX12_power_36 : decode cX12_power 36 = .ok (.aload_n 0, 1) := by decide +kernel
theorem dX12_power_37 : decode cX12_power 37 = .ok (.getfield 313, 3) := by decide +kernel
theorem dX12_power_40 : decode cX12_power 40 = .ok (.ireturn, 1) := by decide +kernel
def f_X12_power_u18 (Q : Int → ml_St → Prop) (σ : ml_St) : Prop :=
Q (-1) σ
def f_X12_power_u40 (Q : Int → ml_St → Prop) (σ : ml_St) (s0 : Int) : Prop :=
Q s0 σ
def f_X12_power_u0 (Q : Int → ml_St → Prop) (σ : ml_St) (x1 : Int) (x2 : Int) : Prop :=
f_X12_isMade σ x1 (fun r1 σ1 => ∀ _ : ml_B r1,
(r1 = 0 →
f_X12_power_u18 Q σ1) ∧
(r1 ≠ 0 →
f_X12_lies σ1 x2 0 1 (fun r3 σ3 => ∀ _ : ml_B r3,
(r3 ≠ 0 →
f_X12_powers σ3 x1 (fun σ5 =>
(x2 ≠ 0 →
∀ _ : I32 (σ5 215 33),
f_X12_power_u40 Q σ5 (σ5 215 33)) ∧
(x2 = 0 →
∀ _ : I32 (σ5 215 32),
f_X12_power_u40 Q σ5 (σ5 215 32)))) ∧
(r3 = 0 →
f_X12_power_u18 Q σ3))))
def f_X12_power (σ : ml_St) (x1 : Int) (x2 : Int) (Q : Int → ml_St → Prop) : Prop := f_X12_power_u0 Q σ x1 x2
def rm_X12_power : Room := { frames := 4, cells := 0, slots := 0, locals := 86 }
set_option maxRecDepth 100000 in
set_option maxHeartbeats 4000000 in
theorem u_X12_power_18 {p : Program} {e : Env} {s : State} {m : MethodId} {args : Array Value} {below : List Frame} {meth : Method} {c : Code} {base : Nat} {D : va_G} {cA : Nat → ClassId} {n : Nat} {l : Launch} {Q : Int → ml_St → Prop} (X : ml_X p s m c meth args D cA cX12_power 3 RX12 (some .int)) (hn : 256 ≤ n) (σ : ml_St) (ls : Array Slot) (hl : lv_has ls 3 []) (hw : f_X12_power_u18 Q σ) : ml_V p l e rm_X12_power s m args below meth c (MQ below (ml_Qi I32 base D cA n Q) args s 0 0 (ml_A base)) base D cA 0 0 n n σ (F0 m 18 ls []) := by
  unfold f_X12_power_u18 at hw
  refine ml_iconst (pc := 18) X dX12_power_18 ?_
  exact ml_iret (pc := 19) X ⟨by decide, by decide⟩ hw dX12_power_19
set_option maxRecDepth 100000 in
set_option maxHeartbeats 4000000 in
theorem u_X12_power_40 {p : Program} {e : Env} {s : State} {m : MethodId} {args : Array Value} {below : List Frame} {meth : Method} {c : Code} {base : Nat} {D : va_G} {cA : Nat → ClassId} {n : Nat} {l : Launch} {Q : Int → ml_St → Prop} (X : ml_X p s m c meth args D cA cX12_power 3 RX12 (some .int)) (hn : 256 ≤ n) (σ : ml_St) (s0 : Int) (h_s0 : I32 s0) (ls : Array Slot) (hl : lv_has ls 3 []) (hw : f_X12_power_u40 Q σ s0) : ml_V p l e rm_X12_power s m args below meth c (MQ below (ml_Qi I32 base D cA n Q) args s 0 0 (ml_A base)) base D cA 0 0 n n σ (F0 m 40 ls [.int (Int32.ofInt s0)]) := by
  unfold f_X12_power_u40 at hw
  exact ml_iret (pc := 40) X h_s0 hw dX12_power_40
set_option maxRecDepth 100000 in
set_option maxHeartbeats 4000000 in
theorem u_X12_power_0 {p : Program} {e : Env} {s : State} {m : MethodId} {args : Array Value} {below : List Frame} {meth : Method} {c : Code} {base : Nat} {D : va_G} {cA : Nat → ClassId} {n : Nat} {l : Launch} {Q : Int → ml_St → Prop} (X : ml_X p s m c meth args D cA cX12_power 3 RX12 (some .int)) (hn : 256 ≤ n) (σ : ml_St) (x1 : Int) (x2 : Int) (h_x1 : I32 x1) (h_x2 : I32 x2) (ls : Array Slot) (hl : lv_has ls 3 [(0, .ref (base + (215 : Int).toNat)), (1, .int (Int32.ofInt x1)), (2, .int (Int32.ofInt x2))]) (hw : f_X12_power_u0 Q σ x1 x2) : ml_V p l e rm_X12_power s m args below meth c (MQ below (ml_Qi I32 base D cA n Q) args s 0 0 (ml_A base)) base D cA 0 0 n n σ (F0 m 0 ls []) := by
  unfold f_X12_power_u0 at hw
  refine ml_aload_n (pc := 0) X hl 0 rfl rfl dX12_power_0 ?_
  refine ml_iload_n (pc := 1) X hl 1 rfl rfl dX12_power_1 ?_
  refine ml_callzV (pc := 2) (rest := []) X [.int (Int32.ofInt x1)] (by decide) rfl (ml_c215 hn) (c_X12_isMade l base D cA n hn σ x1 h_x1 _ hw) cv_X12_292 ⟨rfl, rfl⟩ ⟨by decide, by decide⟩ rfl rfl hl (Nat.le_of_ble_eq_true rfl) ⟨Nat.zero_le _, Nat.zero_le _⟩ dX12_power_2 (fun r1 σ1 t1 hw => ?_)
  have hw := hw t1
  refine ml_if_eq (pc := 5) (tgt := 18) X t1.i dX12_power_5 (by decide) (fun c2 => ?_) (fun c2 => ?_)
  · have hw := hw.1 c2
    exact u_X12_power_18 X hn σ1   _ (lv_sub hl [] rfl) hw
  · have hw := hw.2 c2
    refine ml_iload_n (pc := 8) X hl 2 rfl rfl dX12_power_8 ?_
    refine ml_i2l (pc := 9) X h_x2 dX12_power_9 ?_
    refine ml_lconst0 (pc := 10) X dX12_power_10 ?_
    refine ml_lconst1 (pc := 11) X dX12_power_11 ?_
    refine ml_callzS (pc := 12) (rest := []) X [.long (Int64.ofInt x2), .long (Int64.ofInt 0), .long (Int64.ofInt 1)] (c_X12_lies l base D cA n hn σ1 x2 0 1 (h_x2).l ⟨by decide, by decide⟩ ⟨by decide, by decide⟩ _ hw) cv_X12_143 ⟨rfl, rfl⟩ ⟨by decide, by decide⟩ rfl rfl hl (Nat.le_of_ble_eq_true rfl) ⟨Nat.zero_le _, Nat.zero_le _⟩ dX12_power_12 (fun r3 σ3 t3 hw => ?_)
    have hw := hw t3
    refine ml_if_ne (pc := 15) (tgt := 20) X t3.i dX12_power_15 (by decide) (fun c4 => ?_) (fun c4 => ?_)
    · have hw := hw.1 c4
      refine ml_aload_n (pc := 20) X hl 0 rfl rfl dX12_power_20 ?_
      refine ml_iload_n (pc := 21) X hl 1 rfl rfl dX12_power_21 ?_
      refine ml_callvV (pc := 22) (rest := []) X [.int (Int32.ofInt x1)] (by decide) rfl (ml_c215 hn) (c_X12_powers l base D cA n hn σ3 x1 h_x1 _ hw) cv_X12_322 ⟨rfl, rfl⟩ ⟨by decide, by decide⟩ rfl rfl hl (Nat.le_of_ble_eq_true rfl) ⟨Nat.zero_le _, Nat.zero_le _⟩ dX12_power_22 (fun σ5 hw => ?_)
      refine ml_iload_n (pc := 25) X hl 2 rfl rfl dX12_power_25 ?_
      refine ml_if_ne (pc := 26) (tgt := 36) X h_x2 dX12_power_26 (by decide) (fun c6 => ?_) (fun c6 => ?_)
      · have hw := hw.1 c6
        refine ml_aload_n (pc := 36) X hl 0 rfl rfl dX12_power_36 ?_
        refine gf_X12_313 (pc := 37) X (ml_c215 hn) dX12_power_37 (fun r7 => ?_)
        have hw := hw r7
        exact u_X12_power_40 X hn σ5 (σ5 215 33) r7 _ (lv_sub hl [] rfl) hw
      · have hw := hw.2 c6
        refine ml_aload_n (pc := 29) X hl 0 rfl rfl dX12_power_29 ?_
        refine gf_X12_307 (pc := 30) X (ml_c215 hn) dX12_power_30 (fun r8 => ?_)
        have hw := hw r8
        refine ml_goto (pc := 33) (tgt := 40) X dX12_power_33 (by decide) ?_
        exact u_X12_power_40 X hn σ5 (σ5 215 32) r8 _ (lv_sub hl [] rfl) hw
    · have hw := hw.2 c4
      exact u_X12_power_18 X hn σ3   _ (lv_sub hl [] rfl) hw
set_option maxRecDepth 100000 in
theorem c_X12_power (l : Launch) (base : Nat) (D : va_G) (cA : Nat → ClassId) (n : Nat) (hn : 256 ≤ n) (σ : ml_St) (x1 : Int) (x2 : Int) (h_x1 : I32 x1) (h_x2 : I32 x2) (Q : Int → ml_St → Prop) (hw : f_X12_power σ x1 x2 Q) : Met l yX12_power (Cond.code yX12_power cX12_power 3 (some .int) :: ml_T) rm_X12_power (va_Pc [.ref (base + (215 : Int).toNat), .int (Int32.ofInt x1), .int (Int32.ofInt x2)] (ml_U base D cA n σ)) (ml_Qi I32 base D cA n Q) 0 0 (ml_A base) := by
  refine Met.ofW (cc := cX12_power) (maxL := 3) (ret := (some .int)) (by decide) rfl ?_
  intro p e s m args below meth c s₁ B hml hv
  obtain ⟨rfl, hP, hK, hok, hro⟩ := hv
  have X : ml_X p s m c meth _ D cA cX12_power 3 RX12 (some .int) := ⟨B.exec, B.bytes, hml, findClass_of_methodNamed B.named, fun w hw => atoms_spec (ws := Cond.code yX12_power cX12_power 3 (some .int) :: ml_T) B.pre w (List.mem_cons_of_mem _ hw), hK, B.notSynchronized, B.returns⟩
  have hl := lv_entry [.ref (base + (215 : Int).toNat), .int (Int32.ofInt x1), .int (Int32.ofInt x2)] (n := 3) (Nat.le_of_ble_eq_true rfl)
  rw [lg_entry_eq]
  generalize (lg_sl [.ref (base + (215 : Int).toNat), .int (Int32.ofInt x1), .int (Int32.ofInt x2)] ++ List.replicate (3 - (lg_sl [.ref (base + (215 : Int).toNat), .int (Int32.ofInt x1), .int (Int32.ofInt x2)]).length) Slot.unset).toArray = ls at hl ⊢
  have hl : lv_has ls 3 [(0, .ref (base + (215 : Int).toNat)), (1, .int (Int32.ofInt x1)), (2, .int (Int32.ofInt x2))] := hl
  unfold f_X12_power at hw
  exact u_X12_power_0 X hn σ x1 x2 h_x1 h_x2 _ (lv_sub hl [0, 1, 2] rfl) hw s.heap [] hP va_S.rf hok hro
theorem dX12_isRule_0 : decode cX12_isRule 0 = .ok (.aload_n 0, 1) := by decide +kernel
theorem dX12_isRule_1 : decode cX12_isRule 1 = .ok (.getfield 77, 3) := by decide +kernel
theorem dX12_isRule_4 : decode cX12_isRule 4 = .ok (.aload_n 0, 1) := by decide +kernel
theorem dX12_isRule_5 : decode cX12_isRule 5 = .ok (.getfield 307, 3) := by decide +kernel
theorem dX12_isRule_8 : decode cX12_isRule 8 = .ok (.iload_n 1, 1) := by decide +kernel
theorem dX12_isRule_9 : decode cX12_isRule 9 = .ok (.iadd, 1) := by decide +kernel
theorem dX12_isRule_10 : decode cX12_isRule 10 = .ok (.laload, 1) := by decide +kernel
theorem dX12_isRule_11 : decode cX12_isRule 11 = .ok (.aload_n 0, 1) := by decide +kernel
theorem dX12_isRule_12 : decode cX12_isRule 12 = .ok (.getfield 77, 3) := by decide +kernel
theorem dX12_isRule_15 : decode cX12_isRule 15 = .ok (.aload_n 0, 1) := by decide +kernel
theorem dX12_isRule_16 : decode cX12_isRule 16 = .ok (.getfield 307, 3) := by decide +kernel
theorem dX12_isRule_19 : decode cX12_isRule 19 = .ok (.laload, 1) := by decide +kernel
theorem dX12_isRule_20 : decode cX12_isRule 20 = .ok (.lsub, 1) := by decide +kernel
theorem dX12_isRule_21 : decode cX12_isRule 21 = .ok (.lstore_n 2, 1) := by decide +kernel
theorem dX12_isRule_22 : decode cX12_isRule 22 = .ok (.aload_n 0, 1) := by decide +kernel
theorem dX12_isRule_23 : decode cX12_isRule 23 = .ok (.getfield 307, 3) := by decide +kernel
theorem dX12_isRule_26 : decode cX12_isRule 26 = .ok (.istore 4, 2) := by decide +kernel
theorem dX12_isRule_28 : decode cX12_isRule 28 = .ok (.iload 4, 2) := by decide +kernel
theorem dX12_isRule_30 : decode cX12_isRule 30 = .ok (.aload_n 0, 1) := by decide +kernel
theorem dX12_isRule_31 : decode cX12_isRule 31 = .ok (.getfield 307, 3) := by decide +kernel
theorem dX12_isRule_34 : decode cX12_isRule 34 = .ok (.aload_n 0, 1) := by decide +kernel
theorem dX12_isRule_35 : decode cX12_isRule 35 = .ok (.getfield 313, 3) := by decide +kernel
theorem dX12_isRule_38 : decode cX12_isRule 38 = .ok (.iadd, 1) := by decide +kernel
theorem dX12_isRule_39 : decode cX12_isRule 39 = .ok (.if_icmp .ge 33, 3) := by decide +kernel
theorem dX12_isRule_42 : decode cX12_isRule 42 = .ok (.aload_n 0, 1) := by decide +kernel
theorem dX12_isRule_43 : decode cX12_isRule 43 = .ok (.getfield 77, 3) := by decide +kernel
theorem dX12_isRule_46 : decode cX12_isRule 46 = .ok (.iload 4, 2) := by decide +kernel
theorem dX12_isRule_48 : decode cX12_isRule 48 = .ok (.iload_n 1, 1) := by decide +kernel
theorem dX12_isRule_49 : decode cX12_isRule 49 = .ok (.iadd, 1) := by decide +kernel
theorem dX12_isRule_50 : decode cX12_isRule 50 = .ok (.laload, 1) := by decide +kernel
theorem dX12_isRule_51 : decode cX12_isRule 51 = .ok (.aload_n 0, 1) := by decide +kernel
theorem dX12_isRule_52 : decode cX12_isRule 52 = .ok (.getfield 77, 3) := by decide +kernel
theorem dX12_isRule_55 : decode cX12_isRule 55 = .ok (.iload 4, 2) := by decide +kernel
theorem dX12_isRule_57 : decode cX12_isRule 57 = .ok (.laload, 1) := by decide +kernel
theorem dX12_isRule_58 : decode cX12_isRule 58 = .ok (.lsub, 1) := by decide +kernel
theorem dX12_isRule_59 : decode cX12_isRule 59 = .ok (.lload_n 2, 1) := by decide +kernel
theorem dX12_isRule_60 : decode cX12_isRule 60 = .ok (.lcmp, 1) := by decide +kernel
theorem dX12_isRule_61 : decode cX12_isRule 61 = .ok (.ifCond .eq 5, 3) := by decide +kernel
theorem dX12_isRule_64 : decode cX12_isRule 64 = .ok (.iconst 0, 1) := by decide +kernel
theorem dX12_isRule_65 : decode cX12_isRule 65 = .ok (.ireturn, 1) := by decide +kernel
theorem dX12_isRule_66 : decode cX12_isRule 66 = .ok (.iinc 4 1, 3) := by decide +kernel
theorem dX12_isRule_69 : decode cX12_isRule 69 = .ok (.goto (-41), 3) := by decide +kernel
theorem dX12_isRule_72 : decode cX12_isRule 72 = .ok (.iconst 1, 1) := by decide +kernel
theorem dX12_isRule_73 : decode cX12_isRule 73 = .ok (.ireturn, 1) := by decide +kernel
def f_X12_isRule_u28 (Q : Int → ml_St → Prop) (K64 : ml_St → Prop) (K72 : ml_St → Prop) : Nat → ml_St → Int → Int → Int → Prop
| 0, _, _, _, _ => False
| N + 1, σ, x1, x2, x4 =>
∀ _ : I32 (σ 215 32),
∀ _ : I32 (σ 215 33),
I32 ((σ 215 32) + (σ 215 33)) ∧
(((σ 215 32) + (σ 215 33)) ≤ x4 →
K72 σ) ∧
(¬ (((σ 215 32) + (σ 215 33)) ≤ x4) →
I32 (x4 + x1) ∧
(0 : Int) ≤ (x4 + x1) ∧ ((x4 + x1) : Int) < 2900 ∧
∀ _ : I64 (σ 236 (x4 + x1)),
(0 : Int) ≤ x4 ∧ (x4 : Int) < 2900 ∧
∀ _ : I64 (σ 236 x4),
((w64 ((σ 236 (x4 + x1)) - (σ 236 x4))) = x2 →
I32 (x4 + 1) ∧
∀ y10 : Int, y10 = x4 + 1 →
f_X12_isRule_u28 Q K64 K72 N σ x1 x2 y10) ∧
((w64 ((σ 236 (x4 + x1)) - (σ 236 x4))) ≠ x2 →
K64 σ))
def f_X12_isRule_u64 (Q : Int → ml_St → Prop) (σ : ml_St) : Prop :=
Q 0 σ
def f_X12_isRule_u72 (Q : Int → ml_St → Prop) (σ : ml_St) : Prop :=
Q 1 σ
def f_X12_isRule_u0 (Q : Int → ml_St → Prop) (σ : ml_St) (x1 : Int) : Prop :=
∀ _ : I32 (σ 215 32),
I32 ((σ 215 32) + x1) ∧
(0 : Int) ≤ ((σ 215 32) + x1) ∧ (((σ 215 32) + x1) : Int) < 2900 ∧
∀ _ : I64 (σ 236 ((σ 215 32) + x1)),
∀ _ : I32 (σ 215 32),
(0 : Int) ≤ (σ 215 32) ∧ ((σ 215 32) : Int) < 2900 ∧
∀ _ : I64 (σ 236 (σ 215 32)),
∀ y7 : Int, y7 = w64 ((σ 236 ((σ 215 32) + x1)) - (σ 236 (σ 215 32))) →
∀ _ : I32 (σ 215 32),
∀ y9 : Int, y9 = σ 215 32 →
∃ N1, f_X12_isRule_u28 Q (f_X12_isRule_u64 Q) (f_X12_isRule_u72 Q) N1 σ x1 y7 y9
def f_X12_isRule (σ : ml_St) (x1 : Int) (Q : Int → ml_St → Prop) : Prop := f_X12_isRule_u0 Q σ x1
def rm_X12_isRule : Room := { frames := 0, cells := 0, slots := 0, locals := 0 }
set_option maxRecDepth 100000 in
set_option maxHeartbeats 4000000 in
theorem u_X12_isRule_28 {p : Program} {e : Env} {s : State} {m : MethodId} {args : Array Value} {below : List Frame} {meth : Method} {c : Code} {base : Nat} {D : va_G} {cA : Nat → ClassId} {n : Nat} {l : Launch} {Q : Int → ml_St → Prop} {K64 : ml_St → Prop} {K72 : ml_St → Prop} (X : ml_X p s m c meth args D cA cX12_isRule 5 RX12 (some .boolean)) (hn : 256 ≤ n) (hK64 : ∀ (σ : ml_St) (ls : Array Slot), lv_has ls 5 [] → K64 σ → ml_V p l e rm_X12_isRule s m args below meth c (MQ below (ml_Qi ml_B base D cA n Q) args s 0 0 (ml_A base)) base D cA 0 0 n n σ (F0 m 64 ls [])) (hK72 : ∀ (σ : ml_St) (ls : Array Slot), lv_has ls 5 [] → K72 σ → ml_V p l e rm_X12_isRule s m args below meth c (MQ below (ml_Qi ml_B base D cA n Q) args s 0 0 (ml_A base)) base D cA 0 0 n n σ (F0 m 72 ls [])) : ∀ (N : Nat) (σ : ml_St) (x1 : Int) (x2 : Int) (x4 : Int) (h_x1 : I32 x1) (h_x2 : I64 x2) (h_x4 : I32 x4) (ls : Array Slot), lv_has ls 5 [(0, .ref (base + (215 : Int).toNat)), (1, .int (Int32.ofInt x1)), (2, .long (Int64.ofInt x2)), (4, .int (Int32.ofInt x4))] → f_X12_isRule_u28 Q K64 K72 N σ x1 x2 x4 → ml_V p l e rm_X12_isRule s m args below meth c (MQ below (ml_Qi ml_B base D cA n Q) args s 0 0 (ml_A base)) base D cA 0 0 n n σ (F0 m 28 ls []) := by
  intro N
  induction N with
  | zero => intro σ x1 x2 x4 h_x1 h_x2 h_x4 ls hl hw; exact False.elim hw
  | succ N ih =>
    intro σ x1 x2 x4 h_x1 h_x2 h_x4 ls hl hw
    unfold f_X12_isRule_u28 at hw
    refine ml_iload (pc := 28) X hl 3 rfl dX12_isRule_28 ?_
    refine ml_aload_n (pc := 30) X hl 0 rfl rfl dX12_isRule_30 ?_
    refine gf_X12_307 (pc := 31) X (ml_c215 hn) dX12_isRule_31 (fun r1 => ?_)
    have hw := hw r1
    refine ml_aload_n (pc := 34) X hl 0 rfl rfl dX12_isRule_34 ?_
    refine gf_X12_313 (pc := 35) X (ml_c215 hn) dX12_isRule_35 (fun r2 => ?_)
    have hw := hw r2
    obtain ⟨v3, hw⟩ := hw
    refine ml_iadd (pc := 38) X dX12_isRule_38 ?_
    refine ml_icmp_ge (pc := 39) (tgt := 72) X h_x4 v3 dX12_isRule_39 (by decide) (fun c4 => ?_) (fun c4 => ?_)
    · have hw := hw.1 c4
      exact hK72 σ   _ (lv_sub hl [] rfl) hw
    · have hw := hw.2 c4
      refine ml_aload_n (pc := 42) X hl 0 rfl rfl dX12_isRule_42 ?_
      refine gf_X12_77 (pc := 43) X (ml_c215 hn) dX12_isRule_43 ?_
      refine ml_iload (pc := 46) X hl 3 rfl dX12_isRule_46 ?_
      refine ml_iload_n (pc := 48) X hl 1 rfl rfl dX12_isRule_48 ?_
      obtain ⟨v5, hw⟩ := hw
      refine ml_iadd (pc := 49) X dX12_isRule_49 ?_
      obtain ⟨a6, b6, hw⟩ := hw
      refine ml_lald (pc := 50) (N := 2900) X (ml_c236 hn) a6 b6 dX12_isRule_50 (fun r6 => ?_)
      have hw := hw r6
      refine ml_aload_n (pc := 51) X hl 0 rfl rfl dX12_isRule_51 ?_
      refine gf_X12_77 (pc := 52) X (ml_c215 hn) dX12_isRule_52 ?_
      refine ml_iload (pc := 55) X hl 3 rfl dX12_isRule_55 ?_
      obtain ⟨a7, b7, hw⟩ := hw
      refine ml_lald (pc := 57) (N := 2900) X (ml_c236 hn) a7 b7 dX12_isRule_57 (fun r7 => ?_)
      have hw := hw r7
      refine ml_lsubW (pc := 58) X dX12_isRule_58 ?_
      refine ml_lload_n (pc := 59) X hl 2 rfl rfl dX12_isRule_59 ?_
      refine ml_lcmp_eq (pc := 60) (tgt := 66) X (w64_r _) h_x2 dX12_isRule_60 dX12_isRule_61 (by decide) (fun c9 => ?_) (fun c9 => ?_)
      · have hw := hw.1 c9
        obtain ⟨v10, hw⟩ := hw
        obtain ⟨y10, e10⟩ : ∃ y : Int, y = x4 + 1 := ⟨_, rfl⟩
        have hw := hw y10 e10
        rw [← e10] at v10
        refine ml_iinc (pc := 66) X e10 hl 3 rfl (by decide) (lst' := [(4, .int (Int32.ofInt y10)), (0, .ref (base + (215 : Int).toNat)), (1, .int (Int32.ofInt x1)), (2, .long (Int64.ofInt x2))]) rfl dX12_isRule_66 (fun ls hl => ?_)
        refine ml_goto (pc := 69) (tgt := 28) X dX12_isRule_69 (by decide) ?_
        exact ih σ x1 x2 y10 h_x1 h_x2 v10 _ (lv_sub hl [1, 2, 3, 0] rfl) hw
      · have hw := hw.2 c9
        exact hK64 σ   _ (lv_sub hl [] rfl) hw
set_option maxRecDepth 100000 in
set_option maxHeartbeats 4000000 in
theorem u_X12_isRule_64 {p : Program} {e : Env} {s : State} {m : MethodId} {args : Array Value} {below : List Frame} {meth : Method} {c : Code} {base : Nat} {D : va_G} {cA : Nat → ClassId} {n : Nat} {l : Launch} {Q : Int → ml_St → Prop} (X : ml_X p s m c meth args D cA cX12_isRule 5 RX12 (some .boolean)) (hn : 256 ≤ n) (σ : ml_St) (ls : Array Slot) (hl : lv_has ls 5 []) (hw : f_X12_isRule_u64 Q σ) : ml_V p l e rm_X12_isRule s m args below meth c (MQ below (ml_Qi ml_B base D cA n Q) args s 0 0 (ml_A base)) base D cA 0 0 n n σ (F0 m 64 ls []) := by
  unfold f_X12_isRule_u64 at hw
  refine ml_iconst (pc := 64) X dX12_isRule_64 ?_
  exact ml_zret (pc := 65) X ⟨by decide, by decide⟩ hw dX12_isRule_65
set_option maxRecDepth 100000 in
set_option maxHeartbeats 4000000 in
theorem u_X12_isRule_72 {p : Program} {e : Env} {s : State} {m : MethodId} {args : Array Value} {below : List Frame} {meth : Method} {c : Code} {base : Nat} {D : va_G} {cA : Nat → ClassId} {n : Nat} {l : Launch} {Q : Int → ml_St → Prop} (X : ml_X p s m c meth args D cA cX12_isRule 5 RX12 (some .boolean)) (hn : 256 ≤ n) (σ : ml_St) (ls : Array Slot) (hl : lv_has ls 5 []) (hw : f_X12_isRule_u72 Q σ) : ml_V p l e rm_X12_isRule s m args below meth c (MQ below (ml_Qi ml_B base D cA n Q) args s 0 0 (ml_A base)) base D cA 0 0 n n σ (F0 m 72 ls []) := by
  unfold f_X12_isRule_u72 at hw
  refine ml_iconst (pc := 72) X dX12_isRule_72 ?_
  exact ml_zret (pc := 73) X ⟨by decide, by decide⟩ hw dX12_isRule_73
set_option maxRecDepth 100000 in
set_option maxHeartbeats 4000000 in
theorem u_X12_isRule_0 {p : Program} {e : Env} {s : State} {m : MethodId} {args : Array Value} {below : List Frame} {meth : Method} {c : Code} {base : Nat} {D : va_G} {cA : Nat → ClassId} {n : Nat} {l : Launch} {Q : Int → ml_St → Prop} (X : ml_X p s m c meth args D cA cX12_isRule 5 RX12 (some .boolean)) (hn : 256 ≤ n) (σ : ml_St) (x1 : Int) (h_x1 : I32 x1) (ls : Array Slot) (hl : lv_has ls 5 [(0, .ref (base + (215 : Int).toNat)), (1, .int (Int32.ofInt x1))]) (hw : f_X12_isRule_u0 Q σ x1) : ml_V p l e rm_X12_isRule s m args below meth c (MQ below (ml_Qi ml_B base D cA n Q) args s 0 0 (ml_A base)) base D cA 0 0 n n σ (F0 m 0 ls []) := by
  unfold f_X12_isRule_u0 at hw
  refine ml_aload_n (pc := 0) X hl 0 rfl rfl dX12_isRule_0 ?_
  refine gf_X12_77 (pc := 1) X (ml_c215 hn) dX12_isRule_1 ?_
  refine ml_aload_n (pc := 4) X hl 0 rfl rfl dX12_isRule_4 ?_
  refine gf_X12_307 (pc := 5) X (ml_c215 hn) dX12_isRule_5 (fun r1 => ?_)
  have hw := hw r1
  refine ml_iload_n (pc := 8) X hl 1 rfl rfl dX12_isRule_8 ?_
  obtain ⟨v2, hw⟩ := hw
  refine ml_iadd (pc := 9) X dX12_isRule_9 ?_
  obtain ⟨a3, b3, hw⟩ := hw
  refine ml_lald (pc := 10) (N := 2900) X (ml_c236 hn) a3 b3 dX12_isRule_10 (fun r3 => ?_)
  have hw := hw r3
  refine ml_aload_n (pc := 11) X hl 0 rfl rfl dX12_isRule_11 ?_
  refine gf_X12_77 (pc := 12) X (ml_c215 hn) dX12_isRule_12 ?_
  refine ml_aload_n (pc := 15) X hl 0 rfl rfl dX12_isRule_15 ?_
  refine gf_X12_307 (pc := 16) X (ml_c215 hn) dX12_isRule_16 (fun r4 => ?_)
  have hw := hw r4
  obtain ⟨a5, b5, hw⟩ := hw
  refine ml_lald (pc := 19) (N := 2900) X (ml_c236 hn) a5 b5 dX12_isRule_19 (fun r5 => ?_)
  have hw := hw r5
  refine ml_lsubW (pc := 20) X dX12_isRule_20 ?_
  refine ml_topL (pc := 21) (fun y7 e7 => ?_)
  have hw := hw y7 e7
  have q7 : I64 y7 := by rw [e7]; exact (w64_r _)
  refine ml_lstore_n (pc := 21) X rfl hl (by decide) (lst' := [(2, .long (Int64.ofInt y7)), (0, .ref (base + (215 : Int).toNat)), (1, .int (Int32.ofInt x1))]) rfl dX12_isRule_21 (fun ls hl => ?_)
  refine ml_aload_n (pc := 22) X hl 1 rfl rfl dX12_isRule_22 ?_
  refine gf_X12_307 (pc := 23) X (ml_c215 hn) dX12_isRule_23 (fun r8 => ?_)
  have hw := hw r8
  refine ml_topI (pc := 26) (fun y9 e9 => ?_)
  have hw := hw y9 e9
  have q9 : I32 y9 := by rw [e9]; exact r8
  refine ml_istore (pc := 26) X hl (by decide) (lst' := [(4, .int (Int32.ofInt y9)), (2, .long (Int64.ofInt y7)), (0, .ref (base + (215 : Int).toNat)), (1, .int (Int32.ofInt x1))]) rfl dX12_isRule_26 (fun ls hl => ?_)
  obtain ⟨N0, hw⟩ := hw
  exact u_X12_isRule_28 X hn (fun σ   ls hl hw => u_X12_isRule_64 X hn σ   ls hl hw) (fun σ   ls hl hw => u_X12_isRule_72 X hn σ   ls hl hw) N0 σ x1 y7 y9 h_x1 q7 q9 _ (lv_sub hl [2, 3, 1, 0] rfl) hw
set_option maxRecDepth 100000 in
theorem c_X12_isRule (l : Launch) (base : Nat) (D : va_G) (cA : Nat → ClassId) (n : Nat) (hn : 256 ≤ n) (σ : ml_St) (x1 : Int) (h_x1 : I32 x1) (Q : Int → ml_St → Prop) (hw : f_X12_isRule σ x1 Q) : Met l yX12_isRule (Cond.code yX12_isRule cX12_isRule 5 (some .boolean) :: ml_T) rm_X12_isRule (va_Pc [.ref (base + (215 : Int).toNat), .int (Int32.ofInt x1)] (ml_U base D cA n σ)) (ml_Qi ml_B base D cA n Q) 0 0 (ml_A base) := by
  refine Met.ofW (cc := cX12_isRule) (maxL := 5) (ret := (some .boolean)) (by decide) rfl ?_
  intro p e s m args below meth c s₁ B hml hv
  obtain ⟨rfl, hP, hK, hok, hro⟩ := hv
  have X : ml_X p s m c meth _ D cA cX12_isRule 5 RX12 (some .boolean) := ⟨B.exec, B.bytes, hml, findClass_of_methodNamed B.named, fun w hw => atoms_spec (ws := Cond.code yX12_isRule cX12_isRule 5 (some .boolean) :: ml_T) B.pre w (List.mem_cons_of_mem _ hw), hK, B.notSynchronized, B.returns⟩
  have hl := lv_entry [.ref (base + (215 : Int).toNat), .int (Int32.ofInt x1)] (n := 5) (Nat.le_of_ble_eq_true rfl)
  rw [lg_entry_eq]
  generalize (lg_sl [.ref (base + (215 : Int).toNat), .int (Int32.ofInt x1)] ++ List.replicate (5 - (lg_sl [.ref (base + (215 : Int).toNat), .int (Int32.ofInt x1)]).length) Slot.unset).toArray = ls at hl ⊢
  have hl : lv_has ls 5 [(0, .ref (base + (215 : Int).toNat)), (1, .int (Int32.ofInt x1))] := hl
  unfold f_X12_isRule at hw
  exact u_X12_isRule_0 X hn σ x1 h_x1 _ (lv_sub hl [0, 1] rfl) hw s.heap [] hP va_S.rf hok hro
theorem dX12_rule_0 : decode cX12_rule 0 = .ok (.aload_n 0, 1) := by decide +kernel
theorem dX12_rule_1 : decode cX12_rule 1 = .ok (.iload_n 1, 1) := by decide +kernel
theorem dX12_rule_2 : decode cX12_rule 2 = .ok (.invokevirtual 292, 3) := by decide +kernel
theorem dX12_rule_5 : decode cX12_rule 5 = .ok (.ifCond .eq 15, 3) := by decide +kernel
theorem dX12_rule_8 : decode cX12_rule 8 = .ok (.iload_n 2, 1) := by decide +kernel
theorem dX12_rule_9 : decode cX12_rule 9 = .ok (.i2l, 1) := by decide +kernel
theorem dX12_rule_10 : decode cX12_rule 10 = .ok (.lconst 0, 1) := by decide +kernel
theorem dX12_rule_11 : decode cX12_rule 11 = .ok (.ldc2_w 147, 3) := by decide +kernel
theorem dX12_rule_14 : decode cX12_rule 14 = .ok (.invokestatic 143, 3) := by decide +kernel
theorem dX12_rule_17 : decode cX12_rule 17 = .ok (.ifCond .ne 7, 3) := by decide +kernel
theorem dX12_rule_20 : decode cX12_rule 20 = .ok (.ldc2_w 290, 3) := by decide +kernel
theorem dX12_rule_23 : decode cX12_rule 23 = .ok (.lreturn, 1) := by decide +kernel
theorem dX12_rule_24 : decode cX12_rule 24 = .ok (.aload_n 0, 1) := by decide +kernel
theorem dX12_rule_25 : decode cX12_rule 25 = .ok (.iload_n 1, 1) := by decide +kernel
theorem dX12_rule_26 : decode cX12_rule 26 = .ok (.invokevirtual 322, 3) := by decide +kernel
theorem dX12_rule_29 : decode cX12_rule 29 = .ok (.iconst 1, 1) := by decide +kernel
theorem dX12_rule_30 : decode cX12_rule 30 = .ok (.istore_n 3, 1) := by decide +kernel
theorem dX12_rule_31 : decode cX12_rule 31 = .ok (.aload_n 0, 1) := by decide +kernel
theorem dX12_rule_32 : decode cX12_rule 32 = .ok (.iload_n 3, 1) := by decide +kernel
theorem dX12_rule_33 : decode cX12_rule 33 = .ok (.invokevirtual 325, 3) := by decide +kernel
theorem dX12_rule_36 : decode cX12_rule 36 = .ok (.ifCond .ne 9, 3) := by decide +kernel
theorem dX12_rule_39 : decode cX12_rule 39 = .ok (.iinc 3 1, 3) := by decide +kernel
theorem dX12_rule_42 : decode cX12_rule 42 = .ok (.goto (-11), 3) := by decide +kernel
theorem dX12_rule_45 : decode cX12_rule 45 = .ok (.aload_n 0, 1) := by decide +kernel
theorem dX12_rule_46 : decode cX12_rule 46 = .ok (.getfield 77, 3) := by decide +kernel
theorem dX12_rule_49 : decode cX12_rule 49 = .ok (.aload_n 0, 1) := by decide +kernel
theorem dX12_rule_50 : decode cX12_rule 50 = .ok (.getfield 307, 3) := by decide +kernel
theorem dX12_rule_53 : decode cX12_rule 53 = .ok (.iload_n 3, 1) := by decide +kernel
theorem dX12_rule_54 : decode cX12_rule 54 = .ok (.iadd, 1) := by decide +kernel
theorem dX12_rule_55 : decode cX12_rule 55 = .ok (.laload, 1) := by decide +kernel
theorem dX12_rule_56 : decode cX12_rule 56 = .ok (.aload_n 0, 1) := by decide +kernel
theorem dX12_rule_57 : decode cX12_rule 57 = .ok (.getfield 77, 3) := by decide +kernel
theorem dX12_rule_60 : decode cX12_rule 60 = .ok (.aload_n 0, 1) := by decide +kernel
theorem dX12_rule_61 : decode cX12_rule 61 = .ok (.getfield 307, 3) := by decide +kernel
theorem dX12_rule_64 : decode cX12_rule 64 = .ok (.laload, 1) := by decide +kernel
theorem dX12_rule_65 : decode cX12_rule 65 = .ok (.lsub, 1) := by decide +kernel
theorem dX12_rule_66 : decode cX12_rule 66 = .ok (.lstore 4, 2) := by decide +kernel
theorem dX12_rule_68 : decode cX12_rule 68 = .ok (.aload_n 0, 1) := by decide +kernel
theorem dX12_rule_69 : decode cX12_rule 69 = .ok (.getfield 307, 3) := by decide +kernel
theorem dX12_rule_72 : decode cX12_rule 72 = .ok (.istore 6, 2) := by decide +kernel
theorem dX12_rule_74 : decode cX12_rule 74 = .ok (.iload 6, 2) := by decide +kernel
theorem dX12_rule_76 : decode cX12_rule 76 = .ok (.iconst 1, 1) := by decide +kernel
theorem dX12_rule_77 : decode cX12_rule 77 = .ok (.if_icmp .le 36, 3) := by decide +kernel
theorem dX12_rule_80 : decode cX12_rule 80 = .ok (.aload_n 0, 1) := by decide +kernel
theorem dX12_rule_81 : decode cX12_rule 81 = .ok (.getfield 77, 3) := by decide +kernel
theorem dX12_rule_84 : decode cX12_rule 84 = .ok (.iload 6, 2) := by decide +kernel
theorem dX12_rule_86 : decode cX12_rule 86 = .ok (.iconst 1, 1) := by decide +kernel
theorem dX12_rule_87 : decode cX12_rule 87 = .ok (.isub, 1) := by decide +kernel
theorem dX12_rule_88 : decode cX12_rule 88 = .ok (.iload_n 3, 1) := by decide +kernel
theorem dX12_rule_89 : decode cX12_rule 89 = .ok (.iadd, 1) := by decide +kernel
theorem dX12_rule_90 : decode cX12_rule 90 = .ok (.laload, 1) := by decide +kernel
theorem dX12_rule_91 : decode cX12_rule 91 = .ok (.aload_n 0, 1) := by decide +kernel
theorem dX12_rule_92 : decode cX12_rule 92 = .ok (.getfield 77, 3) := by decide +kernel
theorem dX12_rule_95 : decode cX12_rule 95 = .ok (.iload 6, 2) := by decide +kernel
theorem dX12_rule_97 : decode cX12_rule 97 = .ok (.iconst 1, 1) := by decide +kernel
theorem dX12_rule_98 : decode cX12_rule 98 = .ok (.isub, 1) := by decide +kernel
theorem dX12_rule_99 : decode cX12_rule 99 = .ok (.laload, 1) := by decide +kernel
theorem dX12_rule_100 : decode cX12_rule 100 = .ok (.lsub, 1) := by decide +kernel
theorem dX12_rule_101 : decode cX12_rule 101 = .ok (.lload 4, 2) := by decide +kernel
theorem dX12_rule_103 : decode cX12_rule 103 = .ok (.lcmp, 1) := by decide +kernel
theorem dX12_rule_104 : decode cX12_rule 104 = .ok (.ifCond .ne 9, 3) := by decide +kernel
theorem dX12_rule_107 : decode cX12_rule 107 = .ok (.iinc 6 (-1), 3) := by decide +kernel
theorem dX12_rule_110 : decode cX12_rule 110 = .ok (.goto (-36), 3) := by decide +kernel
theorem dX12_rule_113 : decode cX12_rule 113 = .ok (.iload_n 2, 1) := by decide +kernel
theorem dX12_rule_114 : decode cX12_rule 114 = .ok (.ifCond .ne 8, 3) := by decide +kernel
theorem dX12_rule_117 : decode cX12_rule 117 = .ok (.iload_n 3, 1) := by decide +kernel
theorem dX12_rule_118 : decode cX12_rule 118 = .ok (.i2l, 1) := by decide +kernel
theorem dX12_rule_119 : decode cX12_rule 119 = .ok (.goto 16, 3) := by decide +kernel
theorem dX12_rule_122 : decode cX12_rule 122 = .ok (.iload_n 2, 1) := by decide +kernel
theorem dX12_rule_123 : decode cX12_rule 123 = .ok (.iconst 1, 1) := by decide +kernel
theorem dX12_rule_124 : decode cX12_rule 124 = .ok (.if_icmp .ne 8, 3) := by decide +kernel
theorem dX12_rule_127 : decode cX12_rule 127 = .ok (.lload 4, 2) := by decide +kernel
theorem dX12_rule_129 : decode cX12_rule 129 = .ok (.goto 6, 3) := by decide +kernel
theorem dX12_rule_132 : decode cX12_rule 132 = .ok (.iload 6, 2) := by decide +kernel
theorem dX12_rule_134 : decode cX12_rule 134 = .ok (.i2l, 1) := by decide +kernel
theorem dX12_rule_135 : decode cX12_rule 135 = .ok (.lreturn, 1) := by decide +kernel
def f_X12_rule_u20 (Q : Int → ml_St → Prop) (σ : ml_St) : Prop :=
Q (-1) σ
def f_X12_rule_u31 (Q : Int → ml_St → Prop) (K45 : ml_St → Int → Int → Prop) : Nat → ml_St → Int → Int → Prop
| 0, _, _, _ => False
| N + 1, σ, x2, x3 =>
f_X12_isRule σ x3 (fun r1 σ1 => ∀ _ : ml_B r1,
(r1 ≠ 0 →
K45 σ1 x2 x3) ∧
(r1 = 0 →
I32 (x3 + 1) ∧
∀ y3 : Int, y3 = x3 + 1 →
f_X12_rule_u31 Q K45 N σ1 x2 y3))
def f_X12_rule_u74 (Q : Int → ml_St → Prop) (K113 : ml_St → Int → Int → Int → Int → Prop) : Nat → ml_St → Int → Int → Int → Int → Prop
| 0, _, _, _, _, _ => False
| N + 1, σ, x2, x3, x4, x6 =>
(x6 ≤ 1 →
K113 σ x2 x3 x4 x6) ∧
(¬ (x6 ≤ 1) →
I32 (x6 - 1) ∧
I32 ((x6 - 1) + x3) ∧
(0 : Int) ≤ ((x6 - 1) + x3) ∧ (((x6 - 1) + x3) : Int) < 2900 ∧
∀ _ : I64 (σ 236 ((x6 - 1) + x3)),
I32 (x6 - 1) ∧
(0 : Int) ≤ (x6 - 1) ∧ ((x6 - 1) : Int) < 2900 ∧
∀ _ : I64 (σ 236 (x6 - 1)),
((w64 ((σ 236 ((x6 - 1) + x3)) - (σ 236 (x6 - 1)))) ≠ x4 →
K113 σ x2 x3 x4 x6) ∧
((w64 ((σ 236 ((x6 - 1) + x3)) - (σ 236 (x6 - 1)))) = x4 →
I32 (x6 + (-1)) ∧
∀ y9 : Int, y9 = x6 + (-1) →
f_X12_rule_u74 Q K113 N σ x2 x3 x4 y9))
def f_X12_rule_u135 (Q : Int → ml_St → Prop) (σ : ml_St) (s0 : Int) : Prop :=
Q s0 σ
def f_X12_rule_u113 (Q : Int → ml_St → Prop) (σ : ml_St) (x2 : Int) (x3 : Int) (x4 : Int) (x6 : Int) : Prop :=
(x2 ≠ 0 →
(x2 ≠ 1 →
f_X12_rule_u135 Q σ x6) ∧
(x2 = 1 →
f_X12_rule_u135 Q σ x4)) ∧
(x2 = 0 →
f_X12_rule_u135 Q σ x3)
def f_X12_rule_u45 (Q : Int → ml_St → Prop) (σ : ml_St) (x2 : Int) (x3 : Int) : Prop :=
∀ _ : I32 (σ 215 32),
I32 ((σ 215 32) + x3) ∧
(0 : Int) ≤ ((σ 215 32) + x3) ∧ (((σ 215 32) + x3) : Int) < 2900 ∧
∀ _ : I64 (σ 236 ((σ 215 32) + x3)),
∀ _ : I32 (σ 215 32),
(0 : Int) ≤ (σ 215 32) ∧ ((σ 215 32) : Int) < 2900 ∧
∀ _ : I64 (σ 236 (σ 215 32)),
∀ y7 : Int, y7 = w64 ((σ 236 ((σ 215 32) + x3)) - (σ 236 (σ 215 32))) →
∀ _ : I32 (σ 215 32),
∀ y9 : Int, y9 = σ 215 32 →
∃ N1, f_X12_rule_u74 Q (f_X12_rule_u113 Q) N1 σ x2 x3 y7 y9
def f_X12_rule_u0 (Q : Int → ml_St → Prop) (σ : ml_St) (x1 : Int) (x2 : Int) : Prop :=
f_X12_isMade σ x1 (fun r1 σ1 => ∀ _ : ml_B r1,
(r1 = 0 →
f_X12_rule_u20 Q σ1) ∧
(r1 ≠ 0 →
f_X12_lies σ1 x2 0 2 (fun r3 σ3 => ∀ _ : ml_B r3,
(r3 ≠ 0 →
f_X12_powers σ3 x1 (fun σ5 =>
∃ N1, f_X12_rule_u31 Q (f_X12_rule_u45 Q) N1 σ5 x2 1)) ∧
(r3 = 0 →
f_X12_rule_u20 Q σ3))))
def f_X12_rule (σ : ml_St) (x1 : Int) (x2 : Int) (Q : Int → ml_St → Prop) : Prop := f_X12_rule_u0 Q σ x1 x2
def rm_X12_rule : Room := { frames := 4, cells := 0, slots := 0, locals := 86 }
set_option maxRecDepth 100000 in
set_option maxHeartbeats 4000000 in
theorem u_X12_rule_20 {p : Program} {e : Env} {s : State} {m : MethodId} {args : Array Value} {below : List Frame} {meth : Method} {c : Code} {base : Nat} {D : va_G} {cA : Nat → ClassId} {n : Nat} {l : Launch} {Q : Int → ml_St → Prop} (X : ml_X p s m c meth args D cA cX12_rule 7 RX12 (some .long)) (hn : 256 ≤ n) (σ : ml_St) (ls : Array Slot) (hl : lv_has ls 7 []) (hw : f_X12_rule_u20 Q σ) : ml_V p l e rm_X12_rule s m args below meth c (MQ below (ml_Ql base D cA n Q) args s 0 0 (ml_A base)) base D cA 0 0 n n σ (F0 m 20 ls []) := by
  unfold f_X12_rule_u20 at hw
  refine ml_ldc2 (pc := 20) (v := (-1)) X dX12_rule_20 tc_6_52 ?_
  exact ml_lret (pc := 23) X ⟨by decide, by decide⟩ hw dX12_rule_23
set_option maxRecDepth 100000 in
set_option maxHeartbeats 4000000 in
theorem u_X12_rule_31 {p : Program} {e : Env} {s : State} {m : MethodId} {args : Array Value} {below : List Frame} {meth : Method} {c : Code} {base : Nat} {D : va_G} {cA : Nat → ClassId} {n : Nat} {l : Launch} {Q : Int → ml_St → Prop} {K45 : ml_St → Int → Int → Prop} (X : ml_X p s m c meth args D cA cX12_rule 7 RX12 (some .long)) (hn : 256 ≤ n) (hK45 : ∀ (σ : ml_St) (x2 : Int) (x3 : Int) (h_x2 : I32 x2) (h_x3 : I32 x3) (ls : Array Slot), lv_has ls 7 [(0, .ref (base + (215 : Int).toNat)), (2, .int (Int32.ofInt x2)), (3, .int (Int32.ofInt x3))] → K45 σ x2 x3 → ml_V p l e rm_X12_rule s m args below meth c (MQ below (ml_Ql base D cA n Q) args s 0 0 (ml_A base)) base D cA 0 0 n n σ (F0 m 45 ls [])) : ∀ (N : Nat) (σ : ml_St) (x2 : Int) (x3 : Int) (h_x2 : I32 x2) (h_x3 : I32 x3) (ls : Array Slot), lv_has ls 7 [(0, .ref (base + (215 : Int).toNat)), (2, .int (Int32.ofInt x2)), (3, .int (Int32.ofInt x3))] → f_X12_rule_u31 Q K45 N σ x2 x3 → ml_V p l e rm_X12_rule s m args below meth c (MQ below (ml_Ql base D cA n Q) args s 0 0 (ml_A base)) base D cA 0 0 n n σ (F0 m 31 ls []) := by
  intro N
  induction N with
  | zero => intro σ x2 x3 h_x2 h_x3 ls hl hw; exact False.elim hw
  | succ N ih =>
    intro σ x2 x3 h_x2 h_x3 ls hl hw
    unfold f_X12_rule_u31 at hw
    refine ml_aload_n (pc := 31) X hl 0 rfl rfl dX12_rule_31 ?_
    refine ml_iload_n (pc := 32) X hl 2 rfl rfl dX12_rule_32 ?_
    refine ml_callzV (pc := 33) (rest := []) X [.int (Int32.ofInt x3)] (by decide) rfl (ml_c215 hn) (c_X12_isRule l base D cA n hn σ x3 h_x3 _ hw) cv_X12_325 ⟨rfl, rfl⟩ ⟨by decide, by decide⟩ rfl rfl hl (Nat.le_of_ble_eq_true rfl) ⟨Nat.zero_le _, Nat.zero_le _⟩ dX12_rule_33 (fun r1 σ1 t1 hw => ?_)
    have hw := hw t1
    refine ml_if_ne (pc := 36) (tgt := 45) X t1.i dX12_rule_36 (by decide) (fun c2 => ?_) (fun c2 => ?_)
    · have hw := hw.1 c2
      exact hK45 σ1 x2 x3 h_x2 h_x3 _ (lv_sub hl [0, 1, 2] rfl) hw
    · have hw := hw.2 c2
      obtain ⟨v3, hw⟩ := hw
      obtain ⟨y3, e3⟩ : ∃ y : Int, y = x3 + 1 := ⟨_, rfl⟩
      have hw := hw y3 e3
      rw [← e3] at v3
      refine ml_iinc (pc := 39) X e3 hl 2 rfl (by decide) (lst' := [(3, .int (Int32.ofInt y3)), (0, .ref (base + (215 : Int).toNat)), (2, .int (Int32.ofInt x2))]) rfl dX12_rule_39 (fun ls hl => ?_)
      refine ml_goto (pc := 42) (tgt := 31) X dX12_rule_42 (by decide) ?_
      exact ih σ1 x2 y3 h_x2 v3 _ (lv_sub hl [1, 2, 0] rfl) hw
set_option maxRecDepth 100000 in
set_option maxHeartbeats 4000000 in
theorem u_X12_rule_74 {p : Program} {e : Env} {s : State} {m : MethodId} {args : Array Value} {below : List Frame} {meth : Method} {c : Code} {base : Nat} {D : va_G} {cA : Nat → ClassId} {n : Nat} {l : Launch} {Q : Int → ml_St → Prop} {K113 : ml_St → Int → Int → Int → Int → Prop} (X : ml_X p s m c meth args D cA cX12_rule 7 RX12 (some .long)) (hn : 256 ≤ n) (hK113 : ∀ (σ : ml_St) (x2 : Int) (x3 : Int) (x4 : Int) (x6 : Int) (h_x2 : I32 x2) (h_x3 : I32 x3) (h_x4 : I64 x4) (h_x6 : I32 x6) (ls : Array Slot), lv_has ls 7 [(2, .int (Int32.ofInt x2)), (3, .int (Int32.ofInt x3)), (4, .long (Int64.ofInt x4)), (6, .int (Int32.ofInt x6))] → K113 σ x2 x3 x4 x6 → ml_V p l e rm_X12_rule s m args below meth c (MQ below (ml_Ql base D cA n Q) args s 0 0 (ml_A base)) base D cA 0 0 n n σ (F0 m 113 ls [])) : ∀ (N : Nat) (σ : ml_St) (x2 : Int) (x3 : Int) (x4 : Int) (x6 : Int) (h_x2 : I32 x2) (h_x3 : I32 x3) (h_x4 : I64 x4) (h_x6 : I32 x6) (ls : Array Slot), lv_has ls 7 [(0, .ref (base + (215 : Int).toNat)), (2, .int (Int32.ofInt x2)), (3, .int (Int32.ofInt x3)), (4, .long (Int64.ofInt x4)), (6, .int (Int32.ofInt x6))] → f_X12_rule_u74 Q K113 N σ x2 x3 x4 x6 → ml_V p l e rm_X12_rule s m args below meth c (MQ below (ml_Ql base D cA n Q) args s 0 0 (ml_A base)) base D cA 0 0 n n σ (F0 m 74 ls []) := by
  intro N
  induction N with
  | zero => intro σ x2 x3 x4 x6 h_x2 h_x3 h_x4 h_x6 ls hl hw; exact False.elim hw
  | succ N ih =>
    intro σ x2 x3 x4 x6 h_x2 h_x3 h_x4 h_x6 ls hl hw
    unfold f_X12_rule_u74 at hw
    refine ml_iload (pc := 74) X hl 4 rfl dX12_rule_74 ?_
    refine ml_iconst (pc := 76) X dX12_rule_76 ?_
    refine ml_icmp_le (pc := 77) (tgt := 113) X h_x6 ⟨by decide, by decide⟩ dX12_rule_77 (by decide) (fun c1 => ?_) (fun c1 => ?_)
    · have hw := hw.1 c1
      exact hK113 σ x2 x3 x4 x6 h_x2 h_x3 h_x4 h_x6 _ (lv_sub hl [1, 2, 3, 4] rfl) hw
    · have hw := hw.2 c1
      refine ml_aload_n (pc := 80) X hl 0 rfl rfl dX12_rule_80 ?_
      refine gf_X12_77 (pc := 81) X (ml_c215 hn) dX12_rule_81 ?_
      refine ml_iload (pc := 84) X hl 4 rfl dX12_rule_84 ?_
      refine ml_iconst (pc := 86) X dX12_rule_86 ?_
      obtain ⟨v2, hw⟩ := hw
      refine ml_isub (pc := 87) X dX12_rule_87 ?_
      refine ml_iload_n (pc := 88) X hl 2 rfl rfl dX12_rule_88 ?_
      obtain ⟨v3, hw⟩ := hw
      refine ml_iadd (pc := 89) X dX12_rule_89 ?_
      obtain ⟨a4, b4, hw⟩ := hw
      refine ml_lald (pc := 90) (N := 2900) X (ml_c236 hn) a4 b4 dX12_rule_90 (fun r4 => ?_)
      have hw := hw r4
      refine ml_aload_n (pc := 91) X hl 0 rfl rfl dX12_rule_91 ?_
      refine gf_X12_77 (pc := 92) X (ml_c215 hn) dX12_rule_92 ?_
      refine ml_iload (pc := 95) X hl 4 rfl dX12_rule_95 ?_
      refine ml_iconst (pc := 97) X dX12_rule_97 ?_
      obtain ⟨v5, hw⟩ := hw
      refine ml_isub (pc := 98) X dX12_rule_98 ?_
      obtain ⟨a6, b6, hw⟩ := hw
      refine ml_lald (pc := 99) (N := 2900) X (ml_c236 hn) a6 b6 dX12_rule_99 (fun r6 => ?_)
      have hw := hw r6
      refine ml_lsubW (pc := 100) X dX12_rule_100 ?_
      refine ml_lload (pc := 101) X hl 3 rfl dX12_rule_101 ?_
      refine ml_lcmp_ne (pc := 103) (tgt := 113) X (w64_r _) h_x4 dX12_rule_103 dX12_rule_104 (by decide) (fun c8 => ?_) (fun c8 => ?_)
      · have hw := hw.1 c8
        exact hK113 σ x2 x3 x4 x6 h_x2 h_x3 h_x4 h_x6 _ (lv_sub hl [1, 2, 3, 4] rfl) hw
      · have hw := hw.2 c8
        obtain ⟨v9, hw⟩ := hw
        obtain ⟨y9, e9⟩ : ∃ y : Int, y = x6 + (-1) := ⟨_, rfl⟩
        have hw := hw y9 e9
        rw [← e9] at v9
        refine ml_iinc (pc := 107) X e9 hl 4 rfl (by decide) (lst' := [(6, .int (Int32.ofInt y9)), (0, .ref (base + (215 : Int).toNat)), (2, .int (Int32.ofInt x2)), (3, .int (Int32.ofInt x3)), (4, .long (Int64.ofInt x4))]) rfl dX12_rule_107 (fun ls hl => ?_)
        refine ml_goto (pc := 110) (tgt := 74) X dX12_rule_110 (by decide) ?_
        exact ih σ x2 x3 x4 y9 h_x2 h_x3 h_x4 v9 _ (lv_sub hl [1, 2, 3, 4, 0] rfl) hw
set_option maxRecDepth 100000 in
set_option maxHeartbeats 4000000 in
theorem u_X12_rule_135 {p : Program} {e : Env} {s : State} {m : MethodId} {args : Array Value} {below : List Frame} {meth : Method} {c : Code} {base : Nat} {D : va_G} {cA : Nat → ClassId} {n : Nat} {l : Launch} {Q : Int → ml_St → Prop} (X : ml_X p s m c meth args D cA cX12_rule 7 RX12 (some .long)) (hn : 256 ≤ n) (σ : ml_St) (s0 : Int) (h_s0 : I64 s0) (ls : Array Slot) (hl : lv_has ls 7 []) (hw : f_X12_rule_u135 Q σ s0) : ml_V p l e rm_X12_rule s m args below meth c (MQ below (ml_Ql base D cA n Q) args s 0 0 (ml_A base)) base D cA 0 0 n n σ (F0 m 135 ls [.long (Int64.ofInt s0)]) := by
  unfold f_X12_rule_u135 at hw
  exact ml_lret (pc := 135) X h_s0 hw dX12_rule_135
set_option maxRecDepth 100000 in
set_option maxHeartbeats 4000000 in
theorem u_X12_rule_113 {p : Program} {e : Env} {s : State} {m : MethodId} {args : Array Value} {below : List Frame} {meth : Method} {c : Code} {base : Nat} {D : va_G} {cA : Nat → ClassId} {n : Nat} {l : Launch} {Q : Int → ml_St → Prop} (X : ml_X p s m c meth args D cA cX12_rule 7 RX12 (some .long)) (hn : 256 ≤ n) (σ : ml_St) (x2 : Int) (x3 : Int) (x4 : Int) (x6 : Int) (h_x2 : I32 x2) (h_x3 : I32 x3) (h_x4 : I64 x4) (h_x6 : I32 x6) (ls : Array Slot) (hl : lv_has ls 7 [(2, .int (Int32.ofInt x2)), (3, .int (Int32.ofInt x3)), (4, .long (Int64.ofInt x4)), (6, .int (Int32.ofInt x6))]) (hw : f_X12_rule_u113 Q σ x2 x3 x4 x6) : ml_V p l e rm_X12_rule s m args below meth c (MQ below (ml_Ql base D cA n Q) args s 0 0 (ml_A base)) base D cA 0 0 n n σ (F0 m 113 ls []) := by
  unfold f_X12_rule_u113 at hw
  refine ml_iload_n (pc := 113) X hl 0 rfl rfl dX12_rule_113 ?_
  refine ml_if_ne (pc := 114) (tgt := 122) X h_x2 dX12_rule_114 (by decide) (fun c1 => ?_) (fun c1 => ?_)
  · have hw := hw.1 c1
    refine ml_iload_n (pc := 122) X hl 0 rfl rfl dX12_rule_122 ?_
    refine ml_iconst (pc := 123) X dX12_rule_123 ?_
    refine ml_icmp_ne (pc := 124) (tgt := 132) X h_x2 ⟨by decide, by decide⟩ dX12_rule_124 (by decide) (fun c2 => ?_) (fun c2 => ?_)
    · have hw := hw.1 c2
      refine ml_iload (pc := 132) X hl 3 rfl dX12_rule_132 ?_
      refine ml_i2l (pc := 134) X h_x6 dX12_rule_134 ?_
      exact u_X12_rule_135 X hn σ x6 (h_x6).l _ (lv_sub hl [] rfl) hw
    · have hw := hw.2 c2
      refine ml_lload (pc := 127) X hl 2 rfl dX12_rule_127 ?_
      refine ml_goto (pc := 129) (tgt := 135) X dX12_rule_129 (by decide) ?_
      exact u_X12_rule_135 X hn σ x4 h_x4 _ (lv_sub hl [] rfl) hw
  · have hw := hw.2 c1
    refine ml_iload_n (pc := 117) X hl 1 rfl rfl dX12_rule_117 ?_
    refine ml_i2l (pc := 118) X h_x3 dX12_rule_118 ?_
    refine ml_goto (pc := 119) (tgt := 135) X dX12_rule_119 (by decide) ?_
    exact u_X12_rule_135 X hn σ x3 (h_x3).l _ (lv_sub hl [] rfl) hw
set_option maxRecDepth 100000 in
set_option maxHeartbeats 4000000 in
theorem u_X12_rule_45 {p : Program} {e : Env} {s : State} {m : MethodId} {args : Array Value} {below : List Frame} {meth : Method} {c : Code} {base : Nat} {D : va_G} {cA : Nat → ClassId} {n : Nat} {l : Launch} {Q : Int → ml_St → Prop} (X : ml_X p s m c meth args D cA cX12_rule 7 RX12 (some .long)) (hn : 256 ≤ n) (σ : ml_St) (x2 : Int) (x3 : Int) (h_x2 : I32 x2) (h_x3 : I32 x3) (ls : Array Slot) (hl : lv_has ls 7 [(0, .ref (base + (215 : Int).toNat)), (2, .int (Int32.ofInt x2)), (3, .int (Int32.ofInt x3))]) (hw : f_X12_rule_u45 Q σ x2 x3) : ml_V p l e rm_X12_rule s m args below meth c (MQ below (ml_Ql base D cA n Q) args s 0 0 (ml_A base)) base D cA 0 0 n n σ (F0 m 45 ls []) := by
  unfold f_X12_rule_u45 at hw
  refine ml_aload_n (pc := 45) X hl 0 rfl rfl dX12_rule_45 ?_
  refine gf_X12_77 (pc := 46) X (ml_c215 hn) dX12_rule_46 ?_
  refine ml_aload_n (pc := 49) X hl 0 rfl rfl dX12_rule_49 ?_
  refine gf_X12_307 (pc := 50) X (ml_c215 hn) dX12_rule_50 (fun r1 => ?_)
  have hw := hw r1
  refine ml_iload_n (pc := 53) X hl 2 rfl rfl dX12_rule_53 ?_
  obtain ⟨v2, hw⟩ := hw
  refine ml_iadd (pc := 54) X dX12_rule_54 ?_
  obtain ⟨a3, b3, hw⟩ := hw
  refine ml_lald (pc := 55) (N := 2900) X (ml_c236 hn) a3 b3 dX12_rule_55 (fun r3 => ?_)
  have hw := hw r3
  refine ml_aload_n (pc := 56) X hl 0 rfl rfl dX12_rule_56 ?_
  refine gf_X12_77 (pc := 57) X (ml_c215 hn) dX12_rule_57 ?_
  refine ml_aload_n (pc := 60) X hl 0 rfl rfl dX12_rule_60 ?_
  refine gf_X12_307 (pc := 61) X (ml_c215 hn) dX12_rule_61 (fun r4 => ?_)
  have hw := hw r4
  obtain ⟨a5, b5, hw⟩ := hw
  refine ml_lald (pc := 64) (N := 2900) X (ml_c236 hn) a5 b5 dX12_rule_64 (fun r5 => ?_)
  have hw := hw r5
  refine ml_lsubW (pc := 65) X dX12_rule_65 ?_
  refine ml_topL (pc := 66) (fun y7 e7 => ?_)
  have hw := hw y7 e7
  have q7 : I64 y7 := by rw [e7]; exact (w64_r _)
  refine ml_lstore (pc := 66) X hl (by decide) (lst' := [(4, .long (Int64.ofInt y7)), (0, .ref (base + (215 : Int).toNat)), (2, .int (Int32.ofInt x2)), (3, .int (Int32.ofInt x3))]) rfl dX12_rule_66 (fun ls hl => ?_)
  refine ml_aload_n (pc := 68) X hl 1 rfl rfl dX12_rule_68 ?_
  refine gf_X12_307 (pc := 69) X (ml_c215 hn) dX12_rule_69 (fun r8 => ?_)
  have hw := hw r8
  refine ml_topI (pc := 72) (fun y9 e9 => ?_)
  have hw := hw y9 e9
  have q9 : I32 y9 := by rw [e9]; exact r8
  refine ml_istore (pc := 72) X hl (by decide) (lst' := [(6, .int (Int32.ofInt y9)), (4, .long (Int64.ofInt y7)), (0, .ref (base + (215 : Int).toNat)), (2, .int (Int32.ofInt x2)), (3, .int (Int32.ofInt x3))]) rfl dX12_rule_72 (fun ls hl => ?_)
  obtain ⟨N0, hw⟩ := hw
  exact u_X12_rule_74 X hn (fun σ x2 x3 x4 x6 h_x2 h_x3 h_x4 h_x6 ls hl hw => u_X12_rule_113 X hn σ x2 x3 x4 x6 h_x2 h_x3 h_x4 h_x6 ls hl hw) N0 σ x2 x3 y7 y9 h_x2 h_x3 q7 q9 _ (lv_sub hl [2, 3, 4, 1, 0] rfl) hw
set_option maxRecDepth 100000 in
set_option maxHeartbeats 4000000 in
theorem u_X12_rule_0 {p : Program} {e : Env} {s : State} {m : MethodId} {args : Array Value} {below : List Frame} {meth : Method} {c : Code} {base : Nat} {D : va_G} {cA : Nat → ClassId} {n : Nat} {l : Launch} {Q : Int → ml_St → Prop} (X : ml_X p s m c meth args D cA cX12_rule 7 RX12 (some .long)) (hn : 256 ≤ n) (σ : ml_St) (x1 : Int) (x2 : Int) (h_x1 : I32 x1) (h_x2 : I32 x2) (ls : Array Slot) (hl : lv_has ls 7 [(0, .ref (base + (215 : Int).toNat)), (1, .int (Int32.ofInt x1)), (2, .int (Int32.ofInt x2))]) (hw : f_X12_rule_u0 Q σ x1 x2) : ml_V p l e rm_X12_rule s m args below meth c (MQ below (ml_Ql base D cA n Q) args s 0 0 (ml_A base)) base D cA 0 0 n n σ (F0 m 0 ls []) := by
  unfold f_X12_rule_u0 at hw
  refine ml_aload_n (pc := 0) X hl 0 rfl rfl dX12_rule_0 ?_
  refine ml_iload_n (pc := 1) X hl 1 rfl rfl dX12_rule_1 ?_
  refine ml_callzV (pc := 2) (rest := []) X [.int (Int32.ofInt x1)] (by decide) rfl (ml_c215 hn) (c_X12_isMade l base D cA n hn σ x1 h_x1 _ hw) cv_X12_292 ⟨rfl, rfl⟩ ⟨by decide, by decide⟩ rfl rfl hl (Nat.le_of_ble_eq_true rfl) ⟨Nat.zero_le _, Nat.zero_le _⟩ dX12_rule_2 (fun r1 σ1 t1 hw => ?_)
  have hw := hw t1
  refine ml_if_eq (pc := 5) (tgt := 20) X t1.i dX12_rule_5 (by decide) (fun c2 => ?_) (fun c2 => ?_)
  · have hw := hw.1 c2
    exact u_X12_rule_20 X hn σ1   _ (lv_sub hl [] rfl) hw
  · have hw := hw.2 c2
    refine ml_iload_n (pc := 8) X hl 2 rfl rfl dX12_rule_8 ?_
    refine ml_i2l (pc := 9) X h_x2 dX12_rule_9 ?_
    refine ml_lconst0 (pc := 10) X dX12_rule_10 ?_
    refine ml_ldc2 (pc := 11) (v := 2) X dX12_rule_11 tc_5_143 ?_
    refine ml_callzS (pc := 14) (rest := []) X [.long (Int64.ofInt x2), .long (Int64.ofInt 0), .long (Int64.ofInt 2)] (c_X12_lies l base D cA n hn σ1 x2 0 2 (h_x2).l ⟨by decide, by decide⟩ ⟨by decide, by decide⟩ _ hw) cv_X12_143 ⟨rfl, rfl⟩ ⟨by decide, by decide⟩ rfl rfl hl (Nat.le_of_ble_eq_true rfl) ⟨Nat.zero_le _, Nat.zero_le _⟩ dX12_rule_14 (fun r3 σ3 t3 hw => ?_)
    have hw := hw t3
    refine ml_if_ne (pc := 17) (tgt := 24) X t3.i dX12_rule_17 (by decide) (fun c4 => ?_) (fun c4 => ?_)
    · have hw := hw.1 c4
      refine ml_aload_n (pc := 24) X hl 0 rfl rfl dX12_rule_24 ?_
      refine ml_iload_n (pc := 25) X hl 1 rfl rfl dX12_rule_25 ?_
      refine ml_callvV (pc := 26) (rest := []) X [.int (Int32.ofInt x1)] (by decide) rfl (ml_c215 hn) (c_X12_powers l base D cA n hn σ3 x1 h_x1 _ hw) cv_X12_322 ⟨rfl, rfl⟩ ⟨by decide, by decide⟩ rfl rfl hl (Nat.le_of_ble_eq_true rfl) ⟨Nat.zero_le _, Nat.zero_le _⟩ dX12_rule_26 (fun σ5 hw => ?_)
      refine ml_iconst (pc := 29) X dX12_rule_29 ?_
      refine ml_istore_n (pc := 30) X rfl hl (by decide) (lst' := [(3, .int (Int32.ofInt 1)), (0, .ref (base + (215 : Int).toNat)), (1, .int (Int32.ofInt x1)), (2, .int (Int32.ofInt x2))]) rfl dX12_rule_30 (fun ls hl => ?_)
      obtain ⟨N0, hw⟩ := hw
      exact u_X12_rule_31 X hn (fun σ x2 x3 h_x2 h_x3 ls hl hw => u_X12_rule_45 X hn σ x2 x3 h_x2 h_x3 ls hl hw) N0 σ5 x2 1 h_x2 ⟨by decide, by decide⟩ _ (lv_sub hl [1, 3, 0] rfl) hw
    · have hw := hw.2 c4
      exact u_X12_rule_20 X hn σ3   _ (lv_sub hl [] rfl) hw
set_option maxRecDepth 100000 in
theorem c_X12_rule (l : Launch) (base : Nat) (D : va_G) (cA : Nat → ClassId) (n : Nat) (hn : 256 ≤ n) (σ : ml_St) (x1 : Int) (x2 : Int) (h_x1 : I32 x1) (h_x2 : I32 x2) (Q : Int → ml_St → Prop) (hw : f_X12_rule σ x1 x2 Q) : Met l yX12_rule (Cond.code yX12_rule cX12_rule 7 (some .long) :: ml_T) rm_X12_rule (va_Pc [.ref (base + (215 : Int).toNat), .int (Int32.ofInt x1), .int (Int32.ofInt x2)] (ml_U base D cA n σ)) (ml_Ql base D cA n Q) 0 0 (ml_A base) := by
  refine Met.ofW (cc := cX12_rule) (maxL := 7) (ret := (some .long)) (by decide) rfl ?_
  intro p e s m args below meth c s₁ B hml hv
  obtain ⟨rfl, hP, hK, hok, hro⟩ := hv
  have X : ml_X p s m c meth _ D cA cX12_rule 7 RX12 (some .long) := ⟨B.exec, B.bytes, hml, findClass_of_methodNamed B.named, fun w hw => atoms_spec (ws := Cond.code yX12_rule cX12_rule 7 (some .long) :: ml_T) B.pre w (List.mem_cons_of_mem _ hw), hK, B.notSynchronized, B.returns⟩
  have hl := lv_entry [.ref (base + (215 : Int).toNat), .int (Int32.ofInt x1), .int (Int32.ofInt x2)] (n := 7) (Nat.le_of_ble_eq_true rfl)
  rw [lg_entry_eq]
  generalize (lg_sl [.ref (base + (215 : Int).toNat), .int (Int32.ofInt x1), .int (Int32.ofInt x2)] ++ List.replicate (7 - (lg_sl [.ref (base + (215 : Int).toNat), .int (Int32.ofInt x1), .int (Int32.ofInt x2)]).length) Slot.unset).toArray = ls at hl ⊢
  have hl : lv_has ls 7 [(0, .ref (base + (215 : Int).toNat)), (1, .int (Int32.ofInt x1)), (2, .int (Int32.ofInt x2))] := hl
  unfold f_X12_rule at hw
  exact u_X12_rule_0 X hn σ x1 x2 h_x1 h_x2 _ (lv_sub hl [0, 1, 2] rfl) hw s.heap [] hP va_S.rf hok hro
theorem dX12_isPower_0 : decode cX12_isPower 0 = .ok (.lload_n 0, 1) := by decide +kernel
theorem dX12_isPower_1 : decode cX12_isPower 1 = .ok (.lconst 1, 1) := by decide +kernel
theorem dX12_isPower_2 : decode cX12_isPower 2 = .ok (.lcmp, 1) := by decide +kernel
theorem dX12_isPower_3 : decode cX12_isPower 3 = .ok (.ifCond .lt 15, 3) := by decide +kernel
theorem dX12_isPower_6 : decode cX12_isPower 6 = .ok (.lload_n 0, 1) := by decide +kernel
theorem dX12_isPower_7 : decode cX12_isPower 7 = .ok (.ldc2_w 328, 3) := by decide +kernel
theorem dX12_isPower_10 : decode cX12_isPower 10 = .ok (.lcmp, 1) := by decide +kernel
theorem dX12_isPower_11 : decode cX12_isPower 11 = .ok (.ifCond .gt 7, 3) := by decide +kernel
theorem dX12_isPower_14 : decode cX12_isPower 14 = .ok (.iconst 1, 1) := by decide +kernel
theorem dX12_isPower_15 : decode cX12_isPower 15 = .ok (.goto 4, 3) := by decide +kernel
theorem dX12_isPower_18 : decode cX12_isPower 18 = .ok (.iconst 0, 1) := by decide +kernel
theorem dX12_isPower_19 : decode cX12_isPower 19 = .ok (.ireturn, 1) := by decide +kernel
def f_X12_isPower_u19 (Q : Int → ml_St → Prop) (σ : ml_St) (s0 : Int) : Prop :=
Q s0 σ
def f_X12_isPower_u18 (Q : Int → ml_St → Prop) (σ : ml_St) : Prop :=
f_X12_isPower_u19 Q σ 0
def f_X12_isPower_u0 (Q : Int → ml_St → Prop) (σ : ml_St) (x0 : Int) : Prop :=
(x0 < 1 →
f_X12_isPower_u18 Q σ) ∧
(¬ (x0 < 1) →
(1000000000000000000 < x0 →
f_X12_isPower_u18 Q σ) ∧
(¬ (1000000000000000000 < x0) →
f_X12_isPower_u19 Q σ 1))
def f_X12_isPower (σ : ml_St) (x0 : Int) (Q : Int → ml_St → Prop) : Prop := f_X12_isPower_u0 Q σ x0
def rm_X12_isPower : Room := { frames := 0, cells := 0, slots := 0, locals := 0 }
set_option maxRecDepth 100000 in
set_option maxHeartbeats 4000000 in
theorem u_X12_isPower_19 {p : Program} {e : Env} {s : State} {m : MethodId} {args : Array Value} {below : List Frame} {meth : Method} {c : Code} {base : Nat} {D : va_G} {cA : Nat → ClassId} {n : Nat} {l : Launch} {Q : Int → ml_St → Prop} (X : ml_X p s m c meth args D cA cX12_isPower 2 RX12 (some .boolean)) (hn : 256 ≤ n) (σ : ml_St) (s0 : Int) (h_s0 : ml_B s0) (ls : Array Slot) (hl : lv_has ls 2 []) (hw : f_X12_isPower_u19 Q σ s0) : ml_V p l e rm_X12_isPower s m args below meth c (MQ below (ml_Qi ml_B base D cA n Q) args s 0 0 (ml_A base)) base D cA 0 0 n n σ (F0 m 19 ls [.int (Int32.ofInt s0)]) := by
  unfold f_X12_isPower_u19 at hw
  exact ml_zret (pc := 19) X h_s0 hw dX12_isPower_19
set_option maxRecDepth 100000 in
set_option maxHeartbeats 4000000 in
theorem u_X12_isPower_18 {p : Program} {e : Env} {s : State} {m : MethodId} {args : Array Value} {below : List Frame} {meth : Method} {c : Code} {base : Nat} {D : va_G} {cA : Nat → ClassId} {n : Nat} {l : Launch} {Q : Int → ml_St → Prop} (X : ml_X p s m c meth args D cA cX12_isPower 2 RX12 (some .boolean)) (hn : 256 ≤ n) (σ : ml_St) (ls : Array Slot) (hl : lv_has ls 2 []) (hw : f_X12_isPower_u18 Q σ) : ml_V p l e rm_X12_isPower s m args below meth c (MQ below (ml_Qi ml_B base D cA n Q) args s 0 0 (ml_A base)) base D cA 0 0 n n σ (F0 m 18 ls []) := by
  unfold f_X12_isPower_u18 at hw
  refine ml_iconst (pc := 18) X dX12_isPower_18 ?_
  exact u_X12_isPower_19 X hn σ 0 ⟨by decide, by decide⟩ _ (lv_sub hl [] rfl) hw
set_option maxRecDepth 100000 in
set_option maxHeartbeats 4000000 in
theorem u_X12_isPower_0 {p : Program} {e : Env} {s : State} {m : MethodId} {args : Array Value} {below : List Frame} {meth : Method} {c : Code} {base : Nat} {D : va_G} {cA : Nat → ClassId} {n : Nat} {l : Launch} {Q : Int → ml_St → Prop} (X : ml_X p s m c meth args D cA cX12_isPower 2 RX12 (some .boolean)) (hn : 256 ≤ n) (σ : ml_St) (x0 : Int) (h_x0 : I64 x0) (ls : Array Slot) (hl : lv_has ls 2 [(0, .long (Int64.ofInt x0))]) (hw : f_X12_isPower_u0 Q σ x0) : ml_V p l e rm_X12_isPower s m args below meth c (MQ below (ml_Qi ml_B base D cA n Q) args s 0 0 (ml_A base)) base D cA 0 0 n n σ (F0 m 0 ls []) := by
  unfold f_X12_isPower_u0 at hw
  refine ml_lload_n (pc := 0) X hl 0 rfl rfl dX12_isPower_0 ?_
  refine ml_lconst1 (pc := 1) X dX12_isPower_1 ?_
  refine ml_lcmp_lt (pc := 2) (tgt := 18) X h_x0 ⟨by decide, by decide⟩ dX12_isPower_2 dX12_isPower_3 (by decide) (fun c1 => ?_) (fun c1 => ?_)
  · have hw := hw.1 c1
    exact u_X12_isPower_18 X hn σ   _ (lv_sub hl [] rfl) hw
  · have hw := hw.2 c1
    refine ml_lload_n (pc := 6) X hl 0 rfl rfl dX12_isPower_6 ?_
    refine ml_ldc2 (pc := 7) (v := 1000000000000000000) X dX12_isPower_7 tc_6_109 ?_
    refine ml_lcmp_gt (pc := 10) (tgt := 18) X h_x0 ⟨by decide, by decide⟩ dX12_isPower_10 dX12_isPower_11 (by decide) (fun c2 => ?_) (fun c2 => ?_)
    · have hw := hw.1 c2
      exact u_X12_isPower_18 X hn σ   _ (lv_sub hl [] rfl) hw
    · have hw := hw.2 c2
      refine ml_iconst (pc := 14) X dX12_isPower_14 ?_
      refine ml_goto (pc := 15) (tgt := 19) X dX12_isPower_15 (by decide) ?_
      exact u_X12_isPower_19 X hn σ 1 ⟨by decide, by decide⟩ _ (lv_sub hl [] rfl) hw
set_option maxRecDepth 100000 in
theorem c_X12_isPower (l : Launch) (base : Nat) (D : va_G) (cA : Nat → ClassId) (n : Nat) (hn : 256 ≤ n) (σ : ml_St) (x0 : Int) (h_x0 : I64 x0) (Q : Int → ml_St → Prop) (hw : f_X12_isPower σ x0 Q) : Met l yX12_isPower (Cond.code yX12_isPower cX12_isPower 2 (some .boolean) :: ml_T) rm_X12_isPower (va_Pc [.long (Int64.ofInt x0)] (ml_U base D cA n σ)) (ml_Qi ml_B base D cA n Q) 0 0 (ml_A base) := by
  refine Met.ofW (cc := cX12_isPower) (maxL := 2) (ret := (some .boolean)) (by decide) rfl ?_
  intro p e s m args below meth c s₁ B hml hv
  obtain ⟨rfl, hP, hK, hok, hro⟩ := hv
  have X : ml_X p s m c meth _ D cA cX12_isPower 2 RX12 (some .boolean) := ⟨B.exec, B.bytes, hml, findClass_of_methodNamed B.named, fun w hw => atoms_spec (ws := Cond.code yX12_isPower cX12_isPower 2 (some .boolean) :: ml_T) B.pre w (List.mem_cons_of_mem _ hw), hK, B.notSynchronized, B.returns⟩
  have hl := lv_entry [.long (Int64.ofInt x0)] (n := 2) (Nat.le_of_ble_eq_true rfl)
  rw [lg_entry_eq]
  generalize (lg_sl [.long (Int64.ofInt x0)] ++ List.replicate (2 - (lg_sl [.long (Int64.ofInt x0)]).length) Slot.unset).toArray = ls at hl ⊢
  have hl : lv_has ls 2 [(0, .long (Int64.ofInt x0))] := hl
  unfold f_X12_isPower at hw
  exact u_X12_isPower_0 X hn σ x0 h_x0 _ (lv_sub hl [0] rfl) hw s.heap [] hP va_S.rf hok hro
theorem dX12_left_0 : decode cX12_left 0 = .ok (.aload_n 0, 1) := by decide +kernel
theorem dX12_left_1 : decode cX12_left 1 = .ok (.iload_n 1, 1) := by decide +kernel
theorem dX12_left_2 : decode cX12_left 2 = .ok (.invokevirtual 292, 3) := by decide +kernel
theorem dX12_left_5 : decode cX12_left 5 = .ok (.ifCond .eq 10, 3) := by decide +kernel
theorem dX12_left_8 : decode cX12_left 8 = .ok (.lload_n 2, 1) := by decide +kernel
theorem dX12_left_9 : decode cX12_left 9 = .ok (.invokestatic 330, 3) := by decide +kernel
theorem dX12_left_12 : decode cX12_left 12 = .ok (.ifCond .ne 7, 3) := by decide +kernel
theorem dX12_left_15 : decode cX12_left 15 = .ok (.ldc2_w 290, 3) := by decide +kernel
theorem dX12_left_18 : decode cX12_left 18 = .ok (.lreturn, 1) := by decide +kernel
theorem dX12_left_19 : decode cX12_left 19 = .ok (.aload_n 0, 1) := by decide +kernel
theorem dX12_left_20 : decode cX12_left 20 = .ok (.iload_n 1, 1) := by decide +kernel
theorem dX12_left_21 : decode cX12_left 21 = .ok (.invokevirtual 322, 3) := by decide +kernel
theorem dX12_left_24 : decode cX12_left 24 = .ok (.lload_n 2, 1) := by decide +kernel
theorem dX12_left_25 : decode cX12_left 25 = .ok (.aload_n 0, 1) := by decide +kernel
theorem dX12_left_26 : decode cX12_left 26 = .ok (.getfield 316, 3) := by decide +kernel
theorem dX12_left_29 : decode cX12_left 29 = .ok (.i2l, 1) := by decide +kernel
theorem dX12_left_30 : decode cX12_left 30 = .ok (.lcmp, 1) := by decide +kernel
theorem dX12_left_31 : decode cX12_left 31 = .ok (.ifCond .gt 11, 3) := by decide +kernel
theorem dX12_left_34 : decode cX12_left 34 = .ok (.aload_n 0, 1) := by decide +kernel
theorem dX12_left_35 : decode cX12_left 35 = .ok (.getfield 77, 3) := by decide +kernel
theorem dX12_left_38 : decode cX12_left 38 = .ok (.lload_n 2, 1) := by decide +kernel
theorem dX12_left_39 : decode cX12_left 39 = .ok (.l2i, 1) := by decide +kernel
theorem dX12_left_40 : decode cX12_left 40 = .ok (.laload, 1) := by decide +kernel
theorem dX12_left_41 : decode cX12_left 41 = .ok (.lreturn, 1) := by decide +kernel
theorem dX12_left_42 : decode cX12_left 42 = .ok (.aload_n 0, 1) := by decide +kernel
theorem dX12_left_43 : decode cX12_left 43 = .ok (.getfield 307, 3) := by decide +kernel
theorem dX12_left_46 : decode cX12_left 46 = .ok (.lload_n 2, 1) := by decide +kernel
theorem dX12_left_47 : decode cX12_left 47 = .ok (.aload_n 0, 1) := by decide +kernel
theorem dX12_left_48 : decode cX12_left 48 = .ok (.getfield 307, 3) := by decide +kernel
theorem dX12_left_51 : decode cX12_left 51 = .ok (.i2l, 1) := by decide +kernel
theorem dX12_left_52 : decode cX12_left 52 = .ok (.lsub, 1) := by decide +kernel
theorem dX12_left_53 : decode cX12_left 53 = .ok (.aload_n 0, 1) := by decide +kernel
theorem dX12_left_54 : decode cX12_left 54 = .ok (.getfield 313, 3) := by decide +kernel
theorem dX12_left_57 : decode cX12_left 57 = .ok (.i2l, 1) := by decide +kernel
theorem dX12_left_58 : decode cX12_left 58 = .ok (.lrem, 1) := by decide +kernel
theorem dX12_left_59 : decode cX12_left 59 = .ok (.l2i, 1) := by decide +kernel
theorem dX12_left_60 : decode cX12_left 60 = .ok (.iadd, 1) := by decide +kernel
theorem dX12_left_61 : decode cX12_left 61 = .ok (.istore 4, 2) := by decide +kernel
theorem dX12_left_63 : decode cX12_left 63 = .ok (.aload_n 0, 1) := by decide +kernel
theorem dX12_left_64 : decode cX12_left 64 = .ok (.getfield 77, 3) := by decide +kernel
theorem dX12_left_67 : decode cX12_left 67 = .ok (.iload 4, 2) := by decide +kernel
theorem dX12_left_69 : decode cX12_left 69 = .ok (.laload, 1) := by decide +kernel
theorem dX12_left_70 : decode cX12_left 70 = .ok (.lload_n 2, 1) := by decide +kernel
theorem dX12_left_71 : decode cX12_left 71 = .ok (.iload 4, 2) := by decide +kernel
theorem dX12_left_73 : decode cX12_left 73 = .ok (.i2l, 1) := by decide +kernel
theorem dX12_left_74 : decode cX12_left 74 = .ok (.lsub, 1) := by decide +kernel
theorem dX12_left_75 : decode cX12_left 75 = .ok (.aload_n 0, 1) := by decide +kernel
theorem dX12_left_76 : decode cX12_left 76 = .ok (.getfield 313, 3) := by decide +kernel
theorem dX12_left_79 : decode cX12_left 79 = .ok (.i2l, 1) := by decide +kernel
theorem dX12_left_80 : decode cX12_left 80 = .ok (.ldiv, 1) := by decide +kernel
theorem dX12_left_81 : decode cX12_left 81 = .ok (.aload_n 0, 1) := by decide +kernel
theorem dX12_left_82 : decode cX12_left 82 = .ok (.getfield 319, 3) := by decide +kernel
theorem dX12_left_85 : decode cX12_left 85 = .ok (.invokestatic 210, 3) := by decide +kernel
theorem dX12_left_88 : decode cX12_left 88 = .ok (.invokestatic 214, 3) := by decide +kernel
theorem dX12_left_91 : decode cX12_left 91 = .ok (.lreturn, 1) := by decide +kernel
def f_X12_left_u15 (Q : Int → ml_St → Prop) (σ : ml_St) : Prop :=
Q (-1) σ
def f_X12_left_u0 (Q : Int → ml_St → Prop) (σ : ml_St) (x1 : Int) (x2 : Int) : Prop :=
f_X12_isMade σ x1 (fun r1 σ1 => ∀ _ : ml_B r1,
(r1 = 0 →
f_X12_left_u15 Q σ1) ∧
(r1 ≠ 0 →
f_X12_isPower σ1 x2 (fun r3 σ3 => ∀ _ : ml_B r3,
(r3 ≠ 0 →
f_X12_powers σ3 x1 (fun σ5 =>
∀ _ : I32 (σ5 215 34),
((σ5 215 34) < x2 →
∀ _ : I32 (σ5 215 32),
∀ _ : I32 (σ5 215 32),
∀ _ : I32 (σ5 215 33),
((σ5 215 33) : Int) ≠ 0 ∧
I32 ((σ5 215 32) + (b_l2i (Int.tmod (w64 (x2 - (σ5 215 32))) (σ5 215 33)))) ∧
∀ y14 : Int, y14 = (σ5 215 32) + (b_l2i (Int.tmod (w64 (x2 - (σ5 215 32))) (σ5 215 33))) →
(0 : Int) ≤ y14 ∧ (y14 : Int) < 2900 ∧
∀ _ : I64 (σ5 236 y14),
∀ _ : I32 (σ5 215 33),
((σ5 215 33) : Int) ≠ 0 ∧
∀ _ : I64 (σ5 215 35),
f_X12_times σ5 (w64 (Int.tdiv (w64 (x2 - y14)) (σ5 215 33))) (σ5 215 35) (fun r20 σ20 => ∀ _ : I64 r20,
f_X12_plus σ20 (σ5 236 y14) r20 (fun r21 σ21 => ∀ _ : I64 r21,
Q r21 σ21))) ∧
(¬ ((σ5 215 34) < x2) →
(0 : Int) ≤ (b_l2i x2) ∧ ((b_l2i x2) : Int) < 2900 ∧
∀ _ : I64 (σ5 236 (b_l2i x2)),
Q (σ5 236 (b_l2i x2)) σ5))) ∧
(r3 = 0 →
f_X12_left_u15 Q σ3))))
def f_X12_left (σ : ml_St) (x1 : Int) (x2 : Int) (Q : Int → ml_St → Prop) : Prop := f_X12_left_u0 Q σ x1 x2
def rm_X12_left : Room := { frames := 4, cells := 0, slots := 0, locals := 86 }
set_option maxRecDepth 100000 in
set_option maxHeartbeats 4000000 in
theorem u_X12_left_15 {p : Program} {e : Env} {s : State} {m : MethodId} {args : Array Value} {below : List Frame} {meth : Method} {c : Code} {base : Nat} {D : va_G} {cA : Nat → ClassId} {n : Nat} {l : Launch} {Q : Int → ml_St → Prop} (X : ml_X p s m c meth args D cA cX12_left 5 RX12 (some .long)) (hn : 256 ≤ n) (σ : ml_St) (ls : Array Slot) (hl : lv_has ls 5 []) (hw : f_X12_left_u15 Q σ) : ml_V p l e rm_X12_left s m args below meth c (MQ below (ml_Ql base D cA n Q) args s 0 0 (ml_A base)) base D cA 0 0 n n σ (F0 m 15 ls []) := by
  unfold f_X12_left_u15 at hw
  refine ml_ldc2 (pc := 15) (v := (-1)) X dX12_left_15 tc_6_52 ?_
  exact ml_lret (pc := 18) X ⟨by decide, by decide⟩ hw dX12_left_18
set_option maxRecDepth 100000 in
set_option maxHeartbeats 4000000 in
theorem u_X12_left_0 {p : Program} {e : Env} {s : State} {m : MethodId} {args : Array Value} {below : List Frame} {meth : Method} {c : Code} {base : Nat} {D : va_G} {cA : Nat → ClassId} {n : Nat} {l : Launch} {Q : Int → ml_St → Prop} (X : ml_X p s m c meth args D cA cX12_left 5 RX12 (some .long)) (hn : 256 ≤ n) (σ : ml_St) (x1 : Int) (x2 : Int) (h_x1 : I32 x1) (h_x2 : I64 x2) (ls : Array Slot) (hl : lv_has ls 5 [(0, .ref (base + (215 : Int).toNat)), (1, .int (Int32.ofInt x1)), (2, .long (Int64.ofInt x2))]) (hw : f_X12_left_u0 Q σ x1 x2) : ml_V p l e rm_X12_left s m args below meth c (MQ below (ml_Ql base D cA n Q) args s 0 0 (ml_A base)) base D cA 0 0 n n σ (F0 m 0 ls []) := by
  unfold f_X12_left_u0 at hw
  refine ml_aload_n (pc := 0) X hl 0 rfl rfl dX12_left_0 ?_
  refine ml_iload_n (pc := 1) X hl 1 rfl rfl dX12_left_1 ?_
  refine ml_callzV (pc := 2) (rest := []) X [.int (Int32.ofInt x1)] (by decide) rfl (ml_c215 hn) (c_X12_isMade l base D cA n hn σ x1 h_x1 _ hw) cv_X12_292 ⟨rfl, rfl⟩ ⟨by decide, by decide⟩ rfl rfl hl (Nat.le_of_ble_eq_true rfl) ⟨Nat.zero_le _, Nat.zero_le _⟩ dX12_left_2 (fun r1 σ1 t1 hw => ?_)
  have hw := hw t1
  refine ml_if_eq (pc := 5) (tgt := 15) X t1.i dX12_left_5 (by decide) (fun c2 => ?_) (fun c2 => ?_)
  · have hw := hw.1 c2
    exact u_X12_left_15 X hn σ1   _ (lv_sub hl [] rfl) hw
  · have hw := hw.2 c2
    refine ml_lload_n (pc := 8) X hl 2 rfl rfl dX12_left_8 ?_
    refine ml_callzS (pc := 9) (rest := []) X [.long (Int64.ofInt x2)] (c_X12_isPower l base D cA n hn σ1 x2 h_x2 _ hw) cv_X12_330 ⟨rfl, rfl⟩ ⟨by decide, by decide⟩ rfl rfl hl (Nat.le_of_ble_eq_true rfl) ⟨Nat.zero_le _, Nat.zero_le _⟩ dX12_left_9 (fun r3 σ3 t3 hw => ?_)
    have hw := hw t3
    refine ml_if_ne (pc := 12) (tgt := 19) X t3.i dX12_left_12 (by decide) (fun c4 => ?_) (fun c4 => ?_)
    · have hw := hw.1 c4
      refine ml_aload_n (pc := 19) X hl 0 rfl rfl dX12_left_19 ?_
      refine ml_iload_n (pc := 20) X hl 1 rfl rfl dX12_left_20 ?_
      refine ml_callvV (pc := 21) (rest := []) X [.int (Int32.ofInt x1)] (by decide) rfl (ml_c215 hn) (c_X12_powers l base D cA n hn σ3 x1 h_x1 _ hw) cv_X12_322 ⟨rfl, rfl⟩ ⟨by decide, by decide⟩ rfl rfl hl (Nat.le_of_ble_eq_true rfl) ⟨Nat.zero_le _, Nat.zero_le _⟩ dX12_left_21 (fun σ5 hw => ?_)
      refine ml_lload_n (pc := 24) X hl 2 rfl rfl dX12_left_24 ?_
      refine ml_aload_n (pc := 25) X hl 0 rfl rfl dX12_left_25 ?_
      refine gf_X12_316 (pc := 26) X (ml_c215 hn) dX12_left_26 (fun r6 => ?_)
      have hw := hw r6
      refine ml_i2l (pc := 29) X r6 dX12_left_29 ?_
      refine ml_lcmp_gt (pc := 30) (tgt := 42) X h_x2 (r6).l dX12_left_30 dX12_left_31 (by decide) (fun c7 => ?_) (fun c7 => ?_)
      · have hw := hw.1 c7
        refine ml_aload_n (pc := 42) X hl 0 rfl rfl dX12_left_42 ?_
        refine gf_X12_307 (pc := 43) X (ml_c215 hn) dX12_left_43 (fun r8 => ?_)
        have hw := hw r8
        refine ml_lload_n (pc := 46) X hl 2 rfl rfl dX12_left_46 ?_
        refine ml_aload_n (pc := 47) X hl 0 rfl rfl dX12_left_47 ?_
        refine gf_X12_307 (pc := 48) X (ml_c215 hn) dX12_left_48 (fun r9 => ?_)
        have hw := hw r9
        refine ml_i2l (pc := 51) X r9 dX12_left_51 ?_
        refine ml_lsubW (pc := 52) X dX12_left_52 ?_
        refine ml_aload_n (pc := 53) X hl 0 rfl rfl dX12_left_53 ?_
        refine gf_X12_313 (pc := 54) X (ml_c215 hn) dX12_left_54 (fun r11 => ?_)
        have hw := hw r11
        refine ml_i2l (pc := 57) X r11 dX12_left_57 ?_
        obtain ⟨z12, hw⟩ := hw
        refine ml_lrem (pc := 58) X (w64_r _) (r11).l z12 dX12_left_58 ?_
        refine ml_l2i (pc := 59) X dX12_left_59 ?_
        obtain ⟨v13, hw⟩ := hw
        refine ml_iadd (pc := 60) X dX12_left_60 ?_
        refine ml_topI (pc := 61) (fun y14 e14 => ?_)
        have hw := hw y14 e14
        have q14 : I32 y14 := by rw [e14]; exact v13
        refine ml_istore (pc := 61) X hl (by decide) (lst' := [(4, .int (Int32.ofInt y14)), (0, .ref (base + (215 : Int).toNat)), (1, .int (Int32.ofInt x1)), (2, .long (Int64.ofInt x2))]) rfl dX12_left_61 (fun ls hl => ?_)
        refine ml_aload_n (pc := 63) X hl 1 rfl rfl dX12_left_63 ?_
        refine gf_X12_77 (pc := 64) X (ml_c215 hn) dX12_left_64 ?_
        refine ml_iload (pc := 67) X hl 0 rfl dX12_left_67 ?_
        obtain ⟨a15, b15, hw⟩ := hw
        refine ml_lald (pc := 69) (N := 2900) X (ml_c236 hn) a15 b15 dX12_left_69 (fun r15 => ?_)
        have hw := hw r15
        refine ml_lload_n (pc := 70) X hl 3 rfl rfl dX12_left_70 ?_
        refine ml_iload (pc := 71) X hl 0 rfl dX12_left_71 ?_
        refine ml_i2l (pc := 73) X q14 dX12_left_73 ?_
        refine ml_lsubW (pc := 74) X dX12_left_74 ?_
        refine ml_aload_n (pc := 75) X hl 1 rfl rfl dX12_left_75 ?_
        refine gf_X12_313 (pc := 76) X (ml_c215 hn) dX12_left_76 (fun r17 => ?_)
        have hw := hw r17
        refine ml_i2l (pc := 79) X r17 dX12_left_79 ?_
        obtain ⟨z18, hw⟩ := hw
        refine ml_ldivW (pc := 80) X (w64_r _) (r17).l z18 dX12_left_80 ?_
        refine ml_aload_n (pc := 81) X hl 1 rfl rfl dX12_left_81 ?_
        refine gf_X12_319 (pc := 82) X (ml_c215 hn) dX12_left_82 (fun r19 => ?_)
        have hw := hw r19
        refine ml_calllS (pc := 85) (rest := [.long (Int64.ofInt (σ5 236 y14))]) X [.long (Int64.ofInt (w64 (Int.tdiv (w64 (x2 - y14)) (σ5 215 33)))), .long (Int64.ofInt (σ5 215 35))] (c_X12_times l base D cA n hn σ5 (w64 (Int.tdiv (w64 (x2 - y14)) (σ5 215 33))) (σ5 215 35) (w64_r _) r19 _ hw) cv_X12_210 ⟨rfl, rfl⟩ ⟨by decide, by decide⟩ rfl rfl hl (Nat.le_of_ble_eq_true rfl) ⟨Nat.zero_le _, Nat.zero_le _⟩ dX12_left_85 (fun r20 σ20 t20 hw => ?_)
        have hw := hw t20
        refine ml_calllS (pc := 88) (rest := []) X [.long (Int64.ofInt (σ5 236 y14)), .long (Int64.ofInt r20)] (c_X12_plus l base D cA n hn σ20 (σ5 236 y14) r20 r15 t20 _ hw) cv_X12_214 ⟨rfl, rfl⟩ ⟨by decide, by decide⟩ rfl rfl hl (Nat.le_of_ble_eq_true rfl) ⟨Nat.zero_le _, Nat.zero_le _⟩ dX12_left_88 (fun r21 σ21 t21 hw => ?_)
        have hw := hw t21
        exact ml_lret (pc := 91) X t21 hw dX12_left_91
      · have hw := hw.2 c7
        refine ml_aload_n (pc := 34) X hl 0 rfl rfl dX12_left_34 ?_
        refine gf_X12_77 (pc := 35) X (ml_c215 hn) dX12_left_35 ?_
        refine ml_lload_n (pc := 38) X hl 2 rfl rfl dX12_left_38 ?_
        refine ml_l2i (pc := 39) X dX12_left_39 ?_
        obtain ⟨a22, b22, hw⟩ := hw
        refine ml_lald (pc := 40) (N := 2900) X (ml_c236 hn) a22 b22 dX12_left_40 (fun r22 => ?_)
        have hw := hw r22
        exact ml_lret (pc := 41) X r22 hw dX12_left_41
    · have hw := hw.2 c4
      exact u_X12_left_15 X hn σ3   _ (lv_sub hl [] rfl) hw
set_option maxRecDepth 100000 in
theorem c_X12_left (l : Launch) (base : Nat) (D : va_G) (cA : Nat → ClassId) (n : Nat) (hn : 256 ≤ n) (σ : ml_St) (x1 : Int) (x2 : Int) (h_x1 : I32 x1) (h_x2 : I64 x2) (Q : Int → ml_St → Prop) (hw : f_X12_left σ x1 x2 Q) : Met l yX12_left (Cond.code yX12_left cX12_left 5 (some .long) :: ml_T) rm_X12_left (va_Pc [.ref (base + (215 : Int).toNat), .int (Int32.ofInt x1), .long (Int64.ofInt x2)] (ml_U base D cA n σ)) (ml_Ql base D cA n Q) 0 0 (ml_A base) := by
  refine Met.ofW (cc := cX12_left) (maxL := 5) (ret := (some .long)) (by decide) rfl ?_
  intro p e s m args below meth c s₁ B hml hv
  obtain ⟨rfl, hP, hK, hok, hro⟩ := hv
  have X : ml_X p s m c meth _ D cA cX12_left 5 RX12 (some .long) := ⟨B.exec, B.bytes, hml, findClass_of_methodNamed B.named, fun w hw => atoms_spec (ws := Cond.code yX12_left cX12_left 5 (some .long) :: ml_T) B.pre w (List.mem_cons_of_mem _ hw), hK, B.notSynchronized, B.returns⟩
  have hl := lv_entry [.ref (base + (215 : Int).toNat), .int (Int32.ofInt x1), .long (Int64.ofInt x2)] (n := 5) (Nat.le_of_ble_eq_true rfl)
  rw [lg_entry_eq]
  generalize (lg_sl [.ref (base + (215 : Int).toNat), .int (Int32.ofInt x1), .long (Int64.ofInt x2)] ++ List.replicate (5 - (lg_sl [.ref (base + (215 : Int).toNat), .int (Int32.ofInt x1), .long (Int64.ofInt x2)]).length) Slot.unset).toArray = ls at hl ⊢
  have hl : lv_has ls 5 [(0, .ref (base + (215 : Int).toNat)), (1, .int (Int32.ofInt x1)), (2, .long (Int64.ofInt x2))] := hl
  unfold f_X12_left at hw
  exact u_X12_left_0 X hn σ x1 x2 h_x1 h_x2 _ (lv_sub hl [0, 1, 2] rfl) hw s.heap [] hP va_S.rf hok hro
