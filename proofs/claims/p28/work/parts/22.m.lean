theorem dX12_check_0 : decode cX12_check 0 = .ok (.aload_n 0, 1) := by decide +kernel
theorem dX12_check_1 : decode cX12_check 1 = .ok (.iload_n 1, 1) := by decide +kernel
theorem dX12_check_2 : decode cX12_check 2 = .ok (.invokevirtual 292, 3) := by decide +kernel
theorem dX12_check_5 : decode cX12_check 5 = .ok (.ifCond .eq 16, 3) := by decide +kernel
theorem dX12_check_8 : decode cX12_check 8 = .ok (.aload_n 0, 1) := by decide +kernel
theorem dX12_check_9 : decode cX12_check 9 = .ok (.getfield 155, 3) := by decide +kernel
theorem dX12_check_12 : decode cX12_check 12 = .ok (.iconst 2, 1) := by decide +kernel
theorem dX12_check_13 : decode cX12_check 13 = .ok (.aload_n 0, 1) := by decide +kernel
theorem dX12_check_14 : decode cX12_check 14 = .ok (.getfield 13, 3) := by decide +kernel
theorem dX12_check_17 : decode cX12_check 17 = .ok (.imul, 1) := by decide +kernel
theorem dX12_check_18 : decode cX12_check 18 = .ok (.if_icmp .ge 6, 3) := by decide +kernel
theorem dX12_check_21 : decode cX12_check 21 = .ok (.bipush (-2), 2) := by decide +kernel
theorem dX12_check_23 : decode cX12_check 23 = .ok (.ireturn, 1) := by decide +kernel
theorem dX12_check_24 : decode cX12_check 24 = .ok (.aload_n 0, 1) := by decide +kernel
theorem dX12_check_25 : decode cX12_check 25 = .ok (.iconst 0, 1) := by decide +kernel
theorem dX12_check_26 : decode cX12_check 26 = .ok (.putfield 155, 3) := by decide +kernel
theorem dX12_check_29 : decode cX12_check 29 = .ok (.iconst 0, 1) := by decide +kernel
theorem dX12_check_30 : decode cX12_check 30 = .ok (.istore_n 2, 1) := by decide +kernel
theorem dX12_check_31 : decode cX12_check 31 = .ok (.iload_n 2, 1) := by decide +kernel
theorem dX12_check_32 : decode cX12_check 32 = .ok (.iconst 2, 1) := by decide +kernel
theorem dX12_check_33 : decode cX12_check 33 = .ok (.aload_n 0, 1) := by decide +kernel
theorem dX12_check_34 : decode cX12_check 34 = .ok (.getfield 13, 3) := by decide +kernel
theorem dX12_check_37 : decode cX12_check 37 = .ok (.imul, 1) := by decide +kernel
theorem dX12_check_38 : decode cX12_check 38 = .ok (.if_icmp .ge 35, 3) := by decide +kernel
theorem dX12_check_41 : decode cX12_check 41 = .ok (.aload_n 0, 1) := by decide +kernel
theorem dX12_check_42 : decode cX12_check 42 = .ok (.getfield 49, 3) := by decide +kernel
theorem dX12_check_45 : decode cX12_check 45 = .ok (.bipush 10, 2) := by decide +kernel
theorem dX12_check_47 : decode cX12_check 47 = .ok (.iload_n 1, 1) := by decide +kernel
theorem dX12_check_48 : decode cX12_check 48 = .ok (.imul, 1) := by decide +kernel
theorem dX12_check_49 : decode cX12_check 49 = .ok (.iload_n 2, 1) := by decide +kernel
theorem dX12_check_50 : decode cX12_check 50 = .ok (.iadd, 1) := by decide +kernel
theorem dX12_check_51 : decode cX12_check 51 = .ok (.iaload, 1) := by decide +kernel
theorem dX12_check_52 : decode cX12_check 52 = .ok (.aload_n 0, 1) := by decide +kernel
theorem dX12_check_53 : decode cX12_check 53 = .ok (.getfield 7, 3) := by decide +kernel
theorem dX12_check_56 : decode cX12_check 56 = .ok (.iload_n 2, 1) := by decide +kernel
theorem dX12_check_57 : decode cX12_check 57 = .ok (.baload, 1) := by decide +kernel
theorem dX12_check_58 : decode cX12_check 58 = .ok (.sipush 255, 3) := by decide +kernel
theorem dX12_check_61 : decode cX12_check 61 = .ok (.iand, 1) := by decide +kernel
theorem dX12_check_62 : decode cX12_check 62 = .ok (.if_icmp .eq 5, 3) := by decide +kernel
theorem dX12_check_65 : decode cX12_check 65 = .ok (.iload_n 2, 1) := by decide +kernel
theorem dX12_check_66 : decode cX12_check 66 = .ok (.ireturn, 1) := by decide +kernel
theorem dX12_check_67 : decode cX12_check 67 = .ok (.iinc 2 1, 3) := by decide +kernel
theorem dX12_check_70 : decode cX12_check 70 = .ok (.goto (-39), 3) := by decide +kernel
theorem dX12_check_73 : decode cX12_check 73 = .ok (.iconst (-1), 1) := by decide +kernel
theorem dX12_check_74 : decode cX12_check 74 = .ok (.ireturn, 1) := by decide +kernel
def f_X12_check_u21 (Q : Int → ml_St → Prop) (σ : ml_St) : Prop :=
Q (-2) σ
def f_X12_check_u31 (Q : Int → ml_St → Prop) (K65 : ml_St → Int → Prop) (K73 : ml_St → Prop) : Nat → ml_St → Int → Int → Prop
| 0, _, _, _ => False
| N + 1, σ, x1, x2 =>
∀ _ : I32 (σ 215 2),
I32 (2 * (σ 215 2)) ∧
((2 * (σ 215 2)) ≤ x2 →
K73 σ) ∧
(¬ ((2 * (σ 215 2)) ≤ x2) →
I32 (10 * x1) ∧
I32 ((10 * x1) + x2) ∧
(0 : Int) ≤ ((10 * x1) + x2) ∧ (((10 * x1) + x2) : Int) < 640 ∧
∀ _ : I32 (σ 227 ((10 * x1) + x2)),
(0 : Int) ≤ x2 ∧ (x2 : Int) < 200 ∧
∀ _ : ml_I8 (σ 216 x2),
(((σ 227 ((10 * x1) + x2)) : Int) = (b_and (σ 216 x2) 255) →
I32 (x2 + 1) ∧
∀ y9 : Int, y9 = x2 + 1 →
f_X12_check_u31 Q K65 K73 N σ x1 y9) ∧
((σ 227 ((10 * x1) + x2)) ≠ (b_and (σ 216 x2) 255) →
K65 σ x2))
def f_X12_check_u65 (Q : Int → ml_St → Prop) (σ : ml_St) (x2 : Int) : Prop :=
Q x2 σ
def f_X12_check_u73 (Q : Int → ml_St → Prop) (σ : ml_St) : Prop :=
Q (-1) σ
def f_X12_check_u0 (Q : Int → ml_St → Prop) (σ : ml_St) (x1 : Int) : Prop :=
f_X12_isMade σ x1 (fun r1 σ1 => ∀ _ : ml_B r1,
(r1 = 0 →
f_X12_check_u21 Q σ1) ∧
(r1 ≠ 0 →
∀ _ : I32 (σ1 215 1),
∀ _ : I32 (σ1 215 2),
I32 (2 * (σ1 215 2)) ∧
((2 * (σ1 215 2)) ≤ ((σ1 215 1) : Int) →
∀ σ7, σ7 = ml_up σ1 215 1 0 →
∃ N1, f_X12_check_u31 Q (f_X12_check_u65 Q) (f_X12_check_u73 Q) N1 σ7 x1 0) ∧
(¬ ((2 * (σ1 215 2)) ≤ ((σ1 215 1) : Int)) →
f_X12_check_u21 Q σ1)))
def f_X12_check (σ : ml_St) (x1 : Int) (Q : Int → ml_St → Prop) : Prop := f_X12_check_u0 Q σ x1
def rm_X12_check : Room := { frames := 4, cells := 0, slots := 0, locals := 86 }
set_option maxRecDepth 100000 in
set_option maxHeartbeats 4000000 in
theorem u_X12_check_21 {p : Program} {e : Env} {s : State} {m : MethodId} {args : Array Value} {below : List Frame} {meth : Method} {c : Code} {base : Nat} {D : va_G} {cA : Nat → ClassId} {n : Nat} {l : Launch} {Q : Int → ml_St → Prop} (X : ml_X p s m c meth args D cA cX12_check 3 RX12 (some .int)) (hn : 256 ≤ n) (σ : ml_St) (ls : Array Slot) (hl : lv_has ls 3 []) (hw : f_X12_check_u21 Q σ) : ml_V p l e rm_X12_check s m args below meth c (MQ below (ml_Qi I32 base D cA n Q) args s 0 0 (ml_A base)) base D cA 0 0 n n σ (F0 m 21 ls []) := by
  unfold f_X12_check_u21 at hw
  refine ml_bipush (pc := 21) X dX12_check_21 (by decide) ?_
  exact ml_iret (pc := 23) X ⟨by decide, by decide⟩ hw dX12_check_23
set_option maxRecDepth 100000 in
set_option maxHeartbeats 4000000 in
theorem u_X12_check_31 {p : Program} {e : Env} {s : State} {m : MethodId} {args : Array Value} {below : List Frame} {meth : Method} {c : Code} {base : Nat} {D : va_G} {cA : Nat → ClassId} {n : Nat} {l : Launch} {Q : Int → ml_St → Prop} {K65 : ml_St → Int → Prop} {K73 : ml_St → Prop} (X : ml_X p s m c meth args D cA cX12_check 3 RX12 (some .int)) (hn : 256 ≤ n) (hK65 : ∀ (σ : ml_St) (x2 : Int) (h_x2 : I32 x2) (ls : Array Slot), lv_has ls 3 [(2, .int (Int32.ofInt x2))] → K65 σ x2 → ml_V p l e rm_X12_check s m args below meth c (MQ below (ml_Qi I32 base D cA n Q) args s 0 0 (ml_A base)) base D cA 0 0 n n σ (F0 m 65 ls [])) (hK73 : ∀ (σ : ml_St) (ls : Array Slot), lv_has ls 3 [] → K73 σ → ml_V p l e rm_X12_check s m args below meth c (MQ below (ml_Qi I32 base D cA n Q) args s 0 0 (ml_A base)) base D cA 0 0 n n σ (F0 m 73 ls [])) : ∀ (N : Nat) (σ : ml_St) (x1 : Int) (x2 : Int) (h_x1 : I32 x1) (h_x2 : I32 x2) (ls : Array Slot), lv_has ls 3 [(0, .ref (base + (215 : Int).toNat)), (1, .int (Int32.ofInt x1)), (2, .int (Int32.ofInt x2))] → f_X12_check_u31 Q K65 K73 N σ x1 x2 → ml_V p l e rm_X12_check s m args below meth c (MQ below (ml_Qi I32 base D cA n Q) args s 0 0 (ml_A base)) base D cA 0 0 n n σ (F0 m 31 ls []) := by
  intro N
  induction N with
  | zero => intro σ x1 x2 h_x1 h_x2 ls hl hw; exact False.elim hw
  | succ N ih =>
    intro σ x1 x2 h_x1 h_x2 ls hl hw
    unfold f_X12_check_u31 at hw
    refine ml_iload_n (pc := 31) X hl 2 rfl rfl dX12_check_31 ?_
    refine ml_iconst (pc := 32) X dX12_check_32 ?_
    refine ml_aload_n (pc := 33) X hl 0 rfl rfl dX12_check_33 ?_
    refine gf_X12_13 (pc := 34) X (ml_c215 hn) dX12_check_34 (fun r1 => ?_)
    have hw := hw r1
    obtain ⟨v2, hw⟩ := hw
    refine ml_imul (pc := 37) X dX12_check_37 ?_
    refine ml_icmp_ge (pc := 38) (tgt := 73) X h_x2 v2 dX12_check_38 (by decide) (fun c3 => ?_) (fun c3 => ?_)
    · have hw := hw.1 c3
      exact hK73 σ   _ (lv_sub hl [] rfl) hw
    · have hw := hw.2 c3
      refine ml_aload_n (pc := 41) X hl 0 rfl rfl dX12_check_41 ?_
      refine gf_X12_49 (pc := 42) X (ml_c215 hn) dX12_check_42 ?_
      refine ml_bipush (pc := 45) X dX12_check_45 (by decide) ?_
      refine ml_iload_n (pc := 47) X hl 1 rfl rfl dX12_check_47 ?_
      obtain ⟨v4, hw⟩ := hw
      refine ml_imul (pc := 48) X dX12_check_48 ?_
      refine ml_iload_n (pc := 49) X hl 2 rfl rfl dX12_check_49 ?_
      obtain ⟨v5, hw⟩ := hw
      refine ml_iadd (pc := 50) X dX12_check_50 ?_
      obtain ⟨a6, b6, hw⟩ := hw
      refine ml_iald (pc := 51) (N := 640) X (ml_c227 hn) a6 b6 dX12_check_51 (fun r6 => ?_)
      have hw := hw r6
      refine ml_aload_n (pc := 52) X hl 0 rfl rfl dX12_check_52 ?_
      refine gf_X12_7 (pc := 53) X (ml_c215 hn) dX12_check_53 ?_
      refine ml_iload_n (pc := 56) X hl 2 rfl rfl dX12_check_56 ?_
      obtain ⟨a7, b7, hw⟩ := hw
      refine ml_bald (pc := 57) (N := 200) X (ml_c216 hn) a7 b7 dX12_check_57 (fun r7 => ?_)
      have hw := hw r7
      refine ml_sipush (pc := 58) X dX12_check_58 (by decide) ?_
      refine ml_iand (pc := 61) X dX12_check_61 ?_
      refine ml_icmp_eq (pc := 62) (tgt := 67) X r6 (b_and_r _ _) dX12_check_62 (by decide) (fun c8 => ?_) (fun c8 => ?_)
      · have hw := hw.1 c8
        obtain ⟨v9, hw⟩ := hw
        obtain ⟨y9, e9⟩ : ∃ y : Int, y = x2 + 1 := ⟨_, rfl⟩
        have hw := hw y9 e9
        rw [← e9] at v9
        refine ml_iinc (pc := 67) X e9 hl 2 rfl (by decide) (lst' := [(2, .int (Int32.ofInt y9)), (0, .ref (base + (215 : Int).toNat)), (1, .int (Int32.ofInt x1))]) rfl dX12_check_67 (fun ls hl => ?_)
        refine ml_goto (pc := 70) (tgt := 31) X dX12_check_70 (by decide) ?_
        exact ih σ x1 y9 h_x1 v9 _ (lv_sub hl [1, 2, 0] rfl) hw
      · have hw := hw.2 c8
        exact hK65 σ x2 h_x2 _ (lv_sub hl [2] rfl) hw
set_option maxRecDepth 100000 in
set_option maxHeartbeats 4000000 in
theorem u_X12_check_65 {p : Program} {e : Env} {s : State} {m : MethodId} {args : Array Value} {below : List Frame} {meth : Method} {c : Code} {base : Nat} {D : va_G} {cA : Nat → ClassId} {n : Nat} {l : Launch} {Q : Int → ml_St → Prop} (X : ml_X p s m c meth args D cA cX12_check 3 RX12 (some .int)) (hn : 256 ≤ n) (σ : ml_St) (x2 : Int) (h_x2 : I32 x2) (ls : Array Slot) (hl : lv_has ls 3 [(2, .int (Int32.ofInt x2))]) (hw : f_X12_check_u65 Q σ x2) : ml_V p l e rm_X12_check s m args below meth c (MQ below (ml_Qi I32 base D cA n Q) args s 0 0 (ml_A base)) base D cA 0 0 n n σ (F0 m 65 ls []) := by
  unfold f_X12_check_u65 at hw
  refine ml_iload_n (pc := 65) X hl 0 rfl rfl dX12_check_65 ?_
  exact ml_iret (pc := 66) X h_x2 hw dX12_check_66
set_option maxRecDepth 100000 in
set_option maxHeartbeats 4000000 in
theorem u_X12_check_73 {p : Program} {e : Env} {s : State} {m : MethodId} {args : Array Value} {below : List Frame} {meth : Method} {c : Code} {base : Nat} {D : va_G} {cA : Nat → ClassId} {n : Nat} {l : Launch} {Q : Int → ml_St → Prop} (X : ml_X p s m c meth args D cA cX12_check 3 RX12 (some .int)) (hn : 256 ≤ n) (σ : ml_St) (ls : Array Slot) (hl : lv_has ls 3 []) (hw : f_X12_check_u73 Q σ) : ml_V p l e rm_X12_check s m args below meth c (MQ below (ml_Qi I32 base D cA n Q) args s 0 0 (ml_A base)) base D cA 0 0 n n σ (F0 m 73 ls []) := by
  unfold f_X12_check_u73 at hw
  refine ml_iconst (pc := 73) X dX12_check_73 ?_
  exact ml_iret (pc := 74) X ⟨by decide, by decide⟩ hw dX12_check_74
set_option maxRecDepth 100000 in
set_option maxHeartbeats 4000000 in
theorem u_X12_check_0 {p : Program} {e : Env} {s : State} {m : MethodId} {args : Array Value} {below : List Frame} {meth : Method} {c : Code} {base : Nat} {D : va_G} {cA : Nat → ClassId} {n : Nat} {l : Launch} {Q : Int → ml_St → Prop} (X : ml_X p s m c meth args D cA cX12_check 3 RX12 (some .int)) (hn : 256 ≤ n) (σ : ml_St) (x1 : Int) (h_x1 : I32 x1) (ls : Array Slot) (hl : lv_has ls 3 [(0, .ref (base + (215 : Int).toNat)), (1, .int (Int32.ofInt x1))]) (hw : f_X12_check_u0 Q σ x1) : ml_V p l e rm_X12_check s m args below meth c (MQ below (ml_Qi I32 base D cA n Q) args s 0 0 (ml_A base)) base D cA 0 0 n n σ (F0 m 0 ls []) := by
  unfold f_X12_check_u0 at hw
  refine ml_aload_n (pc := 0) X hl 0 rfl rfl dX12_check_0 ?_
  refine ml_iload_n (pc := 1) X hl 1 rfl rfl dX12_check_1 ?_
  refine ml_callzV (pc := 2) (rest := []) X [.int (Int32.ofInt x1)] (by decide) rfl (ml_c215 hn) (c_X12_isMade l base D cA n hn σ x1 h_x1 _ hw) cv_X12_292 ⟨rfl, rfl⟩ ⟨by decide, by decide⟩ rfl rfl hl (Nat.le_of_ble_eq_true rfl) ⟨Nat.zero_le _, Nat.zero_le _⟩ dX12_check_2 (fun r1 σ1 t1 hw => ?_)
  have hw := hw t1
  refine ml_if_eq (pc := 5) (tgt := 21) X t1.i dX12_check_5 (by decide) (fun c2 => ?_) (fun c2 => ?_)
  · have hw := hw.1 c2
    exact u_X12_check_21 X hn σ1   _ (lv_sub hl [] rfl) hw
  · have hw := hw.2 c2
    refine ml_aload_n (pc := 8) X hl 0 rfl rfl dX12_check_8 ?_
    refine gf_X12_155 (pc := 9) X (ml_c215 hn) dX12_check_9 (fun r3 => ?_)
    have hw := hw r3
    refine ml_iconst (pc := 12) X dX12_check_12 ?_
    refine ml_aload_n (pc := 13) X hl 0 rfl rfl dX12_check_13 ?_
    refine gf_X12_13 (pc := 14) X (ml_c215 hn) dX12_check_14 (fun r4 => ?_)
    have hw := hw r4
    obtain ⟨v5, hw⟩ := hw
    refine ml_imul (pc := 17) X dX12_check_17 ?_
    refine ml_icmp_ge (pc := 18) (tgt := 24) X r3 v5 dX12_check_18 (by decide) (fun c6 => ?_) (fun c6 => ?_)
    · have hw := hw.1 c6
      refine ml_aload_n (pc := 24) X hl 0 rfl rfl dX12_check_24 ?_
      refine ml_iconst (pc := 25) X dX12_check_25 ?_
      refine pf_X12_155 (pc := 26) X (ml_c215 hn) ⟨by decide, by decide⟩ dX12_check_26 (fun σ7 g7 => ?_)
      have hw := hw σ7 g7
      refine ml_iconst (pc := 29) X dX12_check_29 ?_
      refine ml_istore_n (pc := 30) X rfl hl (by decide) (lst' := [(2, .int (Int32.ofInt 0)), (0, .ref (base + (215 : Int).toNat)), (1, .int (Int32.ofInt x1))]) rfl dX12_check_30 (fun ls hl => ?_)
      obtain ⟨N0, hw⟩ := hw
      exact u_X12_check_31 X hn (fun σ x2 h_x2 ls hl hw => u_X12_check_65 X hn σ x2 h_x2 ls hl hw) (fun σ   ls hl hw => u_X12_check_73 X hn σ   ls hl hw) N0 σ7 x1 0 h_x1 ⟨by decide, by decide⟩ _ (lv_sub hl [1, 2, 0] rfl) hw
    · have hw := hw.2 c6
      exact u_X12_check_21 X hn σ1   _ (lv_sub hl [] rfl) hw
set_option maxRecDepth 100000 in
theorem c_X12_check (l : Launch) (base : Nat) (D : va_G) (cA : Nat → ClassId) (n : Nat) (hn : 256 ≤ n) (σ : ml_St) (x1 : Int) (h_x1 : I32 x1) (Q : Int → ml_St → Prop) (hw : f_X12_check σ x1 Q) : Met l yX12_check (Cond.code yX12_check cX12_check 3 (some .int) :: ml_T) rm_X12_check (va_Pc [.ref (base + (215 : Int).toNat), .int (Int32.ofInt x1)] (ml_U base D cA n σ)) (ml_Qi I32 base D cA n Q) 0 0 (ml_A base) := by
  refine Met.ofW (cc := cX12_check) (maxL := 3) (ret := (some .int)) (by decide) rfl ?_
  intro p e s m args below meth c s₁ B hml hv
  obtain ⟨rfl, hP, hK, hok, hro⟩ := hv
  have X : ml_X p s m c meth _ D cA cX12_check 3 RX12 (some .int) := ⟨B.exec, B.bytes, hml, findClass_of_methodNamed B.named, fun w hw => atoms_spec (ws := Cond.code yX12_check cX12_check 3 (some .int) :: ml_T) B.pre w (List.mem_cons_of_mem _ hw), hK, B.notSynchronized, B.returns⟩
  have hl := lv_entry [.ref (base + (215 : Int).toNat), .int (Int32.ofInt x1)] (n := 3) (Nat.le_of_ble_eq_true rfl)
  rw [lg_entry_eq]
  generalize (lg_sl [.ref (base + (215 : Int).toNat), .int (Int32.ofInt x1)] ++ List.replicate (3 - (lg_sl [.ref (base + (215 : Int).toNat), .int (Int32.ofInt x1)]).length) Slot.unset).toArray = ls at hl ⊢
  have hl : lv_has ls 3 [(0, .ref (base + (215 : Int).toNat)), (1, .int (Int32.ofInt x1))] := hl
  unfold f_X12_check at hw
  exact u_X12_check_0 X hn σ x1 h_x1 _ (lv_sub hl [0, 1] rfl) hw s.heap [] hP va_S.rf hok hro
theorem dX12_count_0 : decode cX12_count 0 = .ok (.iload_n 1, 1) := by decide +kernel
theorem dX12_count_1 : decode cX12_count 1 = .ok (.i2l, 1) := by decide +kernel
theorem dX12_count_2 : decode cX12_count 2 = .ok (.ldc2_w 305, 3) := by decide +kernel
theorem dX12_count_5 : decode cX12_count 5 = .ok (.bipush 9, 2) := by decide +kernel
theorem dX12_count_7 : decode cX12_count 7 = .ok (.aload_n 0, 1) := by decide +kernel
theorem dX12_count_8 : decode cX12_count 8 = .ok (.getfield 140, 3) := by decide +kernel
theorem dX12_count_11 : decode cX12_count 11 = .ok (.iadd, 1) := by decide +kernel
theorem dX12_count_12 : decode cX12_count 12 = .ok (.i2l, 1) := by decide +kernel
theorem dX12_count_13 : decode cX12_count 13 = .ok (.invokestatic 143, 3) := by decide +kernel
theorem dX12_count_16 : decode cX12_count 16 = .ok (.ifCond .eq 13, 3) := by decide +kernel
theorem dX12_count_19 : decode cX12_count 19 = .ok (.aload_n 0, 1) := by decide +kernel
theorem dX12_count_20 : decode cX12_count 20 = .ok (.getfield 24, 3) := by decide +kernel
theorem dX12_count_23 : decode cX12_count 23 = .ok (.iload_n 1, 1) := by decide +kernel
theorem dX12_count_24 : decode cX12_count 24 = .ok (.bipush 10, 2) := by decide +kernel
theorem dX12_count_26 : decode cX12_count 26 = .ok (.isub, 1) := by decide +kernel
theorem dX12_count_27 : decode cX12_count 27 = .ok (.iaload, 1) := by decide +kernel
theorem dX12_count_28 : decode cX12_count 28 = .ok (.ireturn, 1) := by decide +kernel
theorem dX12_count_29 : decode cX12_count 29 = .ok (.iload_n 1, 1) := by decide +kernel
theorem dX12_count_30 : decode cX12_count 30 = .ok (.i2l, 1) := by decide +kernel
theorem dX12_count_31 : decode cX12_count 31 = .ok (.ldc2_w 432, 3) := by decide +kernel
theorem dX12_count_34 : decode cX12_count 34 = .ok (.bipush 29, 2) := by decide +kernel
theorem dX12_count_36 : decode cX12_count 36 = .ok (.aload_n 0, 1) := by decide +kernel
theorem dX12_count_37 : decode cX12_count 37 = .ok (.getfield 140, 3) := by decide +kernel
theorem dX12_count_40 : decode cX12_count 40 = .ok (.iadd, 1) := by decide +kernel
theorem dX12_count_41 : decode cX12_count 41 = .ok (.i2l, 1) := by decide +kernel
theorem dX12_count_42 : decode cX12_count 42 = .ok (.invokestatic 143, 3) := by decide +kernel
theorem dX12_count_45 : decode cX12_count 45 = .ok (.ifCond .eq 13, 3) := by decide +kernel
theorem dX12_count_48 : decode cX12_count 48 = .ok (.aload_n 0, 1) := by decide +kernel
theorem dX12_count_49 : decode cX12_count 49 = .ok (.getfield 27, 3) := by decide +kernel
theorem dX12_count_52 : decode cX12_count 52 = .ok (.iload_n 1, 1) := by decide +kernel
theorem dX12_count_53 : decode cX12_count 53 = .ok (.bipush 30, 2) := by decide +kernel
theorem dX12_count_55 : decode cX12_count 55 = .ok (.isub, 1) := by decide +kernel
theorem dX12_count_56 : decode cX12_count 56 = .ok (.iaload, 1) := by decide +kernel
theorem dX12_count_57 : decode cX12_count 57 = .ok (.ireturn, 1) := by decide +kernel
theorem dX12_count_58 : decode cX12_count 58 = .ok (.iload_n 1, 1) := by decide +kernel
theorem dX12_count_59 : decode cX12_count 59 = .ok (.ifCond .ne 10, 3) := by decide +kernel
theorem dX12_count_62 : decode cX12_count 62 = .ok (.aload_n 0, 1) := by decide +kernel
theorem dX12_count_63 : decode cX12_count 63 = .ok (.getfield 13, 3) := by decide +kernel
theorem dX12_count_66 : decode cX12_count 66 = .ok (.goto 48, 3) := by decide +kernel
theorem dX12_count_69 : decode cX12_count 69 = .ok (.iload_n 1, 1) := by decide +kernel
theorem dX12_count_70 : decode cX12_count 70 = .ok (.iconst 1, 1) := by decide +kernel
theorem dX12_count_71 : decode cX12_count 71 = .ok (.if_icmp .ne 10, 3) := by decide +kernel
theorem dX12_count_74 : decode cX12_count 74 = .ok (.aload_n 0, 1) := by decide +kernel
theorem dX12_count_75 : decode cX12_count 75 = .ok (.getfield 140, 3) := by decide +kernel
theorem dX12_count_78 : decode cX12_count 78 = .ok (.goto 36, 3) := by decide +kernel
theorem dX12_count_81 : decode cX12_count 81 = .ok (.iload_n 1, 1) := by decide +kernel
theorem dX12_count_82 : decode cX12_count 82 = .ok (.iconst 2, 1) := by decide +kernel
theorem dX12_count_83 : decode cX12_count 83 = .ok (.if_icmp .ne 10, 3) := by decide +kernel
theorem dX12_count_86 : decode cX12_count 86 = .ok (.aload_n 0, 1) := by decide +kernel
theorem dX12_count_87 : decode cX12_count 87 = .ok (.getfield 155, 3) := by decide +kernel
theorem dX12_count_90 : decode cX12_count 90 = .ok (.goto 24, 3) := by decide +kernel
theorem dX12_count_93 : decode cX12_count 93 = .ok (.iload_n 1, 1) := by decide +kernel
theorem dX12_count_94 : decode cX12_count 94 = .ok (.iconst 3, 1) := by decide +kernel
theorem dX12_count_95 : decode cX12_count 95 = .ok (.if_icmp .ne 18, 3) := by decide +kernel
theorem dX12_count_98 : decode cX12_count 98 = .ok (.aload_n 0, 1) := by decide +kernel
theorem dX12_count_99 : decode cX12_count 99 = .ok (.getfield 151, 3) := by decide +kernel
theorem dX12_count_102 : decode cX12_count 102 = .ok (.ifCond .eq 7, 3) := by decide +kernel
theorem dX12_count_105 : decode cX12_count 105 = .ok (.iconst 1, 1) := by decide +kernel
theorem dX12_count_106 : decode cX12_count 106 = .ok (.goto 8, 3) := by decide +kernel
theorem dX12_count_109 : decode cX12_count 109 = .ok (.iconst 0, 1) := by decide +kernel
theorem dX12_count_110 : decode cX12_count 110 = .ok (.goto 4, 3) := by decide +kernel
theorem dX12_count_113 : decode cX12_count 113 = .ok (.iconst (-1), 1) := by decide +kernel
theorem dX12_count_114 : decode cX12_count 114 = .ok (.ireturn, 1) := by decide +kernel
def f_X12_count_u114 (Q : Int → ml_St → Prop) (σ : ml_St) (s0 : Int) : Prop :=
Q s0 σ
def f_X12_count_u0 (Q : Int → ml_St → Prop) (σ : ml_St) (x1 : Int) : Prop :=
∀ _ : I32 (σ 215 3),
I32 (9 + (σ 215 3)) ∧
f_X12_lies σ x1 10 (9 + (σ 215 3)) (fun r3 σ3 => ∀ _ : ml_B r3,
(r3 = 0 →
∀ _ : I32 (σ3 215 3),
I32 (29 + (σ3 215 3)) ∧
f_X12_lies σ3 x1 30 (29 + (σ3 215 3)) (fun r7 σ7 => ∀ _ : ml_B r7,
(r7 = 0 →
(x1 ≠ 0 →
(x1 ≠ 1 →
(x1 ≠ 2 →
(x1 ≠ 3 →
f_X12_count_u114 Q σ7 (-1)) ∧
(x1 = 3 →
∀ _ : ml_B (σ7 215 4),
(((σ7 215 4) : Int) = 0 →
f_X12_count_u114 Q σ7 0) ∧
((σ7 215 4) ≠ 0 →
f_X12_count_u114 Q σ7 1))) ∧
(x1 = 2 →
∀ _ : I32 (σ7 215 1),
f_X12_count_u114 Q σ7 (σ7 215 1))) ∧
(x1 = 1 →
∀ _ : I32 (σ7 215 3),
f_X12_count_u114 Q σ7 (σ7 215 3))) ∧
(x1 = 0 →
∀ _ : I32 (σ7 215 2),
f_X12_count_u114 Q σ7 (σ7 215 2))) ∧
(r7 ≠ 0 →
I32 (x1 - 30) ∧
(0 : Int) ≤ (x1 - 30) ∧ ((x1 - 30) : Int) < 16 ∧
∀ _ : I32 (σ7 220 (x1 - 30)),
Q (σ7 220 (x1 - 30)) σ7))) ∧
(r3 ≠ 0 →
I32 (x1 - 10) ∧
(0 : Int) ≤ (x1 - 10) ∧ ((x1 - 10) : Int) < 16 ∧
∀ _ : I32 (σ3 219 (x1 - 10)),
Q (σ3 219 (x1 - 10)) σ3))
def f_X12_count (σ : ml_St) (x1 : Int) (Q : Int → ml_St → Prop) : Prop := f_X12_count_u0 Q σ x1
def rm_X12_count : Room := { frames := 1, cells := 0, slots := 0, locals := 25 }
set_option maxRecDepth 100000 in
set_option maxHeartbeats 4000000 in
theorem u_X12_count_114 {p : Program} {e : Env} {s : State} {m : MethodId} {args : Array Value} {below : List Frame} {meth : Method} {c : Code} {base : Nat} {D : va_G} {cA : Nat → ClassId} {n : Nat} {l : Launch} {Q : Int → ml_St → Prop} (X : ml_X p s m c meth args D cA cX12_count 2 RX12 (some .int)) (hn : 256 ≤ n) (σ : ml_St) (s0 : Int) (h_s0 : I32 s0) (ls : Array Slot) (hl : lv_has ls 2 []) (hw : f_X12_count_u114 Q σ s0) : ml_V p l e rm_X12_count s m args below meth c (MQ below (ml_Qi I32 base D cA n Q) args s 0 0 (ml_A base)) base D cA 0 0 n n σ (F0 m 114 ls [.int (Int32.ofInt s0)]) := by
  unfold f_X12_count_u114 at hw
  exact ml_iret (pc := 114) X h_s0 hw dX12_count_114
set_option maxRecDepth 100000 in
set_option maxHeartbeats 4000000 in
theorem u_X12_count_0 {p : Program} {e : Env} {s : State} {m : MethodId} {args : Array Value} {below : List Frame} {meth : Method} {c : Code} {base : Nat} {D : va_G} {cA : Nat → ClassId} {n : Nat} {l : Launch} {Q : Int → ml_St → Prop} (X : ml_X p s m c meth args D cA cX12_count 2 RX12 (some .int)) (hn : 256 ≤ n) (σ : ml_St) (x1 : Int) (h_x1 : I32 x1) (ls : Array Slot) (hl : lv_has ls 2 [(0, .ref (base + (215 : Int).toNat)), (1, .int (Int32.ofInt x1))]) (hw : f_X12_count_u0 Q σ x1) : ml_V p l e rm_X12_count s m args below meth c (MQ below (ml_Qi I32 base D cA n Q) args s 0 0 (ml_A base)) base D cA 0 0 n n σ (F0 m 0 ls []) := by
  unfold f_X12_count_u0 at hw
  refine ml_iload_n (pc := 0) X hl 1 rfl rfl dX12_count_0 ?_
  refine ml_i2l (pc := 1) X h_x1 dX12_count_1 ?_
  refine ml_ldc2 (pc := 2) (v := 10) X dX12_count_2 tc_6_93 ?_
  refine ml_bipush (pc := 5) X dX12_count_5 (by decide) ?_
  refine ml_aload_n (pc := 7) X hl 0 rfl rfl dX12_count_7 ?_
  refine gf_X12_140 (pc := 8) X (ml_c215 hn) dX12_count_8 (fun r1 => ?_)
  have hw := hw r1
  obtain ⟨v2, hw⟩ := hw
  refine ml_iadd (pc := 11) X dX12_count_11 ?_
  refine ml_i2l (pc := 12) X v2 dX12_count_12 ?_
  refine ml_callzS (pc := 13) (rest := []) X [.long (Int64.ofInt x1), .long (Int64.ofInt 10), .long (Int64.ofInt (9 + (σ 215 3)))] (c_X12_lies l base D cA n hn σ x1 10 (9 + (σ 215 3)) (h_x1).l ⟨by decide, by decide⟩ (v2).l _ hw) cv_X12_143 ⟨rfl, rfl⟩ ⟨by decide, by decide⟩ rfl rfl hl (Nat.le_of_ble_eq_true rfl) ⟨Nat.zero_le _, Nat.zero_le _⟩ dX12_count_13 (fun r3 σ3 t3 hw => ?_)
  have hw := hw t3
  refine ml_if_eq (pc := 16) (tgt := 29) X t3.i dX12_count_16 (by decide) (fun c4 => ?_) (fun c4 => ?_)
  · have hw := hw.1 c4
    refine ml_iload_n (pc := 29) X hl 1 rfl rfl dX12_count_29 ?_
    refine ml_i2l (pc := 30) X h_x1 dX12_count_30 ?_
    refine ml_ldc2 (pc := 31) (v := 30) X dX12_count_31 tc_7_16 ?_
    refine ml_bipush (pc := 34) X dX12_count_34 (by decide) ?_
    refine ml_aload_n (pc := 36) X hl 0 rfl rfl dX12_count_36 ?_
    refine gf_X12_140 (pc := 37) X (ml_c215 hn) dX12_count_37 (fun r5 => ?_)
    have hw := hw r5
    obtain ⟨v6, hw⟩ := hw
    refine ml_iadd (pc := 40) X dX12_count_40 ?_
    refine ml_i2l (pc := 41) X v6 dX12_count_41 ?_
    refine ml_callzS (pc := 42) (rest := []) X [.long (Int64.ofInt x1), .long (Int64.ofInt 30), .long (Int64.ofInt (29 + (σ3 215 3)))] (c_X12_lies l base D cA n hn σ3 x1 30 (29 + (σ3 215 3)) (h_x1).l ⟨by decide, by decide⟩ (v6).l _ hw) cv_X12_143 ⟨rfl, rfl⟩ ⟨by decide, by decide⟩ rfl rfl hl (Nat.le_of_ble_eq_true rfl) ⟨Nat.zero_le _, Nat.zero_le _⟩ dX12_count_42 (fun r7 σ7 t7 hw => ?_)
    have hw := hw t7
    refine ml_if_eq (pc := 45) (tgt := 58) X t7.i dX12_count_45 (by decide) (fun c8 => ?_) (fun c8 => ?_)
    · have hw := hw.1 c8
      refine ml_iload_n (pc := 58) X hl 1 rfl rfl dX12_count_58 ?_
      refine ml_if_ne (pc := 59) (tgt := 69) X h_x1 dX12_count_59 (by decide) (fun c9 => ?_) (fun c9 => ?_)
      · have hw := hw.1 c9
        refine ml_iload_n (pc := 69) X hl 1 rfl rfl dX12_count_69 ?_
        refine ml_iconst (pc := 70) X dX12_count_70 ?_
        refine ml_icmp_ne (pc := 71) (tgt := 81) X h_x1 ⟨by decide, by decide⟩ dX12_count_71 (by decide) (fun c10 => ?_) (fun c10 => ?_)
        · have hw := hw.1 c10
          refine ml_iload_n (pc := 81) X hl 1 rfl rfl dX12_count_81 ?_
          refine ml_iconst (pc := 82) X dX12_count_82 ?_
          refine ml_icmp_ne (pc := 83) (tgt := 93) X h_x1 ⟨by decide, by decide⟩ dX12_count_83 (by decide) (fun c11 => ?_) (fun c11 => ?_)
          · have hw := hw.1 c11
            refine ml_iload_n (pc := 93) X hl 1 rfl rfl dX12_count_93 ?_
            refine ml_iconst (pc := 94) X dX12_count_94 ?_
            refine ml_icmp_ne (pc := 95) (tgt := 113) X h_x1 ⟨by decide, by decide⟩ dX12_count_95 (by decide) (fun c12 => ?_) (fun c12 => ?_)
            · have hw := hw.1 c12
              refine ml_iconst (pc := 113) X dX12_count_113 ?_
              exact u_X12_count_114 X hn σ7 (-1) ⟨by decide, by decide⟩ _ (lv_sub hl [] rfl) hw
            · have hw := hw.2 c12
              refine ml_aload_n (pc := 98) X hl 0 rfl rfl dX12_count_98 ?_
              refine gf_X12_151 (pc := 99) X (ml_c215 hn) dX12_count_99 (fun r13 => ?_)
              have hw := hw r13
              refine ml_if_eq (pc := 102) (tgt := 109) X r13.i dX12_count_102 (by decide) (fun c14 => ?_) (fun c14 => ?_)
              · have hw := hw.1 c14
                refine ml_iconst (pc := 109) X dX12_count_109 ?_
                refine ml_goto (pc := 110) (tgt := 114) X dX12_count_110 (by decide) ?_
                exact u_X12_count_114 X hn σ7 0 ⟨by decide, by decide⟩ _ (lv_sub hl [] rfl) hw
              · have hw := hw.2 c14
                refine ml_iconst (pc := 105) X dX12_count_105 ?_
                refine ml_goto (pc := 106) (tgt := 114) X dX12_count_106 (by decide) ?_
                exact u_X12_count_114 X hn σ7 1 ⟨by decide, by decide⟩ _ (lv_sub hl [] rfl) hw
          · have hw := hw.2 c11
            refine ml_aload_n (pc := 86) X hl 0 rfl rfl dX12_count_86 ?_
            refine gf_X12_155 (pc := 87) X (ml_c215 hn) dX12_count_87 (fun r15 => ?_)
            have hw := hw r15
            refine ml_goto (pc := 90) (tgt := 114) X dX12_count_90 (by decide) ?_
            exact u_X12_count_114 X hn σ7 (σ7 215 1) r15 _ (lv_sub hl [] rfl) hw
        · have hw := hw.2 c10
          refine ml_aload_n (pc := 74) X hl 0 rfl rfl dX12_count_74 ?_
          refine gf_X12_140 (pc := 75) X (ml_c215 hn) dX12_count_75 (fun r16 => ?_)
          have hw := hw r16
          refine ml_goto (pc := 78) (tgt := 114) X dX12_count_78 (by decide) ?_
          exact u_X12_count_114 X hn σ7 (σ7 215 3) r16 _ (lv_sub hl [] rfl) hw
      · have hw := hw.2 c9
        refine ml_aload_n (pc := 62) X hl 0 rfl rfl dX12_count_62 ?_
        refine gf_X12_13 (pc := 63) X (ml_c215 hn) dX12_count_63 (fun r17 => ?_)
        have hw := hw r17
        refine ml_goto (pc := 66) (tgt := 114) X dX12_count_66 (by decide) ?_
        exact u_X12_count_114 X hn σ7 (σ7 215 2) r17 _ (lv_sub hl [] rfl) hw
    · have hw := hw.2 c8
      refine ml_aload_n (pc := 48) X hl 0 rfl rfl dX12_count_48 ?_
      refine gf_X12_27 (pc := 49) X (ml_c215 hn) dX12_count_49 ?_
      refine ml_iload_n (pc := 52) X hl 1 rfl rfl dX12_count_52 ?_
      refine ml_bipush (pc := 53) X dX12_count_53 (by decide) ?_
      obtain ⟨v18, hw⟩ := hw
      refine ml_isub (pc := 55) X dX12_count_55 ?_
      obtain ⟨a19, b19, hw⟩ := hw
      refine ml_iald (pc := 56) (N := 16) X (ml_c220 hn) a19 b19 dX12_count_56 (fun r19 => ?_)
      have hw := hw r19
      exact ml_iret (pc := 57) X r19 hw dX12_count_57
  · have hw := hw.2 c4
    refine ml_aload_n (pc := 19) X hl 0 rfl rfl dX12_count_19 ?_
    refine gf_X12_24 (pc := 20) X (ml_c215 hn) dX12_count_20 ?_
    refine ml_iload_n (pc := 23) X hl 1 rfl rfl dX12_count_23 ?_
    refine ml_bipush (pc := 24) X dX12_count_24 (by decide) ?_
    obtain ⟨v20, hw⟩ := hw
    refine ml_isub (pc := 26) X dX12_count_26 ?_
    obtain ⟨a21, b21, hw⟩ := hw
    refine ml_iald (pc := 27) (N := 16) X (ml_c219 hn) a21 b21 dX12_count_27 (fun r21 => ?_)
    have hw := hw r21
    exact ml_iret (pc := 28) X r21 hw dX12_count_28
set_option maxRecDepth 100000 in
theorem c_X12_count (l : Launch) (base : Nat) (D : va_G) (cA : Nat → ClassId) (n : Nat) (hn : 256 ≤ n) (σ : ml_St) (x1 : Int) (h_x1 : I32 x1) (Q : Int → ml_St → Prop) (hw : f_X12_count σ x1 Q) : Met l yX12_count (Cond.code yX12_count cX12_count 2 (some .int) :: ml_T) rm_X12_count (va_Pc [.ref (base + (215 : Int).toNat), .int (Int32.ofInt x1)] (ml_U base D cA n σ)) (ml_Qi I32 base D cA n Q) 0 0 (ml_A base) := by
  refine Met.ofW (cc := cX12_count) (maxL := 2) (ret := (some .int)) (by decide) rfl ?_
  intro p e s m args below meth c s₁ B hml hv
  obtain ⟨rfl, hP, hK, hok, hro⟩ := hv
  have X : ml_X p s m c meth _ D cA cX12_count 2 RX12 (some .int) := ⟨B.exec, B.bytes, hml, findClass_of_methodNamed B.named, fun w hw => atoms_spec (ws := Cond.code yX12_count cX12_count 2 (some .int) :: ml_T) B.pre w (List.mem_cons_of_mem _ hw), hK, B.notSynchronized, B.returns⟩
  have hl := lv_entry [.ref (base + (215 : Int).toNat), .int (Int32.ofInt x1)] (n := 2) (Nat.le_of_ble_eq_true rfl)
  rw [lg_entry_eq]
  generalize (lg_sl [.ref (base + (215 : Int).toNat), .int (Int32.ofInt x1)] ++ List.replicate (2 - (lg_sl [.ref (base + (215 : Int).toNat), .int (Int32.ofInt x1)]).length) Slot.unset).toArray = ls at hl ⊢
  have hl : lv_has ls 2 [(0, .ref (base + (215 : Int).toNat)), (1, .int (Int32.ofInt x1))] := hl
  unfold f_X12_count at hw
  exact u_X12_count_0 X hn σ x1 h_x1 _ (lv_sub hl [0, 1] rfl) hw s.heap [] hP va_S.rf hok hro
