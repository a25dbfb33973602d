theorem dX6_alwaysLeaveOne_0 : decode cX6_alwaysLeaveOne 0 = .ok (.iconst 1, 1) := by decide +kernel
theorem dX6_alwaysLeaveOne_1 : decode cX6_alwaysLeaveOne 1 = .ok (.istore_n 1, 1) := by decide +kernel
theorem dX6_alwaysLeaveOne_2 : decode cX6_alwaysLeaveOne 2 = .ok (.iconst 1, 1) := by decide +kernel
theorem dX6_alwaysLeaveOne_3 : decode cX6_alwaysLeaveOne 3 = .ok (.istore_n 2, 1) := by decide +kernel
theorem dX6_alwaysLeaveOne_4 : decode cX6_alwaysLeaveOne 4 = .ok (.iload_n 2, 1) := by decide +kernel
theorem dX6_alwaysLeaveOne_5 : decode cX6_alwaysLeaveOne 5 = .ok (.aload_n 0, 1) := by decide +kernel
theorem dX6_alwaysLeaveOne_6 : decode cX6_alwaysLeaveOne 6 = .ok (.getfield 29, 3) := by decide +kernel
theorem dX6_alwaysLeaveOne_9 : decode cX6_alwaysLeaveOne 9 = .ok (.aload_n 0, 1) := by decide +kernel
theorem dX6_alwaysLeaveOne_10 : decode cX6_alwaysLeaveOne 10 = .ok (.getfield 33, 3) := by decide +kernel
theorem dX6_alwaysLeaveOne_13 : decode cX6_alwaysLeaveOne 13 = .ok (.iadd, 1) := by decide +kernel
theorem dX6_alwaysLeaveOne_14 : decode cX6_alwaysLeaveOne 14 = .ok (.if_icmp .gt 30, 3) := by decide +kernel
theorem dX6_alwaysLeaveOne_17 : decode cX6_alwaysLeaveOne 17 = .ok (.iload_n 1, 1) := by decide +kernel
theorem dX6_alwaysLeaveOne_18 : decode cX6_alwaysLeaveOne 18 = .ok (.ifCond .eq 18, 3) := by decide +kernel
theorem dX6_alwaysLeaveOne_21 : decode cX6_alwaysLeaveOne 21 = .ok (.aload_n 0, 1) := by decide +kernel
theorem dX6_alwaysLeaveOne_22 : decode cX6_alwaysLeaveOne 22 = .ok (.getfield 15, 3) := by decide +kernel
theorem dX6_alwaysLeaveOne_25 : decode cX6_alwaysLeaveOne 25 = .ok (.iload_n 2, 1) := by decide +kernel
theorem dX6_alwaysLeaveOne_26 : decode cX6_alwaysLeaveOne 26 = .ok (.laload, 1) := by decide +kernel
theorem dX6_alwaysLeaveOne_27 : decode cX6_alwaysLeaveOne 27 = .ok (.lconst 1, 1) := by decide +kernel
theorem dX6_alwaysLeaveOne_28 : decode cX6_alwaysLeaveOne 28 = .ok (.lcmp, 1) := by decide +kernel
theorem dX6_alwaysLeaveOne_29 : decode cX6_alwaysLeaveOne 29 = .ok (.ifCond .ne 7, 3) := by decide +kernel
theorem dX6_alwaysLeaveOne_32 : decode cX6_alwaysLeaveOne 32 = .ok (.iconst 1, 1) := by decide +kernel
theorem dX6_alwaysLeaveOne_33 : decode cX6_alwaysLeaveOne 33 = .ok (.goto 4, 3) := by decide +kernel
theorem dX6_alwaysLeaveOne_36 : decode cX6_alwaysLeaveOne 36 = .ok (.iconst 0, 1) := by decide +kernel
theorem dX6_alwaysLeaveOne_37 : decode cX6_alwaysLeaveOne 37 = .ok (.istore_n 1, 1) := by decide +kernel
theorem dX6_alwaysLeaveOne_38 : decode cX6_alwaysLeaveOne 38 = .ok (.iinc 2 1, 3) := by decide +kernel
theorem dX6_alwaysLeaveOne_41 : decode cX6_alwaysLeaveOne 41 = .ok (.goto (-37), 3) := by decide +kernel
theorem dX6_alwaysLeaveOne_44 : decode cX6_alwaysLeaveOne 44 = .ok (.iload_n 1, 1) := by decide +kernel
theorem dX6_alwaysLeaveOne_45 : decode cX6_alwaysLeaveOne 45 = .ok (.ireturn, 1) := by decide +kernel
def f_X6_alwaysLeaveOne_u37 (Q : Int → ml_St → Prop) (K4 : ml_St → Int → Int → Prop) (σ : ml_St) (x2 : Int) (s0 : Int) : Prop :=
I32 (x2 + 1) ∧
∀ y1 : Int, y1 = x2 + 1 →
K4 σ s0 y1
def f_X6_alwaysLeaveOne_u36 (Q : Int → ml_St → Prop) (K4 : ml_St → Int → Int → Prop) (σ : ml_St) (x2 : Int) : Prop :=
f_X6_alwaysLeaveOne_u37 Q K4 σ x2 0
def f_X6_alwaysLeaveOne_u4 (Q : Int → ml_St → Prop) (K44 : ml_St → Int → Prop) : Nat → ml_St → Int → Int → Prop
| 0, _, _, _ => False
| N + 1, σ, x1, x2 =>
∀ _ : I32 (σ 46 4),
∀ _ : I32 (σ 46 5),
I32 ((σ 46 4) + (σ 46 5)) ∧
(((σ 46 4) + (σ 46 5)) < x2 →
K44 σ x1) ∧
(¬ (((σ 46 4) + (σ 46 5)) < x2) →
(x1 = 0 →
f_X6_alwaysLeaveOne_u36 Q (f_X6_alwaysLeaveOne_u4 Q K44 N) σ x2) ∧
(x1 ≠ 0 →
(0 : Int) ≤ x2 ∧ (x2 : Int) < 65 ∧
∀ _ : I64 (σ 48 x2),
(((σ 48 x2) : Int) ≠ 1 →
f_X6_alwaysLeaveOne_u36 Q (f_X6_alwaysLeaveOne_u4 Q K44 N) σ x2) ∧
((σ 48 x2) = 1 →
f_X6_alwaysLeaveOne_u37 Q (f_X6_alwaysLeaveOne_u4 Q K44 N) σ x2 1)))
def f_X6_alwaysLeaveOne_u44 (Q : Int → ml_St → Prop) (σ : ml_St) (x1 : Int) : Prop :=
Q x1 σ
def f_X6_alwaysLeaveOne_u0 (Q : Int → ml_St → Prop) (σ : ml_St) : Prop :=
∃ N1, f_X6_alwaysLeaveOne_u4 Q (f_X6_alwaysLeaveOne_u44 Q) N1 σ 1 1
def f_X6_alwaysLeaveOne (σ : ml_St) (Q : Int → ml_St → Prop) : Prop := f_X6_alwaysLeaveOne_u0 Q σ
def rm_X6_alwaysLeaveOne : Room := { frames := 0, cells := 0, slots := 0, locals := 0 }
set_option maxRecDepth 100000 in
set_option maxHeartbeats 4000000 in
theorem u_X6_alwaysLeaveOne_37 {p : Program} {e : Env} {s : State} {m : MethodId} {args : Array Value} {below : List Frame} {meth : Method} {c : Code} {base : Nat} {D : va_G} {cA : Nat → ClassId} {n : Nat} {l : Launch} {Q : Int → ml_St → Prop} {K4 : ml_St → Int → Int → Prop} (X : ml_X p s m c meth args D cA cX6_alwaysLeaveOne 3 RX6 (some .boolean)) (hn : 214 ≤ n) (hK4 : ∀ (σ : ml_St) (x1 : Int) (x2 : Int) (h_x1 : ml_B x1) (h_x2 : I32 x2) (ls : Array Slot), lv_has ls 3 [(0, .ref (base + (46 : Int).toNat)), (1, .int (Int32.ofInt x1)), (2, .int (Int32.ofInt x2))] → K4 σ x1 x2 → ml_V p l e rm_X6_alwaysLeaveOne s m args below meth c (MQ below (ml_Qi ml_B base D cA n Q) args s 0 0 (ml_A base)) base D cA 0 0 n n σ (F0 m 4 ls [])) (σ : ml_St) (x2 : Int) (s0 : Int) (h_x2 : I32 x2) (h_s0 : ml_B s0) (ls : Array Slot) (hl : lv_has ls 3 [(0, .ref (base + (46 : Int).toNat)), (2, .int (Int32.ofInt x2))]) (hw : f_X6_alwaysLeaveOne_u37 Q K4 σ x2 s0) : ml_V p l e rm_X6_alwaysLeaveOne s m args below meth c (MQ below (ml_Qi ml_B base D cA n Q) args s 0 0 (ml_A base)) base D cA 0 0 n n σ (F0 m 37 ls [.int (Int32.ofInt s0)]) := by
  unfold f_X6_alwaysLeaveOne_u37 at hw
  refine ml_istore_n (pc := 37) X rfl hl (by decide) (lst' := [(1, .int (Int32.ofInt s0)), (0, .ref (base + (46 : Int).toNat)), (2, .int (Int32.ofInt x2))]) rfl dX6_alwaysLeaveOne_37 (fun ls hl => ?_)
  obtain ⟨v1, hw⟩ := hw
  obtain ⟨y1, e1⟩ : ∃ y : Int, y = x2 + 1 := ⟨_, rfl⟩
  have hw := hw y1 e1
  rw [← e1] at v1
  refine ml_iinc (pc := 38) X e1 hl 2 rfl (by decide) (lst' := [(2, .int (Int32.ofInt y1)), (1, .int (Int32.ofInt s0)), (0, .ref (base + (46 : Int).toNat))]) rfl dX6_alwaysLeaveOne_38 (fun ls hl => ?_)
  refine ml_goto (pc := 41) (tgt := 4) X dX6_alwaysLeaveOne_41 (by decide) ?_
  exact hK4 σ s0 y1 h_s0 v1 _ (lv_sub hl [2, 1, 0] rfl) hw
set_option maxRecDepth 100000 in
set_option maxHeartbeats 4000000 in
theorem u_X6_alwaysLeaveOne_36 {p : Program} {e : Env} {s : State} {m : MethodId} {args : Array Value} {below : List Frame} {meth : Method} {c : Code} {base : Nat} {D : va_G} {cA : Nat → ClassId} {n : Nat} {l : Launch} {Q : Int → ml_St → Prop} {K4 : ml_St → Int → Int → Prop} (X : ml_X p s m c meth args D cA cX6_alwaysLeaveOne 3 RX6 (some .boolean)) (hn : 214 ≤ n) (hK4 : ∀ (σ : ml_St) (x1 : Int) (x2 : Int) (h_x1 : ml_B x1) (h_x2 : I32 x2) (ls : Array Slot), lv_has ls 3 [(0, .ref (base + (46 : Int).toNat)), (1, .int (Int32.ofInt x1)), (2, .int (Int32.ofInt x2))] → K4 σ x1 x2 → ml_V p l e rm_X6_alwaysLeaveOne s m args below meth c (MQ below (ml_Qi ml_B base D cA n Q) args s 0 0 (ml_A base)) base D cA 0 0 n n σ (F0 m 4 ls [])) (σ : ml_St) (x2 : Int) (h_x2 : I32 x2) (ls : Array Slot) (hl : lv_has ls 3 [(0, .ref (base + (46 : Int).toNat)), (2, .int (Int32.ofInt x2))]) (hw : f_X6_alwaysLeaveOne_u36 Q K4 σ x2) : ml_V p l e rm_X6_alwaysLeaveOne s m args below meth c (MQ below (ml_Qi ml_B base D cA n Q) args s 0 0 (ml_A base)) base D cA 0 0 n n σ (F0 m 36 ls []) := by
  unfold f_X6_alwaysLeaveOne_u36 at hw
  refine ml_iconst (pc := 36) X dX6_alwaysLeaveOne_36 ?_
  exact u_X6_alwaysLeaveOne_37 X hn hK4 σ x2 0 h_x2 ⟨by decide, by decide⟩ _ (lv_sub hl [0, 1] rfl) hw
set_option maxRecDepth 100000 in
set_option maxHeartbeats 4000000 in
theorem u_X6_alwaysLeaveOne_4 {p : Program} {e : Env} {s : State} {m : MethodId} {args : Array Value} {below : List Frame} {meth : Method} {c : Code} {base : Nat} {D : va_G} {cA : Nat → ClassId} {n : Nat} {l : Launch} {Q : Int → ml_St → Prop} {K44 : ml_St → Int → Prop} (X : ml_X p s m c meth args D cA cX6_alwaysLeaveOne 3 RX6 (some .boolean)) (hn : 214 ≤ n) (hK44 : ∀ (σ : ml_St) (x1 : Int) (h_x1 : ml_B x1) (ls : Array Slot), lv_has ls 3 [(1, .int (Int32.ofInt x1))] → K44 σ x1 → ml_V p l e rm_X6_alwaysLeaveOne s m args below meth c (MQ below (ml_Qi ml_B base D cA n Q) args s 0 0 (ml_A base)) base D cA 0 0 n n σ (F0 m 44 ls [])) : ∀ (N : Nat) (σ : ml_St) (x1 : Int) (x2 : Int) (h_x1 : ml_B x1) (h_x2 : I32 x2) (ls : Array Slot), lv_has ls 3 [(0, .ref (base + (46 : Int).toNat)), (1, .int (Int32.ofInt x1)), (2, .int (Int32.ofInt x2))] → f_X6_alwaysLeaveOne_u4 Q K44 N σ x1 x2 → ml_V p l e rm_X6_alwaysLeaveOne s m args below meth c (MQ below (ml_Qi ml_B base D cA n Q) args s 0 0 (ml_A base)) base D cA 0 0 n n σ (F0 m 4 ls []) := by
  intro N
  induction N with
  | zero => intro σ x1 x2 h_x1 h_x2 ls hl hw; exact False.elim hw
  | succ N ih =>
    intro σ x1 x2 h_x1 h_x2 ls hl hw
    unfold f_X6_alwaysLeaveOne_u4 at hw
    refine ml_iload_n (pc := 4) X hl 2 rfl rfl dX6_alwaysLeaveOne_4 ?_
    refine ml_aload_n (pc := 5) X hl 0 rfl rfl dX6_alwaysLeaveOne_5 ?_
    refine gf_X6_29 (pc := 6) X (ml_c46 hn) dX6_alwaysLeaveOne_6 (fun r1 => ?_)
    have hw := hw r1
    refine ml_aload_n (pc := 9) X hl 0 rfl rfl dX6_alwaysLeaveOne_9 ?_
    refine gf_X6_33 (pc := 10) X (ml_c46 hn) dX6_alwaysLeaveOne_10 (fun r2 => ?_)
    have hw := hw r2
    obtain ⟨v3, hw⟩ := hw
    refine ml_iadd (pc := 13) X dX6_alwaysLeaveOne_13 ?_
    refine ml_icmp_gt (pc := 14) (tgt := 44) X h_x2 v3 dX6_alwaysLeaveOne_14 (by decide) (fun c4 => ?_) (fun c4 => ?_)
    · have hw := hw.1 c4
      exact hK44 σ x1 h_x1 _ (lv_sub hl [1] rfl) hw
    · have hw := hw.2 c4
      refine ml_iload_n (pc := 17) X hl 1 rfl rfl dX6_alwaysLeaveOne_17 ?_
      refine ml_if_eq (pc := 18) (tgt := 36) X h_x1.i dX6_alwaysLeaveOne_18 (by decide) (fun c5 => ?_) (fun c5 => ?_)
      · have hw := hw.1 c5
        exact u_X6_alwaysLeaveOne_36 X hn ih σ x2 h_x2 _ (lv_sub hl [0, 2] rfl) hw
      · have hw := hw.2 c5
        refine ml_aload_n (pc := 21) X hl 0 rfl rfl dX6_alwaysLeaveOne_21 ?_
        refine gf_X6_15 (pc := 22) X (ml_c46 hn) dX6_alwaysLeaveOne_22 ?_
        refine ml_iload_n (pc := 25) X hl 2 rfl rfl dX6_alwaysLeaveOne_25 ?_
        obtain ⟨a6, b6, hw⟩ := hw
        refine ml_lald (pc := 26) (N := 65) X (ml_c48 hn) a6 b6 dX6_alwaysLeaveOne_26 (fun r6 => ?_)
        have hw := hw r6
        refine ml_lconst1 (pc := 27) X dX6_alwaysLeaveOne_27 ?_
        refine ml_lcmp_ne (pc := 28) (tgt := 36) X r6 ⟨by decide, by decide⟩ dX6_alwaysLeaveOne_28 dX6_alwaysLeaveOne_29 (by decide) (fun c7 => ?_) (fun c7 => ?_)
        · have hw := hw.1 c7
          exact u_X6_alwaysLeaveOne_36 X hn ih σ x2 h_x2 _ (lv_sub hl [0, 2] rfl) hw
        · have hw := hw.2 c7
          refine ml_iconst (pc := 32) X dX6_alwaysLeaveOne_32 ?_
          refine ml_goto (pc := 33) (tgt := 37) X dX6_alwaysLeaveOne_33 (by decide) ?_
          exact u_X6_alwaysLeaveOne_37 X hn ih σ x2 1 h_x2 ⟨by decide, by decide⟩ _ (lv_sub hl [0, 2] rfl) hw
set_option maxRecDepth 100000 in
set_option maxHeartbeats 4000000 in
theorem u_X6_alwaysLeaveOne_44 {p : Program} {e : Env} {s : State} {m : MethodId} {args : Array Value} {below : List Frame} {meth : Method} {c : Code} {base : Nat} {D : va_G} {cA : Nat → ClassId} {n : Nat} {l : Launch} {Q : Int → ml_St → Prop} (X : ml_X p s m c meth args D cA cX6_alwaysLeaveOne 3 RX6 (some .boolean)) (hn : 214 ≤ n) (σ : ml_St) (x1 : Int) (h_x1 : ml_B x1) (ls : Array Slot) (hl : lv_has ls 3 [(1, .int (Int32.ofInt x1))]) (hw : f_X6_alwaysLeaveOne_u44 Q σ x1) : ml_V p l e rm_X6_alwaysLeaveOne s m args below meth c (MQ below (ml_Qi ml_B base D cA n Q) args s 0 0 (ml_A base)) base D cA 0 0 n n σ (F0 m 44 ls []) := by
  unfold f_X6_alwaysLeaveOne_u44 at hw
  refine ml_iload_n (pc := 44) X hl 0 rfl rfl dX6_alwaysLeaveOne_44 ?_
  exact ml_zret (pc := 45) X h_x1 hw dX6_alwaysLeaveOne_45
set_option maxRecDepth 100000 in
set_option maxHeartbeats 4000000 in
theorem u_X6_alwaysLeaveOne_0 {p : Program} {e : Env} {s : State} {m : MethodId} {args : Array Value} {below : List Frame} {meth : Method} {c : Code} {base : Nat} {D : va_G} {cA : Nat → ClassId} {n : Nat} {l : Launch} {Q : Int → ml_St → Prop} (X : ml_X p s m c meth args D cA cX6_alwaysLeaveOne 3 RX6 (some .boolean)) (hn : 214 ≤ n) (σ : ml_St) (ls : Array Slot) (hl : lv_has ls 3 [(0, .ref (base + (46 : Int).toNat))]) (hw : f_X6_alwaysLeaveOne_u0 Q σ) : ml_V p l e rm_X6_alwaysLeaveOne s m args below meth c (MQ below (ml_Qi ml_B base D cA n Q) args s 0 0 (ml_A base)) base D cA 0 0 n n σ (F0 m 0 ls []) := by
  unfold f_X6_alwaysLeaveOne_u0 at hw
  refine ml_iconst (pc := 0) X dX6_alwaysLeaveOne_0 ?_
  refine ml_istore_n (pc := 1) X rfl hl (by decide) (lst' := [(1, .int (Int32.ofInt 1)), (0, .ref (base + (46 : Int).toNat))]) rfl dX6_alwaysLeaveOne_1 (fun ls hl => ?_)
  refine ml_iconst (pc := 2) X dX6_alwaysLeaveOne_2 ?_
  refine ml_istore_n (pc := 3) X rfl hl (by decide) (lst' := [(2, .int (Int32.ofInt 1)), (1, .int (Int32.ofInt 1)), (0, .ref (base + (46 : Int).toNat))]) rfl dX6_alwaysLeaveOne_3 (fun ls hl => ?_)
  obtain ⟨N0, hw⟩ := hw
  exact u_X6_alwaysLeaveOne_4 X hn (fun σ x1 h_x1 ls hl hw => u_X6_alwaysLeaveOne_44 X hn σ x1 h_x1 ls hl hw) N0 σ 1 1 ⟨by decide, by decide⟩ ⟨by decide, by decide⟩ _ (lv_sub hl [2, 1, 0] rfl) hw
set_option maxRecDepth 100000 in
theorem c_X6_alwaysLeaveOne (l : Launch) (base : Nat) (D : va_G) (cA : Nat → ClassId) (n : Nat) (hn : 214 ≤ n) (σ : ml_St) (Q : Int → ml_St → Prop) (hw : f_X6_alwaysLeaveOne σ Q) : Met l yX6_alwaysLeaveOne (Cond.code yX6_alwaysLeaveOne cX6_alwaysLeaveOne 3 (some .boolean) :: ml_T) rm_X6_alwaysLeaveOne (va_Pc [.ref (base + (46 : Int).toNat)] (ml_U base D cA n σ)) (ml_Qi ml_B base D cA n Q) 0 0 (ml_A base) := by
  refine Met.ofW (cc := cX6_alwaysLeaveOne) (maxL := 3) (ret := (some .boolean)) (by decide) rfl ?_
  intro p e s m args below meth c s₁ B hml hv
  obtain ⟨rfl, hP, hK, hok, hro⟩ := hv
  have X : ml_X p s m c meth _ D cA cX6_alwaysLeaveOne 3 RX6 (some .boolean) := ⟨B.exec, B.bytes, hml, findClass_of_methodNamed B.named, fun w hw => atoms_spec (ws := Cond.code yX6_alwaysLeaveOne cX6_alwaysLeaveOne 3 (some .boolean) :: ml_T) B.pre w (List.mem_cons_of_mem _ hw), hK, B.notSynchronized, B.returns⟩
  have hl := lv_entry [.ref (base + (46 : Int).toNat)] (n := 3) (Nat.le_of_ble_eq_true rfl)
  rw [lg_entry_eq]
  generalize (lg_sl [.ref (base + (46 : Int).toNat)] ++ List.replicate (3 - (lg_sl [.ref (base + (46 : Int).toNat)]).length) Slot.unset).toArray = ls at hl ⊢
  have hl : lv_has ls 3 [(0, .ref (base + (46 : Int).toNat))] := hl
  unfold f_X6_alwaysLeaveOne at hw
  exact u_X6_alwaysLeaveOne_0 X hn σ  _ (lv_sub hl [0] rfl) hw s.heap [] hP va_S.rf hok hro
theorem dX5_leavesOne_0 : decode cX5_leavesOne 0 = .ok (.aload_n 0, 1) := by decide +kernel
theorem dX5_leavesOne_1 : decode cX5_leavesOne 1 = .ok (.getfield 60, 3) := by decide +kernel
theorem dX5_leavesOne_4 : decode cX5_leavesOne 4 = .ok (.aload_n 2, 1) := by decide +kernel
theorem dX5_leavesOne_5 : decode cX5_leavesOne 5 = .ok (.aload_n 0, 1) := by decide +kernel
theorem dX5_leavesOne_6 : decode cX5_leavesOne 6 = .ok (.iload_n 3, 1) := by decide +kernel
theorem dX5_leavesOne_7 : decode cX5_leavesOne 7 = .ok (.invokevirtual 64, 3) := by decide +kernel
theorem dX5_leavesOne_10 : decode cX5_leavesOne 10 = .ok (.i2l, 1) := by decide +kernel
theorem dX5_leavesOne_11 : decode cX5_leavesOne 11 = .ok (.ladd, 1) := by decide +kernel
theorem dX5_leavesOne_12 : decode cX5_leavesOne 12 = .ok (.lconst 1, 1) := by decide +kernel
theorem dX5_leavesOne_13 : decode cX5_leavesOne 13 = .ok (.lcmp, 1) := by decide +kernel
theorem dX5_leavesOne_14 : decode cX5_leavesOne 14 = .ok (.ifCond .eq 5, 3) := by decide +kernel
theorem dX5_leavesOne_17 : decode cX5_leavesOne 17 = .ok (.iconst 0, 1) := by decide +kernel
theorem dX5_leavesOne_18 : decode cX5_leavesOne 18 = .ok (.ireturn, 1) := by decide +kernel
theorem dX5_leavesOne_19 : decode cX5_leavesOne 19 = .ok (.aload_n 1, 1) := by decide +kernel
theorem dX5_leavesOne_20 : decode cX5_leavesOne 20 = .ok (.aload_n 0, 1) := by decide +kernel
theorem dX5_leavesOne_21 : decode cX5_leavesOne 21 = .ok (.aload_n 2, 1) := by decide +kernel
theorem dX5_leavesOne_22 : decode cX5_leavesOne 22 = .ok (.iload_n 3, 1) := by decide +kernel
theorem dX5_leavesOne_23 : decode cX5_leavesOne 23 = .ok (.invokevirtual 70, 3) := by decide +kernel
theorem dX5_leavesOne_26 : decode cX5_leavesOne 26 = .ok (.aload_n 1, 1) := by decide +kernel
theorem dX5_leavesOne_27 : decode cX5_leavesOne 27 = .ok (.invokevirtual 76, 3) := by decide +kernel
theorem dX5_leavesOne_30 : decode cX5_leavesOne 30 = .ok (.ireturn, 1) := by decide +kernel
def f_X5_leavesOne_u0 (Q : Int → ml_St → Prop) (p0 : Int) (σ : ml_St) (x3 : Int) : Prop :=
∀ _ : I64 (σ p0 2),
f_X0_loopsBy σ p0 x3 (fun r2 σ2 => ∀ _ : I32 r2,
(((w64 ((σ p0 2) + r2)) : Int) = 1 →
f_X6_study σ2 p0 x3 (fun σ5 =>
f_X6_alwaysLeaveOne σ5 (fun r6 σ6 => ∀ _ : ml_B r6,
Q r6 σ6))) ∧
((w64 ((σ p0 2) + r2)) ≠ 1 →
Q 0 σ2))
def f_X5_leavesOne (σ : ml_St) (p0 : Int) (x3 : Int) (Q : Int → ml_St → Prop) : Prop := f_X5_leavesOne_u0 Q p0 σ x3
def rm_X5_leavesOne : Room := { frames := 4, cells := 0, slots := 0, locals := 141 }
set_option maxRecDepth 100000 in
set_option maxHeartbeats 4000000 in
theorem u_X5_leavesOne_0 {p : Program} {e : Env} {s : State} {m : MethodId} {args : Array Value} {below : List Frame} {meth : Method} {c : Code} {base : Nat} {D : va_G} {cA : Nat → ClassId} {n : Nat} {l : Launch} {p0 : Int} {Q : Int → ml_St → Prop} (X : ml_X p s m c meth args D cA cX5_leavesOne 4 RX5 (some .boolean)) (hn : 214 ≤ n) (hp_p0 : ml_at n p0 (19, 8)) (σ : ml_St) (x3 : Int) (h_x3 : I32 x3) (ls : Array Slot) (hl : lv_has ls 4 [(0, .ref (base + (p0 : Int).toNat)), (1, .ref (base + (46 : Int).toNat)), (2, .ref (base + (4 : Int).toNat)), (3, .int (Int32.ofInt x3))]) (hw : f_X5_leavesOne_u0 Q p0 σ x3) : ml_V p l e rm_X5_leavesOne s m args below meth c (MQ below (ml_Qi ml_B base D cA n Q) args s 0 0 (ml_A base)) base D cA 0 0 n n σ (F0 m 0 ls []) := by
  unfold f_X5_leavesOne_u0 at hw
  refine ml_aload_n (pc := 0) X hl 0 rfl rfl dX5_leavesOne_0 ?_
  refine gf_X5_60 (pc := 1) X hp_p0 dX5_leavesOne_1 (fun r1 => ?_)
  have hw := hw r1
  refine ml_aload_n (pc := 4) X hl 2 rfl rfl dX5_leavesOne_4 ?_
  refine ml_aload_n (pc := 5) X hl 0 rfl rfl dX5_leavesOne_5 ?_
  refine ml_iload_n (pc := 6) X hl 3 rfl rfl dX5_leavesOne_6 ?_
  refine ml_calliV (pc := 7) (rest := [.long (Int64.ofInt (σ p0 2))]) X [.ref (base + (p0 : Int).toNat), .int (Int32.ofInt x3)] (by decide) rfl (ml_c4 hn) (c_X0_loopsBy l base D cA n hn σ p0 hp_p0 x3 h_x3 _ hw) cv_X5_64 ⟨rfl, rfl⟩ ⟨by decide, by decide⟩ rfl rfl hl (Nat.le_of_ble_eq_true rfl) ⟨Nat.zero_le _, Nat.zero_le _⟩ dX5_leavesOne_7 (fun r2 σ2 t2 hw => ?_)
  have hw := hw t2
  refine ml_i2l (pc := 10) X t2 dX5_leavesOne_10 ?_
  refine ml_laddW (pc := 11) X dX5_leavesOne_11 ?_
  refine ml_lconst1 (pc := 12) X dX5_leavesOne_12 ?_
  refine ml_lcmp_eq (pc := 13) (tgt := 19) X (w64_r _) ⟨by decide, by decide⟩ dX5_leavesOne_13 dX5_leavesOne_14 (by decide) (fun c4 => ?_) (fun c4 => ?_)
  · have hw := hw.1 c4
    refine ml_aload_n (pc := 19) X hl 1 rfl rfl dX5_leavesOne_19 ?_
    refine ml_aload_n (pc := 20) X hl 0 rfl rfl dX5_leavesOne_20 ?_
    refine ml_aload_n (pc := 21) X hl 2 rfl rfl dX5_leavesOne_21 ?_
    refine ml_iload_n (pc := 22) X hl 3 rfl rfl dX5_leavesOne_22 ?_
    refine ml_callvV (pc := 23) (rest := []) X [.ref (base + (p0 : Int).toNat), .ref (base + (4 : Int).toNat), .int (Int32.ofInt x3)] (by decide) rfl (ml_c46 hn) (c_X6_study l base D cA n hn σ2 p0 hp_p0 x3 h_x3 _ hw) cv_X5_70 ⟨rfl, rfl⟩ ⟨by decide, by decide⟩ rfl rfl hl (Nat.le_of_ble_eq_true rfl) ⟨Nat.zero_le _, Nat.zero_le _⟩ dX5_leavesOne_23 (fun σ5 hw => ?_)
    refine ml_aload_n (pc := 26) X hl 1 rfl rfl dX5_leavesOne_26 ?_
    refine ml_callzV (pc := 27) (rest := []) X [] (by decide) rfl (ml_c46 hn) (c_X6_alwaysLeaveOne l base D cA n hn σ5 _ hw) cv_X5_76 ⟨rfl, rfl⟩ ⟨by decide, by decide⟩ rfl rfl hl (Nat.le_of_ble_eq_true rfl) ⟨Nat.zero_le _, Nat.zero_le _⟩ dX5_leavesOne_27 (fun r6 σ6 t6 hw => ?_)
    have hw := hw t6
    exact ml_zret (pc := 30) X t6 hw dX5_leavesOne_30
  · have hw := hw.2 c4
    refine ml_iconst (pc := 17) X dX5_leavesOne_17 ?_
    exact ml_zret (pc := 18) X ⟨by decide, by decide⟩ hw dX5_leavesOne_18
set_option maxRecDepth 100000 in
theorem c_X5_leavesOne (l : Launch) (base : Nat) (D : va_G) (cA : Nat → ClassId) (n : Nat) (hn : 214 ≤ n) (σ : ml_St) (p0 : Int) (hp_p0 : ml_at n p0 (19, 8)) (x3 : Int) (h_x3 : I32 x3) (Q : Int → ml_St → Prop) (hw : f_X5_leavesOne σ p0 x3 Q) : Met l yX5_leavesOne (Cond.code yX5_leavesOne cX5_leavesOne 4 (some .boolean) :: ml_T) rm_X5_leavesOne (va_Pc [.ref (base + (p0 : Int).toNat), .ref (base + (46 : Int).toNat), .ref (base + (4 : Int).toNat), .int (Int32.ofInt x3)] (ml_U base D cA n σ)) (ml_Qi ml_B base D cA n Q) 0 0 (ml_A base) := by
  refine Met.ofW (cc := cX5_leavesOne) (maxL := 4) (ret := (some .boolean)) (by decide) rfl ?_
  intro p e s m args below meth c s₁ B hml hv
  obtain ⟨rfl, hP, hK, hok, hro⟩ := hv
  have X : ml_X p s m c meth _ D cA cX5_leavesOne 4 RX5 (some .boolean) := ⟨B.exec, B.bytes, hml, findClass_of_methodNamed B.named, fun w hw => atoms_spec (ws := Cond.code yX5_leavesOne cX5_leavesOne 4 (some .boolean) :: ml_T) B.pre w (List.mem_cons_of_mem _ hw), hK, B.notSynchronized, B.returns⟩
  have hl := lv_entry [.ref (base + (p0 : Int).toNat), .ref (base + (46 : Int).toNat), .ref (base + (4 : Int).toNat), .int (Int32.ofInt x3)] (n := 4) (Nat.le_of_ble_eq_true rfl)
  rw [lg_entry_eq]
  generalize (lg_sl [.ref (base + (p0 : Int).toNat), .ref (base + (46 : Int).toNat), .ref (base + (4 : Int).toNat), .int (Int32.ofInt x3)] ++ List.replicate (4 - (lg_sl [.ref (base + (p0 : Int).toNat), .ref (base + (46 : Int).toNat), .ref (base + (4 : Int).toNat), .int (Int32.ofInt x3)]).length) Slot.unset).toArray = ls at hl ⊢
  have hl : lv_has ls 4 [(0, .ref (base + (p0 : Int).toNat)), (1, .ref (base + (46 : Int).toNat)), (2, .ref (base + (4 : Int).toNat)), (3, .int (Int32.ofInt x3))] := hl
  unfold f_X5_leavesOne at hw
  exact u_X5_leavesOne_0 X hn hp_p0 σ x3 h_x3 _ (lv_sub hl [0, 1, 2, 3] rfl) hw s.heap [] hP va_S.rf hok hro
theorem dX5_leastSet_0 : decode cX5_leastSet 0 = .ok (.aload_n 1, 1) := by decide +kernel
theorem dX5_leastSet_1 : decode cX5_leastSet 1 = .ok (.getfield 22, 3) := by decide +kernel
theorem dX5_leastSet_4 : decode cX5_leastSet 4 = .ok (.iconst 2, 1) := by decide +kernel
theorem dX5_leastSet_5 : decode cX5_leastSet 5 = .ok (.idiv, 1) := by decide +kernel
theorem dX5_leastSet_6 : decode cX5_leastSet 6 = .ok (.bipush 10, 2) := by decide +kernel
theorem dX5_leastSet_8 : decode cX5_leastSet 8 = .ok (.invokestatic 28, 3) := by decide +kernel
theorem dX5_leastSet_11 : decode cX5_leastSet 11 = .ok (.istore 5, 2) := by decide +kernel
theorem dX5_leastSet_13 : decode cX5_leastSet 13 = .ok (.bipush (-2), 2) := by decide +kernel
theorem dX5_leastSet_15 : decode cX5_leastSet 15 = .ok (.istore 6, 2) := by decide +kernel
theorem dX5_leastSet_17 : decode cX5_leastSet 17 = .ok (.bipush 11, 2) := by decide +kernel
theorem dX5_leastSet_19 : decode cX5_leastSet 19 = .ok (.istore 7, 2) := by decide +kernel
theorem dX5_leastSet_21 : decode cX5_leastSet 21 = .ok (.aload_n 0, 1) := by decide +kernel
theorem dX5_leastSet_22 : decode cX5_leastSet 22 = .ok (.getfield 11, 3) := by decide +kernel
theorem dX5_leastSet_25 : decode cX5_leastSet 25 = .ok (.iload 5, 2) := by decide +kernel
theorem dX5_leastSet_27 : decode cX5_leastSet 27 = .ok (.aaload, 1) := by decide +kernel
theorem dX5_leastSet_28 : decode cX5_leastSet 28 = .ok (.iload 4, 2) := by decide +kernel
theorem dX5_leastSet_30 : decode cX5_leastSet 30 = .ok (.invokevirtual 34, 3) := by decide +kernel
theorem dX5_leastSet_33 : decode cX5_leastSet 33 = .ok (.iconst 0, 1) := by decide +kernel
theorem dX5_leastSet_34 : decode cX5_leastSet 34 = .ok (.istore 8, 2) := by decide +kernel
theorem dX5_leastSet_36 : decode cX5_leastSet 36 = .ok (.iload 8, 2) := by decide +kernel
theorem dX5_leastSet_38 : decode cX5_leastSet 38 = .ok (.iconst 1, 1) := by decide +kernel
theorem dX5_leastSet_39 : decode cX5_leastSet 39 = .ok (.iload 5, 2) := by decide +kernel
theorem dX5_leastSet_41 : decode cX5_leastSet 41 = .ok (.ishl, 1) := by decide +kernel
theorem dX5_leastSet_42 : decode cX5_leastSet 42 = .ok (.if_icmp .ge 192, 3) := by decide +kernel
theorem dX5_leastSet_45 : decode cX5_leastSet 45 = .ok (.iload 8, 2) := by decide +kernel
theorem dX5_leastSet_47 : decode cX5_leastSet 47 = .ok (.ifCond .ne 10, 3) := by decide +kernel
theorem dX5_leastSet_50 : decode cX5_leastSet 50 = .ok (.iload 5, 2) := by decide +kernel
theorem dX5_leastSet_52 : decode cX5_leastSet 52 = .ok (.iconst 1, 1) := by decide +kernel
theorem dX5_leastSet_53 : decode cX5_leastSet 53 = .ok (.isub, 1) := by decide +kernel
theorem dX5_leastSet_54 : decode cX5_leastSet 54 = .ok (.goto 14, 3) := by decide +kernel
theorem dX5_leastSet_57 : decode cX5_leastSet 57 = .ok (.iload 8, 2) := by decide +kernel
theorem dX5_leastSet_59 : decode cX5_leastSet 59 = .ok (.iload 8, 2) := by decide +kernel
theorem dX5_leastSet_61 : decode cX5_leastSet 61 = .ok (.ineg, 1) := by decide +kernel
theorem dX5_leastSet_62 : decode cX5_leastSet 62 = .ok (.iand, 1) := by decide +kernel
theorem dX5_leastSet_63 : decode cX5_leastSet 63 = .ok (.iconst 1, 1) := by decide +kernel
theorem dX5_leastSet_64 : decode cX5_leastSet 64 = .ok (.isub, 1) := by decide +kernel
theorem dX5_leastSet_65 : decode cX5_leastSet 65 = .ok (.invokestatic 38, 3) := by decide +kernel
theorem dX5_leastSet_68 : decode cX5_leastSet 68 = .ok (.istore 9, 2) := by decide +kernel
theorem dX5_leastSet_70 : decode cX5_leastSet 70 = .ok (.iload 9, 2) := by decide +kernel
theorem dX5_leastSet_72 : decode cX5_leastSet 72 = .ok (.istore 10, 2) := by decide +kernel
theorem dX5_leastSet_74 : decode cX5_leastSet 74 = .ok (.iload 10, 2) := by decide +kernel
theorem dX5_leastSet_76 : decode cX5_leastSet 76 = .ok (.ifCond .lt 114, 3) := by decide +kernel
theorem dX5_leastSet_79 : decode cX5_leastSet 79 = .ok (.aload_n 1, 1) := by decide +kernel
theorem dX5_leastSet_80 : decode cX5_leastSet 80 = .ok (.getfield 44, 3) := by decide +kernel
theorem dX5_leastSet_83 : decode cX5_leastSet 83 = .ok (.iconst 2, 1) := by decide +kernel
theorem dX5_leastSet_84 : decode cX5_leastSet 84 = .ok (.iload 10, 2) := by decide +kernel
theorem dX5_leastSet_86 : decode cX5_leastSet 86 = .ok (.imul, 1) := by decide +kernel
theorem dX5_leastSet_87 : decode cX5_leastSet 87 = .ok (.baload, 1) := by decide +kernel
theorem dX5_leastSet_88 : decode cX5_leastSet 88 = .ok (.bipush 117, 2) := by decide +kernel
theorem dX5_leastSet_90 : decode cX5_leastSet 90 = .ok (.if_icmp .ne 7, 3) := by decide +kernel
theorem dX5_leastSet_93 : decode cX5_leastSet 93 = .ok (.iconst 1, 1) := by decide +kernel
theorem dX5_leastSet_94 : decode cX5_leastSet 94 = .ok (.goto 4, 3) := by decide +kernel
theorem dX5_leastSet_97 : decode cX5_leastSet 97 = .ok (.iconst 0, 1) := by decide +kernel
theorem dX5_leastSet_98 : decode cX5_leastSet 98 = .ok (.iload 8, 2) := by decide +kernel
theorem dX5_leastSet_100 : decode cX5_leastSet 100 = .ok (.iload 10, 2) := by decide +kernel
theorem dX5_leastSet_102 : decode cX5_leastSet 102 = .ok (.ishr, 1) := by decide +kernel
theorem dX5_leastSet_103 : decode cX5_leastSet 103 = .ok (.iconst 1, 1) := by decide +kernel
theorem dX5_leastSet_104 : decode cX5_leastSet 104 = .ok (.iand, 1) := by decide +kernel
theorem dX5_leastSet_105 : decode cX5_leastSet 105 = .ok (.ifCond .eq 7, 3) := by decide +kernel
theorem dX5_leastSet_108 : decode cX5_leastSet 108 = .ok (.iconst 1, 1) := by decide +kernel
theorem dX5_leastSet_109 : decode cX5_leastSet 109 = .ok (.goto 4, 3) := by decide +kernel
theorem dX5_leastSet_112 : decode cX5_leastSet 112 = .ok (.iconst 0, 1) := by decide +kernel
theorem dX5_leastSet_113 : decode cX5_leastSet 113 = .ok (.if_icmp .eq 7, 3) := by decide +kernel
theorem dX5_leastSet_116 : decode cX5_leastSet 116 = .ok (.iconst 1, 1) := by decide +kernel
theorem dX5_leastSet_117 : decode cX5_leastSet 117 = .ok (.goto 4, 3) := by decide +kernel
theorem dX5_leastSet_120 : decode cX5_leastSet 120 = .ok (.iconst 0, 1) := by decide +kernel
theorem dX5_leastSet_121 : decode cX5_leastSet 121 = .ok (.istore 11, 2) := by decide +kernel
theorem dX5_leastSet_123 : decode cX5_leastSet 123 = .ok (.aload_n 0, 1) := by decide +kernel
theorem dX5_leastSet_124 : decode cX5_leastSet 124 = .ok (.getfield 18, 3) := by decide +kernel
theorem dX5_leastSet_127 : decode cX5_leastSet 127 = .ok (.iconst 2, 1) := by decide +kernel
theorem dX5_leastSet_128 : decode cX5_leastSet 128 = .ok (.aload_n 1, 1) := by decide +kernel
theorem dX5_leastSet_129 : decode cX5_leastSet 129 = .ok (.getfield 44, 3) := by decide +kernel
theorem dX5_leastSet_132 : decode cX5_leastSet 132 = .ok (.iconst 2, 1) := by decide +kernel
theorem dX5_leastSet_133 : decode cX5_leastSet 133 = .ok (.iload 10, 2) := by decide +kernel
theorem dX5_leastSet_135 : decode cX5_leastSet 135 = .ok (.imul, 1) := by decide +kernel
theorem dX5_leastSet_136 : decode cX5_leastSet 136 = .ok (.iconst 1, 1) := by decide +kernel
theorem dX5_leastSet_137 : decode cX5_leastSet 137 = .ok (.iadd, 1) := by decide +kernel
theorem dX5_leastSet_138 : decode cX5_leastSet 138 = .ok (.baload, 1) := by decide +kernel
theorem dX5_leastSet_139 : decode cX5_leastSet 139 = .ok (.bipush 48, 2) := by decide +kernel
theorem dX5_leastSet_141 : decode cX5_leastSet 141 = .ok (.isub, 1) := by decide +kernel
theorem dX5_leastSet_142 : decode cX5_leastSet 142 = .ok (.imul, 1) := by decide +kernel
theorem dX5_leastSet_143 : decode cX5_leastSet 143 = .ok (.iload 11, 2) := by decide +kernel
theorem dX5_leastSet_145 : decode cX5_leastSet 145 = .ok (.ifCond .eq 7, 3) := by decide +kernel
theorem dX5_leastSet_148 : decode cX5_leastSet 148 = .ok (.iconst 1, 1) := by decide +kernel
theorem dX5_leastSet_149 : decode cX5_leastSet 149 = .ok (.goto 4, 3) := by decide +kernel
theorem dX5_leastSet_152 : decode cX5_leastSet 152 = .ok (.iconst 0, 1) := by decide +kernel
theorem dX5_leastSet_153 : decode cX5_leastSet 153 = .ok (.iadd, 1) := by decide +kernel
theorem dX5_leastSet_154 : decode cX5_leastSet 154 = .ok (.iload 4, 2) := by decide +kernel
theorem dX5_leastSet_156 : decode cX5_leastSet 156 = .ok (.invokevirtual 48, 3) := by decide +kernel
theorem dX5_leastSet_159 : decode cX5_leastSet 159 = .ok (.aload_n 0, 1) := by decide +kernel
theorem dX5_leastSet_160 : decode cX5_leastSet 160 = .ok (.getfield 11, 3) := by decide +kernel
theorem dX5_leastSet_163 : decode cX5_leastSet 163 = .ok (.iload 10, 2) := by decide +kernel
theorem dX5_leastSet_165 : decode cX5_leastSet 165 = .ok (.aaload, 1) := by decide +kernel
theorem dX5_leastSet_166 : decode cX5_leastSet 166 = .ok (.aload_n 0, 1) := by decide +kernel
theorem dX5_leastSet_167 : decode cX5_leastSet 167 = .ok (.getfield 18, 3) := by decide +kernel
theorem dX5_leastSet_170 : decode cX5_leastSet 170 = .ok (.aload_n 0, 1) := by decide +kernel
theorem dX5_leastSet_171 : decode cX5_leastSet 171 = .ok (.getfield 11, 3) := by decide +kernel
theorem dX5_leastSet_174 : decode cX5_leastSet 174 = .ok (.iload 10, 2) := by decide +kernel
theorem dX5_leastSet_176 : decode cX5_leastSet 176 = .ok (.iconst 1, 1) := by decide +kernel
theorem dX5_leastSet_177 : decode cX5_leastSet 177 = .ok (.iadd, 1) := by decide +kernel
theorem dX5_leastSet_178 : decode cX5_leastSet 178 = .ok (.aaload, 1) := by decide +kernel
theorem dX5_leastSet_179 : decode cX5_leastSet 179 = .ok (.iload 4, 2) := by decide +kernel
theorem dX5_leastSet_181 : decode cX5_leastSet 181 = .ok (.invokevirtual 52, 3) := by decide +kernel
theorem dX5_leastSet_184 : decode cX5_leastSet 184 = .ok (.iinc 10 (-1), 3) := by decide +kernel
theorem dX5_leastSet_187 : decode cX5_leastSet 187 = .ok (.goto (-113), 3) := by decide +kernel
theorem dX5_leastSet_190 : decode cX5_leastSet 190 = .ok (.iload 8, 2) := by decide +kernel
theorem dX5_leastSet_192 : decode cX5_leastSet 192 = .ok (.invokestatic 38, 3) := by decide +kernel
theorem dX5_leastSet_195 : decode cX5_leastSet 195 = .ok (.istore 10, 2) := by decide +kernel
theorem dX5_leastSet_197 : decode cX5_leastSet 197 = .ok (.iload 10, 2) := by decide +kernel
theorem dX5_leastSet_199 : decode cX5_leastSet 199 = .ok (.iload 7, 2) := by decide +kernel
theorem dX5_leastSet_201 : decode cX5_leastSet 201 = .ok (.if_icmp .ge 27, 3) := by decide +kernel
theorem dX5_leastSet_204 : decode cX5_leastSet 204 = .ok (.aload_n 0, 1) := by decide +kernel
theorem dX5_leastSet_205 : decode cX5_leastSet 205 = .ok (.getfield 11, 3) := by decide +kernel
theorem dX5_leastSet_208 : decode cX5_leastSet 208 = .ok (.iconst 0, 1) := by decide +kernel
theorem dX5_leastSet_209 : decode cX5_leastSet 209 = .ok (.aaload, 1) := by decide +kernel
theorem dX5_leastSet_210 : decode cX5_leastSet 210 = .ok (.aload_n 2, 1) := by decide +kernel
theorem dX5_leastSet_211 : decode cX5_leastSet 211 = .ok (.aload_n 3, 1) := by decide +kernel
theorem dX5_leastSet_212 : decode cX5_leastSet 212 = .ok (.iload 4, 2) := by decide +kernel
theorem dX5_leastSet_214 : decode cX5_leastSet 214 = .ok (.invokestatic 56, 3) := by decide +kernel
theorem dX5_leastSet_217 : decode cX5_leastSet 217 = .ok (.ifCond .eq 11, 3) := by decide +kernel
theorem dX5_leastSet_220 : decode cX5_leastSet 220 = .ok (.iload 8, 2) := by decide +kernel
theorem dX5_leastSet_222 : decode cX5_leastSet 222 = .ok (.istore 6, 2) := by decide +kernel
theorem dX5_leastSet_224 : decode cX5_leastSet 224 = .ok (.iload 10, 2) := by decide +kernel
theorem dX5_leastSet_226 : decode cX5_leastSet 226 = .ok (.istore 7, 2) := by decide +kernel
theorem dX5_leastSet_228 : decode cX5_leastSet 228 = .ok (.iinc 8 1, 3) := by decide +kernel
theorem dX5_leastSet_231 : decode cX5_leastSet 231 = .ok (.goto (-195), 3) := by decide +kernel
theorem dX5_leastSet_234 : decode cX5_leastSet 234 = .ok (.iload 6, 2) := by decide +kernel
theorem dX5_leastSet_236 : decode cX5_leastSet 236 = .ok (.ireturn, 1) := by decide +kernel
def f_X5_leastSet_u153 (Q : Int → ml_St → Prop) (K74 : ml_St → Int → Int → Int → Int → Int → Int → Prop) (p1 : Int) (σ : ml_St) (x4 : Int) (x5 : Int) (x6 : Int) (x7 : Int) (x8 : Int) (x10 : Int) (s1 : Int) (s2 : Int) : Prop :=
I32 (s1 + s2) ∧
f_X9_beSign σ 78 (s1 + s2) x4 (fun σ2 =>
(0 : Int) ≤ x10 ∧ (x10 : Int) < 11 ∧
I32 (x10 + 1) ∧
(0 : Int) ≤ (x10 + 1) ∧ ((x10 + 1) : Int) < 11 ∧
f_X9_beBoth σ2 (81 + 3 * x10) 78 (81 + 3 * (x10 + 1)) x4 (fun σ6 =>
I32 (x10 + (-1)) ∧
∀ y7 : Int, y7 = x10 + (-1) →
K74 σ6 x4 x5 x6 x7 x8 y7))
def f_X5_leastSet_u121 (Q : Int → ml_St → Prop) (K74 : ml_St → Int → Int → Int → Int → Int → Int → Prop) (p1 : Int) (σ : ml_St) (x4 : Int) (x5 : Int) (x6 : Int) (x7 : Int) (x8 : Int) (x10 : Int) (s0 : Int) : Prop :=
I32 (2 * x10) ∧
I32 ((2 * x10) + 1) ∧
(0 : Int) ≤ ((2 * x10) + 1) ∧ (((2 * x10) + 1) : Int) < 100 ∧
∀ _ : ml_I8 (σ (p1 + 1) ((2 * x10) + 1)),
I32 ((σ (p1 + 1) ((2 * x10) + 1)) - 48) ∧
I32 (2 * ((σ (p1 + 1) ((2 * x10) + 1)) - 48)) ∧
(s0 = 0 →
f_X5_leastSet_u153 Q K74 p1 σ x4 x5 x6 x7 x8 x10 (2 * ((σ (p1 + 1) ((2 * x10) + 1)) - 48)) 0) ∧
(s0 ≠ 0 →
f_X5_leastSet_u153 Q K74 p1 σ x4 x5 x6 x7 x8 x10 (2 * ((σ (p1 + 1) ((2 * x10) + 1)) - 48)) 1)
def f_X5_leastSet_u113 (Q : Int → ml_St → Prop) (K74 : ml_St → Int → Int → Int → Int → Int → Int → Prop) (p1 : Int) (σ : ml_St) (x4 : Int) (x5 : Int) (x6 : Int) (x7 : Int) (x8 : Int) (x10 : Int) (s0 : Int) (s1 : Int) : Prop :=
(s0 = s1 →
f_X5_leastSet_u121 Q K74 p1 σ x4 x5 x6 x7 x8 x10 0) ∧
(s0 ≠ s1 →
f_X5_leastSet_u121 Q K74 p1 σ x4 x5 x6 x7 x8 x10 1)
def f_X5_leastSet_u98 (Q : Int → ml_St → Prop) (K74 : ml_St → Int → Int → Int → Int → Int → Int → Prop) (p1 : Int) (σ : ml_St) (x4 : Int) (x5 : Int) (x6 : Int) (x7 : Int) (x8 : Int) (x10 : Int) (s0 : Int) : Prop :=
(((b_and (b_shr x8 x10) 1) : Int) = 0 →
f_X5_leastSet_u113 Q K74 p1 σ x4 x5 x6 x7 x8 x10 s0 0) ∧
((b_and (b_shr x8 x10) 1) ≠ 0 →
f_X5_leastSet_u113 Q K74 p1 σ x4 x5 x6 x7 x8 x10 s0 1)
def f_X5_leastSet_u74 (Q : Int → ml_St → Prop) (K190 : ml_St → Int → Int → Int → Int → Int → Prop) (p1 : Int) : Nat → ml_St → Int → Int → Int → Int → Int → Int → Prop
| 0, _, _, _, _, _, _, _ => False
| N + 1, σ, x4, x5, x6, x7, x8, x10 =>
(x10 < 0 →
K190 σ x4 x5 x6 x7 x8) ∧
(¬ (x10 < 0) →
I32 (2 * x10) ∧
(0 : Int) ≤ (2 * x10) ∧ ((2 * x10) : Int) < 100 ∧
∀ _ : ml_I8 (σ (p1 + 1) (2 * x10)),
(((σ (p1 + 1) (2 * x10)) : Int) ≠ 117 →
f_X5_leastSet_u98 Q (f_X5_leastSet_u74 Q K190 p1 N) p1 σ x4 x5 x6 x7 x8 x10 0) ∧
((σ (p1 + 1) (2 * x10)) = 117 →
f_X5_leastSet_u98 Q (f_X5_leastSet_u74 Q K190 p1 N) p1 σ x4 x5 x6 x7 x8 x10 1))
def f_X5_leastSet_u228 (Q : Int → ml_St → Prop) (K36 : ml_St → Int → Int → Int → Int → Int → Prop) (p1 : Int) (σ : ml_St) (x4 : Int) (x5 : Int) (x6 : Int) (x7 : Int) (x8 : Int) : Prop :=
I32 (x8 + 1) ∧
∀ y1 : Int, y1 = x8 + 1 →
K36 σ x4 x5 x6 x7 y1
def f_X5_leastSet_u190 (Q : Int → ml_St → Prop) (K36 : ml_St → Int → Int → Int → Int → Int → Prop) (p1 : Int) (σ : ml_St) (x4 : Int) (x5 : Int) (x6 : Int) (x7 : Int) (x8 : Int) : Prop :=
f_J6_bitCount_0f7a4 σ x8 (fun r1 σ1 => ∀ _ : I32 r1,
(x7 ≤ r1 →
f_X5_leastSet_u228 Q K36 p1 σ1 x4 x5 x6 x7 x8) ∧
(¬ (x7 ≤ r1) →
(0 : Int) ≤ 0 ∧ (0 : Int) < 11 ∧
f_X5_leavesOne σ1 (81 + 3 * 0) x4 (fun r4 σ4 => ∀ _ : ml_B r4,
(r4 = 0 →
f_X5_leastSet_u228 Q K36 p1 σ4 x4 x5 x6 x7 x8) ∧
(r4 ≠ 0 →
f_X5_leastSet_u228 Q K36 p1 σ4 x4 x5 x8 r1 x8))))
def f_X5_leastSet_u68 (Q : Int → ml_St → Prop) (K36 : ml_St → Int → Int → Int → Int → Int → Prop) (p1 : Int) (σ : ml_St) (x4 : Int) (x5 : Int) (x6 : Int) (x7 : Int) (x8 : Int) (s0 : Int) : Prop :=
∃ N1, f_X5_leastSet_u74 Q (f_X5_leastSet_u190 Q K36 p1) p1 N1 σ x4 x5 x6 x7 x8 s0
def f_X5_leastSet_u36 (Q : Int → ml_St → Prop) (K234 : ml_St → Int → Prop) (p1 : Int) : Nat → ml_St → Int → Int → Int → Int → Int → Prop
| 0, _, _, _, _, _, _ => False
| N + 1, σ, x4, x5, x6, x7, x8 =>
((b_shl 1 x5) ≤ x8 →
K234 σ x6) ∧
(¬ ((b_shl 1 x5) ≤ x8) →
(x8 ≠ 0 →
I32 (-x8) ∧
I32 ((b_and x8 (-x8)) - 1) ∧
f_J6_bitCount_0f7a4 σ ((b_and x8 (-x8)) - 1) (fun r5 σ5 => ∀ _ : I32 r5,
f_X5_leastSet_u68 Q (f_X5_leastSet_u36 Q K234 p1 N) p1 σ5 x4 x5 x6 x7 x8 r5)) ∧
(x8 = 0 →
I32 (x5 - 1) ∧
f_X5_leastSet_u68 Q (f_X5_leastSet_u36 Q K234 p1 N) p1 σ x4 x5 x6 x7 x8 (x5 - 1)))
def f_X5_leastSet_u234 (Q : Int → ml_St → Prop) (p1 : Int) (σ : ml_St) (x6 : Int) : Prop :=
Q x6 σ
def f_X5_leastSet_u0 (Q : Int → ml_St → Prop) (p1 : Int) (σ : ml_St) (x4 : Int) : Prop :=
∀ _ : I32 (σ p1 1),
(2 : Int) ≠ 0 ∧ I32 (Int.tdiv (σ p1 1) 2) ∧
∀ y3 : Int, y3 = min (Int.tdiv (σ p1 1) 2) 10 →
(0 : Int) ≤ y3 ∧ (y3 : Int) < 11 ∧
f_X9_beStraight σ (81 + 3 * y3) x4 (fun σ5 =>
∃ N1, f_X5_leastSet_u36 Q (f_X5_leastSet_u234 Q p1) p1 N1 σ5 x4 y3 (-2) 11 0)
def f_X5_leastSet (σ : ml_St) (p1 : Int) (x4 : Int) (Q : Int → ml_St → Prop) : Prop := f_X5_leastSet_u0 Q p1 σ x4
def rm_X5_leastSet : Room := { frames := 5, cells := 0, slots := 0, locals := 164 }
set_option maxRecDepth 100000 in
set_option maxHeartbeats 4000000 in
theorem u_X5_leastSet_153 {p : Program} {e : Env} {s : State} {m : MethodId} {args : Array Value} {below : List Frame} {meth : Method} {c : Code} {base : Nat} {D : va_G} {cA : Nat → ClassId} {n : Nat} {l : Launch} {p1 : Int} {Q : Int → ml_St → Prop} {K74 : ml_St → Int → Int → Int → Int → Int → Int → Prop} (X : ml_X p s m c meth args D cA cX5_leastSet 12 RX5 (some .int)) (hn : 214 ≤ n) (hp_p1 : ml_at n p1 (20, 8)) (hK74 : ∀ (σ : ml_St) (x4 : Int) (x5 : Int) (x6 : Int) (x7 : Int) (x8 : Int) (x10 : Int) (h_x4 : I32 x4) (h_x5 : I32 x5) (h_x6 : I32 x6) (h_x7 : I32 x7) (h_x8 : I32 x8) (h_x10 : I32 x10) (ls : Array Slot), lv_has ls 12 [(0, .ref (base + (76 : Int).toNat)), (1, .ref (base + (p1 : Int).toNat)), (2, .ref (base + (46 : Int).toNat)), (3, .ref (base + (4 : Int).toNat)), (4, .int (Int32.ofInt x4)), (5, .int (Int32.ofInt x5)), (6, .int (Int32.ofInt x6)), (7, .int (Int32.ofInt x7)), (8, .int (Int32.ofInt x8)), (10, .int (Int32.ofInt x10))] → K74 σ x4 x5 x6 x7 x8 x10 → ml_V p l e rm_X5_leastSet s m args below meth c (MQ below (ml_Qi I32 base D cA n Q) args s 0 0 (ml_A base)) base D cA 0 0 n n σ (F0 m 74 ls [])) (σ : ml_St) (x4 : Int) (x5 : Int) (x6 : Int) (x7 : Int) (x8 : Int) (x10 : Int) (s1 : Int) (s2 : Int) (h_x4 : I32 x4) (h_x5 : I32 x5) (h_x6 : I32 x6) (h_x7 : I32 x7) (h_x8 : I32 x8) (h_x10 : I32 x10) (h_s1 : I32 s1) (h_s2 : ml_B s2) (ls : Array Slot) (hl : lv_has ls 12 [(0, .ref (base + (76 : Int).toNat)), (1, .ref (base + (p1 : Int).toNat)), (2, .ref (base + (46 : Int).toNat)), (3, .ref (base + (4 : Int).toNat)), (4, .int (Int32.ofInt x4)), (5, .int (Int32.ofInt x5)), (6, .int (Int32.ofInt x6)), (7, .int (Int32.ofInt x7)), (8, .int (Int32.ofInt x8)), (10, .int (Int32.ofInt x10))]) (hw : f_X5_leastSet_u153 Q K74 p1 σ x4 x5 x6 x7 x8 x10 s1 s2) : ml_V p l e rm_X5_leastSet s m args below meth c (MQ below (ml_Qi I32 base D cA n Q) args s 0 0 (ml_A base)) base D cA 0 0 n n σ (F0 m 153 ls [.int (Int32.ofInt s2), .int (Int32.ofInt s1), .ref (base + (78 : Int).toNat)]) := by
  unfold f_X5_leastSet_u153 at hw
  obtain ⟨v1, hw⟩ := hw
  refine ml_iadd (pc := 153) X dX5_leastSet_153 ?_
  refine ml_iload (pc := 154) X hl 4 rfl dX5_leastSet_154 ?_
  refine ml_callvV (pc := 156) (rest := []) X [.int (Int32.ofInt (s1 + s2)), .int (Int32.ofInt x4)] (by decide) rfl (ml_c78 hn) (c_X9_beSign l base D cA n hn σ 78 (ml_c78 hn) (s1 + s2) x4 v1 h_x4 _ hw) cv_X5_48 ⟨rfl, rfl⟩ ⟨by decide, by decide⟩ rfl rfl hl (Nat.le_of_ble_eq_true rfl) ⟨Nat.zero_le _, Nat.zero_le _⟩ dX5_leastSet_156 (fun σ2 hw => ?_)
  refine ml_aload_n (pc := 159) X hl 0 rfl rfl dX5_leastSet_159 ?_
  refine gf_X5_11 (pc := 160) X (ml_c76 hn) dX5_leastSet_160 ?_
  refine ml_iload (pc := 163) X hl 9 rfl dX5_leastSet_163 ?_
  obtain ⟨a3, b3, hw⟩ := hw
  refine ml_aald_tails (pc := 165) X hn a3 b3 dX5_leastSet_165 ?_
  refine ml_aload_n (pc := 166) X hl 0 rfl rfl dX5_leastSet_166 ?_
  refine gf_X5_18 (pc := 167) X (ml_c76 hn) dX5_leastSet_167 ?_
  refine ml_aload_n (pc := 170) X hl 0 rfl rfl dX5_leastSet_170 ?_
  refine gf_X5_11 (pc := 171) X (ml_c76 hn) dX5_leastSet_171 ?_
  refine ml_iload (pc := 174) X hl 9 rfl dX5_leastSet_174 ?_
  refine ml_iconst (pc := 176) X dX5_leastSet_176 ?_
  obtain ⟨v4, hw⟩ := hw
  refine ml_iadd (pc := 177) X dX5_leastSet_177 ?_
  obtain ⟨a5, b5, hw⟩ := hw
  refine ml_aald_tails (pc := 178) X hn a5 b5 dX5_leastSet_178 ?_
  refine ml_iload (pc := 179) X hl 4 rfl dX5_leastSet_179 ?_
  refine ml_callvV (pc := 181) (rest := []) X [.ref (base + (78 : Int).toNat), .ref (base + ((81 + 3 * (x10 + 1)) : Int).toNat), .int (Int32.ofInt x4)] (by decide) rfl (ml_at_tails hn a3 b3) (c_X9_beBoth l base D cA n hn σ2 (81 + 3 * x10) 78 (81 + 3 * (x10 + 1)) (ml_at_tails hn a3 b3) (ml_c78 hn) (ml_at_tails hn a5 b5) x4 h_x4 _ hw) cv_X5_52 ⟨rfl, rfl⟩ ⟨by decide, by decide⟩ rfl rfl hl (Nat.le_of_ble_eq_true rfl) ⟨Nat.zero_le _, Nat.zero_le _⟩ dX5_leastSet_181 (fun σ6 hw => ?_)
  obtain ⟨v7, hw⟩ := hw
  obtain ⟨y7, e7⟩ : ∃ y : Int, y = x10 + (-1) := ⟨_, rfl⟩
  have hw := hw y7 e7
  rw [← e7] at v7
  refine ml_iinc (pc := 184) X e7 hl 9 rfl (by decide) (lst' := [(10, .int (Int32.ofInt y7)), (0, .ref (base + (76 : Int).toNat)), (1, .ref (base + (p1 : Int).toNat)), (2, .ref (base + (46 : Int).toNat)), (3, .ref (base + (4 : Int).toNat)), (4, .int (Int32.ofInt x4)), (5, .int (Int32.ofInt x5)), (6, .int (Int32.ofInt x6)), (7, .int (Int32.ofInt x7)), (8, .int (Int32.ofInt x8))]) rfl dX5_leastSet_184 (fun ls hl => ?_)
  refine ml_goto (pc := 187) (tgt := 74) X dX5_leastSet_187 (by decide) ?_
  exact hK74 σ6 x4 x5 x6 x7 x8 y7 h_x4 h_x5 h_x6 h_x7 h_x8 v7 _ (lv_sub hl [1, 2, 3, 4, 5, 6, 7, 8, 9, 0] rfl) hw
set_option maxRecDepth 100000 in
set_option maxHeartbeats 4000000 in
theorem u_X5_leastSet_121 {p : Program} {e : Env} {s : State} {m : MethodId} {args : Array Value} {below : List Frame} {meth : Method} {c : Code} {base : Nat} {D : va_G} {cA : Nat → ClassId} {n : Nat} {l : Launch} {p1 : Int} {Q : Int → ml_St → Prop} {K74 : ml_St → Int → Int → Int → Int → Int → Int → Prop} (X : ml_X p s m c meth args D cA cX5_leastSet 12 RX5 (some .int)) (hn : 214 ≤ n) (hp_p1 : ml_at n p1 (20, 8)) (hK74 : ∀ (σ : ml_St) (x4 : Int) (x5 : Int) (x6 : Int) (x7 : Int) (x8 : Int) (x10 : Int) (h_x4 : I32 x4) (h_x5 : I32 x5) (h_x6 : I32 x6) (h_x7 : I32 x7) (h_x8 : I32 x8) (h_x10 : I32 x10) (ls : Array Slot), lv_has ls 12 [(0, .ref (base + (76 : Int).toNat)), (1, .ref (base + (p1 : Int).toNat)), (2, .ref (base + (46 : Int).toNat)), (3, .ref (base + (4 : Int).toNat)), (4, .int (Int32.ofInt x4)), (5, .int (Int32.ofInt x5)), (6, .int (Int32.ofInt x6)), (7, .int (Int32.ofInt x7)), (8, .int (Int32.ofInt x8)), (10, .int (Int32.ofInt x10))] → K74 σ x4 x5 x6 x7 x8 x10 → ml_V p l e rm_X5_leastSet s m args below meth c (MQ below (ml_Qi I32 base D cA n Q) args s 0 0 (ml_A base)) base D cA 0 0 n n σ (F0 m 74 ls [])) (σ : ml_St) (x4 : Int) (x5 : Int) (x6 : Int) (x7 : Int) (x8 : Int) (x10 : Int) (s0 : Int) (h_x4 : I32 x4) (h_x5 : I32 x5) (h_x6 : I32 x6) (h_x7 : I32 x7) (h_x8 : I32 x8) (h_x10 : I32 x10) (h_s0 : ml_B s0) (ls : Array Slot) (hl : lv_has ls 12 [(0, .ref (base + (76 : Int).toNat)), (1, .ref (base + (p1 : Int).toNat)), (2, .ref (base + (46 : Int).toNat)), (3, .ref (base + (4 : Int).toNat)), (4, .int (Int32.ofInt x4)), (5, .int (Int32.ofInt x5)), (6, .int (Int32.ofInt x6)), (7, .int (Int32.ofInt x7)), (8, .int (Int32.ofInt x8)), (10, .int (Int32.ofInt x10))]) (hw : f_X5_leastSet_u121 Q K74 p1 σ x4 x5 x6 x7 x8 x10 s0) : ml_V p l e rm_X5_leastSet s m args below meth c (MQ below (ml_Qi I32 base D cA n Q) args s 0 0 (ml_A base)) base D cA 0 0 n n σ (F0 m 121 ls [.int (Int32.ofInt s0)]) := by
  unfold f_X5_leastSet_u121 at hw
  refine ml_istore (pc := 121) X hl (by decide) (lst' := [(11, .int (Int32.ofInt s0)), (0, .ref (base + (76 : Int).toNat)), (1, .ref (base + (p1 : Int).toNat)), (2, .ref (base + (46 : Int).toNat)), (3, .ref (base + (4 : Int).toNat)), (4, .int (Int32.ofInt x4)), (5, .int (Int32.ofInt x5)), (6, .int (Int32.ofInt x6)), (7, .int (Int32.ofInt x7)), (8, .int (Int32.ofInt x8)), (10, .int (Int32.ofInt x10))]) rfl dX5_leastSet_121 (fun ls hl => ?_)
  refine ml_aload_n (pc := 123) X hl 1 rfl rfl dX5_leastSet_123 ?_
  refine gf_X5_18 (pc := 124) X (ml_c76 hn) dX5_leastSet_124 ?_
  refine ml_iconst (pc := 127) X dX5_leastSet_127 ?_
  refine ml_aload_n (pc := 128) X hl 2 rfl rfl dX5_leastSet_128 ?_
  refine gf_X5_44 (pc := 129) X hp_p1 dX5_leastSet_129 ?_
  refine ml_iconst (pc := 132) X dX5_leastSet_132 ?_
  refine ml_iload (pc := 133) X hl 10 rfl dX5_leastSet_133 ?_
  obtain ⟨v1, hw⟩ := hw
  refine ml_imul (pc := 135) X dX5_leastSet_135 ?_
  refine ml_iconst (pc := 136) X dX5_leastSet_136 ?_
  obtain ⟨v2, hw⟩ := hw
  refine ml_iadd (pc := 137) X dX5_leastSet_137 ?_
  obtain ⟨a3, b3, hw⟩ := hw
  refine ml_bald (pc := 138) (N := 100) X (ml_r20_1 hn hp_p1) a3 b3 dX5_leastSet_138 (fun r3 => ?_)
  have hw := hw r3
  refine ml_bipush (pc := 139) X dX5_leastSet_139 (by decide) ?_
  obtain ⟨v4, hw⟩ := hw
  refine ml_isub (pc := 141) X dX5_leastSet_141 ?_
  obtain ⟨v5, hw⟩ := hw
  refine ml_imul (pc := 142) X dX5_leastSet_142 ?_
  refine ml_iload (pc := 143) X hl 0 rfl dX5_leastSet_143 ?_
  refine ml_if_eq (pc := 145) (tgt := 152) X h_s0.i dX5_leastSet_145 (by decide) (fun c6 => ?_) (fun c6 => ?_)
  · have hw := hw.1 c6
    refine ml_iconst (pc := 152) X dX5_leastSet_152 ?_
    exact u_X5_leastSet_153 X hn hp_p1 hK74 σ x4 x5 x6 x7 x8 x10 (2 * ((σ (p1 + 1) ((2 * x10) + 1)) - 48)) 0 h_x4 h_x5 h_x6 h_x7 h_x8 h_x10 v5 ⟨by decide, by decide⟩ _ (lv_sub hl [1, 2, 3, 4, 5, 6, 7, 8, 9, 10] rfl) hw
  · have hw := hw.2 c6
    refine ml_iconst (pc := 148) X dX5_leastSet_148 ?_
    refine ml_goto (pc := 149) (tgt := 153) X dX5_leastSet_149 (by decide) ?_
    exact u_X5_leastSet_153 X hn hp_p1 hK74 σ x4 x5 x6 x7 x8 x10 (2 * ((σ (p1 + 1) ((2 * x10) + 1)) - 48)) 1 h_x4 h_x5 h_x6 h_x7 h_x8 h_x10 v5 ⟨by decide, by decide⟩ _ (lv_sub hl [1, 2, 3, 4, 5, 6, 7, 8, 9, 10] rfl) hw
set_option maxRecDepth 100000 in
set_option maxHeartbeats 4000000 in
theorem u_X5_leastSet_113 {p : Program} {e : Env} {s : State} {m : MethodId} {args : Array Value} {below : List Frame} {meth : Method} {c : Code} {base : Nat} {D : va_G} {cA : Nat → ClassId} {n : Nat} {l : Launch} {p1 : Int} {Q : Int → ml_St → Prop} {K74 : ml_St → Int → Int → Int → Int → Int → Int → Prop} (X : ml_X p s m c meth args D cA cX5_leastSet 12 RX5 (some .int)) (hn : 214 ≤ n) (hp_p1 : ml_at n p1 (20, 8)) (hK74 : ∀ (σ : ml_St) (x4 : Int) (x5 : Int) (x6 : Int) (x7 : Int) (x8 : Int) (x10 : Int) (h_x4 : I32 x4) (h_x5 : I32 x5) (h_x6 : I32 x6) (h_x7 : I32 x7) (h_x8 : I32 x8) (h_x10 : I32 x10) (ls : Array Slot), lv_has ls 12 [(0, .ref (base + (76 : Int).toNat)), (1, .ref (base + (p1 : Int).toNat)), (2, .ref (base + (46 : Int).toNat)), (3, .ref (base + (4 : Int).toNat)), (4, .int (Int32.ofInt x4)), (5, .int (Int32.ofInt x5)), (6, .int (Int32.ofInt x6)), (7, .int (Int32.ofInt x7)), (8, .int (Int32.ofInt x8)), (10, .int (Int32.ofInt x10))] → K74 σ x4 x5 x6 x7 x8 x10 → ml_V p l e rm_X5_leastSet s m args below meth c (MQ below (ml_Qi I32 base D cA n Q) args s 0 0 (ml_A base)) base D cA 0 0 n n σ (F0 m 74 ls [])) (σ : ml_St) (x4 : Int) (x5 : Int) (x6 : Int) (x7 : Int) (x8 : Int) (x10 : Int) (s0 : Int) (s1 : Int) (h_x4 : I32 x4) (h_x5 : I32 x5) (h_x6 : I32 x6) (h_x7 : I32 x7) (h_x8 : I32 x8) (h_x10 : I32 x10) (h_s0 : ml_B s0) (h_s1 : ml_B s1) (ls : Array Slot) (hl : lv_has ls 12 [(0, .ref (base + (76 : Int).toNat)), (1, .ref (base + (p1 : Int).toNat)), (2, .ref (base + (46 : Int).toNat)), (3, .ref (base + (4 : Int).toNat)), (4, .int (Int32.ofInt x4)), (5, .int (Int32.ofInt x5)), (6, .int (Int32.ofInt x6)), (7, .int (Int32.ofInt x7)), (8, .int (Int32.ofInt x8)), (10, .int (Int32.ofInt x10))]) (hw : f_X5_leastSet_u113 Q K74 p1 σ x4 x5 x6 x7 x8 x10 s0 s1) : ml_V p l e rm_X5_leastSet s m args below meth c (MQ below (ml_Qi I32 base D cA n Q) args s 0 0 (ml_A base)) base D cA 0 0 n n σ (F0 m 113 ls [.int (Int32.ofInt s1), .int (Int32.ofInt s0)]) := by
  unfold f_X5_leastSet_u113 at hw
  refine ml_icmp_eq (pc := 113) (tgt := 120) X h_s0.i h_s1.i dX5_leastSet_113 (by decide) (fun c1 => ?_) (fun c1 => ?_)
  · have hw := hw.1 c1
    refine ml_iconst (pc := 120) X dX5_leastSet_120 ?_
    exact u_X5_leastSet_121 X hn hp_p1 hK74 σ x4 x5 x6 x7 x8 x10 0 h_x4 h_x5 h_x6 h_x7 h_x8 h_x10 ⟨by decide, by decide⟩ _ (lv_sub hl [0, 1, 2, 3, 4, 5, 6, 7, 8, 9] rfl) hw
  · have hw := hw.2 c1
    refine ml_iconst (pc := 116) X dX5_leastSet_116 ?_
    refine ml_goto (pc := 117) (tgt := 121) X dX5_leastSet_117 (by decide) ?_
    exact u_X5_leastSet_121 X hn hp_p1 hK74 σ x4 x5 x6 x7 x8 x10 1 h_x4 h_x5 h_x6 h_x7 h_x8 h_x10 ⟨by decide, by decide⟩ _ (lv_sub hl [0, 1, 2, 3, 4, 5, 6, 7, 8, 9] rfl) hw
set_option maxRecDepth 100000 in
set_option maxHeartbeats 4000000 in
theorem u_X5_leastSet_98 {p : Program} {e : Env} {s : State} {m : MethodId} {args : Array Value} {below : List Frame} {meth : Method} {c : Code} {base : Nat} {D : va_G} {cA : Nat → ClassId} {n : Nat} {l : Launch} {p1 : Int} {Q : Int → ml_St → Prop} {K74 : ml_St → Int → Int → Int → Int → Int → Int → Prop} (X : ml_X p s m c meth args D cA cX5_leastSet 12 RX5 (some .int)) (hn : 214 ≤ n) (hp_p1 : ml_at n p1 (20, 8)) (hK74 : ∀ (σ : ml_St) (x4 : Int) (x5 : Int) (x6 : Int) (x7 : Int) (x8 : Int) (x10 : Int) (h_x4 : I32 x4) (h_x5 : I32 x5) (h_x6 : I32 x6) (h_x7 : I32 x7) (h_x8 : I32 x8) (h_x10 : I32 x10) (ls : Array Slot), lv_has ls 12 [(0, .ref (base + (76 : Int).toNat)), (1, .ref (base + (p1 : Int).toNat)), (2, .ref (base + (46 : Int).toNat)), (3, .ref (base + (4 : Int).toNat)), (4, .int (Int32.ofInt x4)), (5, .int (Int32.ofInt x5)), (6, .int (Int32.ofInt x6)), (7, .int (Int32.ofInt x7)), (8, .int (Int32.ofInt x8)), (10, .int (Int32.ofInt x10))] → K74 σ x4 x5 x6 x7 x8 x10 → ml_V p l e rm_X5_leastSet s m args below meth c (MQ below (ml_Qi I32 base D cA n Q) args s 0 0 (ml_A base)) base D cA 0 0 n n σ (F0 m 74 ls [])) (σ : ml_St) (x4 : Int) (x5 : Int) (x6 : Int) (x7 : Int) (x8 : Int) (x10 : Int) (s0 : Int) (h_x4 : I32 x4) (h_x5 : I32 x5) (h_x6 : I32 x6) (h_x7 : I32 x7) (h_x8 : I32 x8) (h_x10 : I32 x10) (h_s0 : ml_B s0) (ls : Array Slot) (hl : lv_has ls 12 [(0, .ref (base + (76 : Int).toNat)), (1, .ref (base + (p1 : Int).toNat)), (2, .ref (base + (46 : Int).toNat)), (3, .ref (base + (4 : Int).toNat)), (4, .int (Int32.ofInt x4)), (5, .int (Int32.ofInt x5)), (6, .int (Int32.ofInt x6)), (7, .int (Int32.ofInt x7)), (8, .int (Int32.ofInt x8)), (10, .int (Int32.ofInt x10))]) (hw : f_X5_leastSet_u98 Q K74 p1 σ x4 x5 x6 x7 x8 x10 s0) : ml_V p l e rm_X5_leastSet s m args below meth c (MQ below (ml_Qi I32 base D cA n Q) args s 0 0 (ml_A base)) base D cA 0 0 n n σ (F0 m 98 ls [.int (Int32.ofInt s0)]) := by
  unfold f_X5_leastSet_u98 at hw
  refine ml_iload (pc := 98) X hl 8 rfl dX5_leastSet_98 ?_
  refine ml_iload (pc := 100) X hl 9 rfl dX5_leastSet_100 ?_
  refine ml_ishr (pc := 102) X dX5_leastSet_102 ?_
  refine ml_iconst (pc := 103) X dX5_leastSet_103 ?_
  refine ml_iand (pc := 104) X dX5_leastSet_104 ?_
  refine ml_if_eq (pc := 105) (tgt := 112) X (b_and_r _ _) dX5_leastSet_105 (by decide) (fun c1 => ?_) (fun c1 => ?_)
  · have hw := hw.1 c1
    refine ml_iconst (pc := 112) X dX5_leastSet_112 ?_
    exact u_X5_leastSet_113 X hn hp_p1 hK74 σ x4 x5 x6 x7 x8 x10 s0 0 h_x4 h_x5 h_x6 h_x7 h_x8 h_x10 h_s0 ⟨by decide, by decide⟩ _ (lv_sub hl [0, 1, 2, 3, 4, 5, 6, 7, 8, 9] rfl) hw
  · have hw := hw.2 c1
    refine ml_iconst (pc := 108) X dX5_leastSet_108 ?_
    refine ml_goto (pc := 109) (tgt := 113) X dX5_leastSet_109 (by decide) ?_
    exact u_X5_leastSet_113 X hn hp_p1 hK74 σ x4 x5 x6 x7 x8 x10 s0 1 h_x4 h_x5 h_x6 h_x7 h_x8 h_x10 h_s0 ⟨by decide, by decide⟩ _ (lv_sub hl [0, 1, 2, 3, 4, 5, 6, 7, 8, 9] rfl) hw
set_option maxRecDepth 100000 in
set_option maxHeartbeats 4000000 in
theorem u_X5_leastSet_74 {p : Program} {e : Env} {s : State} {m : MethodId} {args : Array Value} {below : List Frame} {meth : Method} {c : Code} {base : Nat} {D : va_G} {cA : Nat → ClassId} {n : Nat} {l : Launch} {p1 : Int} {Q : Int → ml_St → Prop} {K190 : ml_St → Int → Int → Int → Int → Int → Prop} (X : ml_X p s m c meth args D cA cX5_leastSet 12 RX5 (some .int)) (hn : 214 ≤ n) (hp_p1 : ml_at n p1 (20, 8)) (hK190 : ∀ (σ : ml_St) (x4 : Int) (x5 : Int) (x6 : Int) (x7 : Int) (x8 : Int) (h_x4 : I32 x4) (h_x5 : I32 x5) (h_x6 : I32 x6) (h_x7 : I32 x7) (h_x8 : I32 x8) (ls : Array Slot), lv_has ls 12 [(0, .ref (base + (76 : Int).toNat)), (1, .ref (base + (p1 : Int).toNat)), (2, .ref (base + (46 : Int).toNat)), (3, .ref (base + (4 : Int).toNat)), (4, .int (Int32.ofInt x4)), (5, .int (Int32.ofInt x5)), (6, .int (Int32.ofInt x6)), (7, .int (Int32.ofInt x7)), (8, .int (Int32.ofInt x8))] → K190 σ x4 x5 x6 x7 x8 → ml_V p l e rm_X5_leastSet s m args below meth c (MQ below (ml_Qi I32 base D cA n Q) args s 0 0 (ml_A base)) base D cA 0 0 n n σ (F0 m 190 ls [])) : ∀ (N : Nat) (σ : ml_St) (x4 : Int) (x5 : Int) (x6 : Int) (x7 : Int) (x8 : Int) (x10 : Int) (h_x4 : I32 x4) (h_x5 : I32 x5) (h_x6 : I32 x6) (h_x7 : I32 x7) (h_x8 : I32 x8) (h_x10 : I32 x10) (ls : Array Slot), lv_has ls 12 [(0, .ref (base + (76 : Int).toNat)), (1, .ref (base + (p1 : Int).toNat)), (2, .ref (base + (46 : Int).toNat)), (3, .ref (base + (4 : Int).toNat)), (4, .int (Int32.ofInt x4)), (5, .int (Int32.ofInt x5)), (6, .int (Int32.ofInt x6)), (7, .int (Int32.ofInt x7)), (8, .int (Int32.ofInt x8)), (10, .int (Int32.ofInt x10))] → f_X5_leastSet_u74 Q K190 p1 N σ x4 x5 x6 x7 x8 x10 → ml_V p l e rm_X5_leastSet s m args below meth c (MQ below (ml_Qi I32 base D cA n Q) args s 0 0 (ml_A base)) base D cA 0 0 n n σ (F0 m 74 ls []) := by
  intro N
  induction N with
  | zero => intro σ x4 x5 x6 x7 x8 x10 h_x4 h_x5 h_x6 h_x7 h_x8 h_x10 ls hl hw; exact False.elim hw
  | succ N ih =>
    intro σ x4 x5 x6 x7 x8 x10 h_x4 h_x5 h_x6 h_x7 h_x8 h_x10 ls hl hw
    unfold f_X5_leastSet_u74 at hw
    refine ml_iload (pc := 74) X hl 9 rfl dX5_leastSet_74 ?_
    refine ml_if_lt (pc := 76) (tgt := 190) X h_x10 dX5_leastSet_76 (by decide) (fun c1 => ?_) (fun c1 => ?_)
    · have hw := hw.1 c1
      exact hK190 σ x4 x5 x6 x7 x8 h_x4 h_x5 h_x6 h_x7 h_x8 _ (lv_sub hl [0, 1, 2, 3, 4, 5, 6, 7, 8] rfl) hw
    · have hw := hw.2 c1
      refine ml_aload_n (pc := 79) X hl 1 rfl rfl dX5_leastSet_79 ?_
      refine gf_X5_44 (pc := 80) X hp_p1 dX5_leastSet_80 ?_
      refine ml_iconst (pc := 83) X dX5_leastSet_83 ?_
      refine ml_iload (pc := 84) X hl 9 rfl dX5_leastSet_84 ?_
      obtain ⟨v2, hw⟩ := hw
      refine ml_imul (pc := 86) X dX5_leastSet_86 ?_
      obtain ⟨a3, b3, hw⟩ := hw
      refine ml_bald (pc := 87) (N := 100) X (ml_r20_1 hn hp_p1) a3 b3 dX5_leastSet_87 (fun r3 => ?_)
      have hw := hw r3
      refine ml_bipush (pc := 88) X dX5_leastSet_88 (by decide) ?_
      refine ml_icmp_ne (pc := 90) (tgt := 97) X r3.i ⟨by decide, by decide⟩ dX5_leastSet_90 (by decide) (fun c4 => ?_) (fun c4 => ?_)
      · have hw := hw.1 c4
        refine ml_iconst (pc := 97) X dX5_leastSet_97 ?_
        exact u_X5_leastSet_98 X hn hp_p1 ih σ x4 x5 x6 x7 x8 x10 0 h_x4 h_x5 h_x6 h_x7 h_x8 h_x10 ⟨by decide, by decide⟩ _ (lv_sub hl [0, 1, 2, 3, 4, 5, 6, 7, 8, 9] rfl) hw
      · have hw := hw.2 c4
        refine ml_iconst (pc := 93) X dX5_leastSet_93 ?_
        refine ml_goto (pc := 94) (tgt := 98) X dX5_leastSet_94 (by decide) ?_
        exact u_X5_leastSet_98 X hn hp_p1 ih σ x4 x5 x6 x7 x8 x10 1 h_x4 h_x5 h_x6 h_x7 h_x8 h_x10 ⟨by decide, by decide⟩ _ (lv_sub hl [0, 1, 2, 3, 4, 5, 6, 7, 8, 9] rfl) hw
set_option maxRecDepth 100000 in
set_option maxHeartbeats 4000000 in
theorem u_X5_leastSet_228 {p : Program} {e : Env} {s : State} {m : MethodId} {args : Array Value} {below : List Frame} {meth : Method} {c : Code} {base : Nat} {D : va_G} {cA : Nat → ClassId} {n : Nat} {l : Launch} {p1 : Int} {Q : Int → ml_St → Prop} {K36 : ml_St → Int → Int → Int → Int → Int → Prop} (X : ml_X p s m c meth args D cA cX5_leastSet 12 RX5 (some .int)) (hn : 214 ≤ n) (hp_p1 : ml_at n p1 (20, 8)) (hK36 : ∀ (σ : ml_St) (x4 : Int) (x5 : Int) (x6 : Int) (x7 : Int) (x8 : Int) (h_x4 : I32 x4) (h_x5 : I32 x5) (h_x6 : I32 x6) (h_x7 : I32 x7) (h_x8 : I32 x8) (ls : Array Slot), lv_has ls 12 [(0, .ref (base + (76 : Int).toNat)), (1, .ref (base + (p1 : Int).toNat)), (2, .ref (base + (46 : Int).toNat)), (3, .ref (base + (4 : Int).toNat)), (4, .int (Int32.ofInt x4)), (5, .int (Int32.ofInt x5)), (6, .int (Int32.ofInt x6)), (7, .int (Int32.ofInt x7)), (8, .int (Int32.ofInt x8))] → K36 σ x4 x5 x6 x7 x8 → ml_V p l e rm_X5_leastSet s m args below meth c (MQ below (ml_Qi I32 base D cA n Q) args s 0 0 (ml_A base)) base D cA 0 0 n n σ (F0 m 36 ls [])) (σ : ml_St) (x4 : Int) (x5 : Int) (x6 : Int) (x7 : Int) (x8 : Int) (h_x4 : I32 x4) (h_x5 : I32 x5) (h_x6 : I32 x6) (h_x7 : I32 x7) (h_x8 : I32 x8) (ls : Array Slot) (hl : lv_has ls 12 [(0, .ref (base + (76 : Int).toNat)), (1, .ref (base + (p1 : Int).toNat)), (2, .ref (base + (46 : Int).toNat)), (3, .ref (base + (4 : Int).toNat)), (4, .int (Int32.ofInt x4)), (5, .int (Int32.ofInt x5)), (6, .int (Int32.ofInt x6)), (7, .int (Int32.ofInt x7)), (8, .int (Int32.ofInt x8))]) (hw : f_X5_leastSet_u228 Q K36 p1 σ x4 x5 x6 x7 x8) : ml_V p l e rm_X5_leastSet s m args below meth c (MQ below (ml_Qi I32 base D cA n Q) args s 0 0 (ml_A base)) base D cA 0 0 n n σ (F0 m 228 ls []) := by
  unfold f_X5_leastSet_u228 at hw
  obtain ⟨v1, hw⟩ := hw
  obtain ⟨y1, e1⟩ : ∃ y : Int, y = x8 + 1 := ⟨_, rfl⟩
  have hw := hw y1 e1
  rw [← e1] at v1
  refine ml_iinc (pc := 228) X e1 hl 8 rfl (by decide) (lst' := [(8, .int (Int32.ofInt y1)), (0, .ref (base + (76 : Int).toNat)), (1, .ref (base + (p1 : Int).toNat)), (2, .ref (base + (46 : Int).toNat)), (3, .ref (base + (4 : Int).toNat)), (4, .int (Int32.ofInt x4)), (5, .int (Int32.ofInt x5)), (6, .int (Int32.ofInt x6)), (7, .int (Int32.ofInt x7))]) rfl dX5_leastSet_228 (fun ls hl => ?_)
  refine ml_goto (pc := 231) (tgt := 36) X dX5_leastSet_231 (by decide) ?_
  exact hK36 σ x4 x5 x6 x7 y1 h_x4 h_x5 h_x6 h_x7 v1 _ (lv_sub hl [1, 2, 3, 4, 5, 6, 7, 8, 0] rfl) hw
set_option maxRecDepth 100000 in
set_option maxHeartbeats 4000000 in
theorem u_X5_leastSet_190 {p : Program} {e : Env} {s : State} {m : MethodId} {args : Array Value} {below : List Frame} {meth : Method} {c : Code} {base : Nat} {D : va_G} {cA : Nat → ClassId} {n : Nat} {l : Launch} {p1 : Int} {Q : Int → ml_St → Prop} {K36 : ml_St → Int → Int → Int → Int → Int → Prop} (X : ml_X p s m c meth args D cA cX5_leastSet 12 RX5 (some .int)) (hn : 214 ≤ n) (hp_p1 : ml_at n p1 (20, 8)) (hK36 : ∀ (σ : ml_St) (x4 : Int) (x5 : Int) (x6 : Int) (x7 : Int) (x8 : Int) (h_x4 : I32 x4) (h_x5 : I32 x5) (h_x6 : I32 x6) (h_x7 : I32 x7) (h_x8 : I32 x8) (ls : Array Slot), lv_has ls 12 [(0, .ref (base + (76 : Int).toNat)), (1, .ref (base + (p1 : Int).toNat)), (2, .ref (base + (46 : Int).toNat)), (3, .ref (base + (4 : Int).toNat)), (4, .int (Int32.ofInt x4)), (5, .int (Int32.ofInt x5)), (6, .int (Int32.ofInt x6)), (7, .int (Int32.ofInt x7)), (8, .int (Int32.ofInt x8))] → K36 σ x4 x5 x6 x7 x8 → ml_V p l e rm_X5_leastSet s m args below meth c (MQ below (ml_Qi I32 base D cA n Q) args s 0 0 (ml_A base)) base D cA 0 0 n n σ (F0 m 36 ls [])) (σ : ml_St) (x4 : Int) (x5 : Int) (x6 : Int) (x7 : Int) (x8 : Int) (h_x4 : I32 x4) (h_x5 : I32 x5) (h_x6 : I32 x6) (h_x7 : I32 x7) (h_x8 : I32 x8) (ls : Array Slot) (hl : lv_has ls 12 [(0, .ref (base + (76 : Int).toNat)), (1, .ref (base + (p1 : Int).toNat)), (2, .ref (base + (46 : Int).toNat)), (3, .ref (base + (4 : Int).toNat)), (4, .int (Int32.ofInt x4)), (5, .int (Int32.ofInt x5)), (6, .int (Int32.ofInt x6)), (7, .int (Int32.ofInt x7)), (8, .int (Int32.ofInt x8))]) (hw : f_X5_leastSet_u190 Q K36 p1 σ x4 x5 x6 x7 x8) : ml_V p l e rm_X5_leastSet s m args below meth c (MQ below (ml_Qi I32 base D cA n Q) args s 0 0 (ml_A base)) base D cA 0 0 n n σ (F0 m 190 ls []) := by
  unfold f_X5_leastSet_u190 at hw
  refine ml_iload (pc := 190) X hl 8 rfl dX5_leastSet_190 ?_
  refine ml_calliS (pc := 192) (rest := []) X [.int (Int32.ofInt x8)] (c_J6_bitCount_0f7a4 l base D cA n hn σ x8 h_x8 _ hw) cv_X5_38 ⟨rfl, rfl⟩ ⟨by decide, by decide⟩ rfl rfl hl (Nat.le_of_ble_eq_true rfl) ⟨Nat.zero_le _, Nat.zero_le _⟩ dX5_leastSet_192 (fun r1 σ1 t1 hw => ?_)
  have hw := hw t1
  refine ml_istore (pc := 195) X hl (by decide) (lst' := [(10, .int (Int32.ofInt r1)), (0, .ref (base + (76 : Int).toNat)), (1, .ref (base + (p1 : Int).toNat)), (2, .ref (base + (46 : Int).toNat)), (3, .ref (base + (4 : Int).toNat)), (4, .int (Int32.ofInt x4)), (5, .int (Int32.ofInt x5)), (6, .int (Int32.ofInt x6)), (7, .int (Int32.ofInt x7)), (8, .int (Int32.ofInt x8))]) rfl dX5_leastSet_195 (fun ls hl => ?_)
  refine ml_iload (pc := 197) X hl 0 rfl dX5_leastSet_197 ?_
  refine ml_iload (pc := 199) X hl 8 rfl dX5_leastSet_199 ?_
  refine ml_icmp_ge (pc := 201) (tgt := 228) X t1 h_x7 dX5_leastSet_201 (by decide) (fun c2 => ?_) (fun c2 => ?_)
  · have hw := hw.1 c2
    exact u_X5_leastSet_228 X hn hp_p1 hK36 σ1 x4 x5 x6 x7 x8 h_x4 h_x5 h_x6 h_x7 h_x8 _ (lv_sub hl [1, 2, 3, 4, 5, 6, 7, 8, 9] rfl) hw
  · have hw := hw.2 c2
    refine ml_aload_n (pc := 204) X hl 1 rfl rfl dX5_leastSet_204 ?_
    refine gf_X5_11 (pc := 205) X (ml_c76 hn) dX5_leastSet_205 ?_
    refine ml_iconst (pc := 208) X dX5_leastSet_208 ?_
    obtain ⟨a3, b3, hw⟩ := hw
    refine ml_aald_tails (pc := 209) X hn a3 b3 dX5_leastSet_209 ?_
    refine ml_aload_n (pc := 210) X hl 3 rfl rfl dX5_leastSet_210 ?_
    refine ml_aload_n (pc := 211) X hl 4 rfl rfl dX5_leastSet_211 ?_
    refine ml_iload (pc := 212) X hl 5 rfl dX5_leastSet_212 ?_
    refine ml_callzS (pc := 214) (rest := []) X [.ref (base + ((81 + 3 * 0) : Int).toNat), .ref (base + (46 : Int).toNat), .ref (base + (4 : Int).toNat), .int (Int32.ofInt x4)] (c_X5_leavesOne l base D cA n hn σ1 (81 + 3 * 0) (ml_at_tails hn a3 b3) x4 h_x4 _ hw) cv_X5_56 ⟨rfl, rfl⟩ ⟨by decide, by decide⟩ rfl rfl hl (Nat.le_of_ble_eq_true rfl) ⟨Nat.zero_le _, Nat.zero_le _⟩ dX5_leastSet_214 (fun r4 σ4 t4 hw => ?_)
    have hw := hw t4
    refine ml_if_eq (pc := 217) (tgt := 228) X t4.i dX5_leastSet_217 (by decide) (fun c5 => ?_) (fun c5 => ?_)
    · have hw := hw.1 c5
      exact u_X5_leastSet_228 X hn hp_p1 hK36 σ4 x4 x5 x6 x7 x8 h_x4 h_x5 h_x6 h_x7 h_x8 _ (lv_sub hl [1, 2, 3, 4, 5, 6, 7, 8, 9] rfl) hw
    · have hw := hw.2 c5
      refine ml_iload (pc := 220) X hl 9 rfl dX5_leastSet_220 ?_
      refine ml_istore (pc := 222) X hl (by decide) (lst' := [(6, .int (Int32.ofInt x8)), (10, .int (Int32.ofInt r1)), (0, .ref (base + (76 : Int).toNat)), (1, .ref (base + (p1 : Int).toNat)), (2, .ref (base + (46 : Int).toNat)), (3, .ref (base + (4 : Int).toNat)), (4, .int (Int32.ofInt x4)), (5, .int (Int32.ofInt x5)), (7, .int (Int32.ofInt x7)), (8, .int (Int32.ofInt x8))]) rfl dX5_leastSet_222 (fun ls hl => ?_)
      refine ml_iload (pc := 224) X hl 1 rfl dX5_leastSet_224 ?_
      refine ml_istore (pc := 226) X hl (by decide) (lst' := [(7, .int (Int32.ofInt r1)), (6, .int (Int32.ofInt x8)), (10, .int (Int32.ofInt r1)), (0, .ref (base + (76 : Int).toNat)), (1, .ref (base + (p1 : Int).toNat)), (2, .ref (base + (46 : Int).toNat)), (3, .ref (base + (4 : Int).toNat)), (4, .int (Int32.ofInt x4)), (5, .int (Int32.ofInt x5)), (8, .int (Int32.ofInt x8))]) rfl dX5_leastSet_226 (fun ls hl => ?_)
      exact u_X5_leastSet_228 X hn hp_p1 hK36 σ4 x4 x5 x8 r1 x8 h_x4 h_x5 h_x8 t1 h_x8 _ (lv_sub hl [3, 4, 5, 6, 7, 8, 1, 0, 9] rfl) hw
set_option maxRecDepth 100000 in
set_option maxHeartbeats 4000000 in
theorem u_X5_leastSet_68 {p : Program} {e : Env} {s : State} {m : MethodId} {args : Array Value} {below : List Frame} {meth : Method} {c : Code} {base : Nat} {D : va_G} {cA : Nat → ClassId} {n : Nat} {l : Launch} {p1 : Int} {Q : Int → ml_St → Prop} {K36 : ml_St → Int → Int → Int → Int → Int → Prop} (X : ml_X p s m c meth args D cA cX5_leastSet 12 RX5 (some .int)) (hn : 214 ≤ n) (hp_p1 : ml_at n p1 (20, 8)) (hK36 : ∀ (σ : ml_St) (x4 : Int) (x5 : Int) (x6 : Int) (x7 : Int) (x8 : Int) (h_x4 : I32 x4) (h_x5 : I32 x5) (h_x6 : I32 x6) (h_x7 : I32 x7) (h_x8 : I32 x8) (ls : Array Slot), lv_has ls 12 [(0, .ref (base + (76 : Int).toNat)), (1, .ref (base + (p1 : Int).toNat)), (2, .ref (base + (46 : Int).toNat)), (3, .ref (base + (4 : Int).toNat)), (4, .int (Int32.ofInt x4)), (5, .int (Int32.ofInt x5)), (6, .int (Int32.ofInt x6)), (7, .int (Int32.ofInt x7)), (8, .int (Int32.ofInt x8))] → K36 σ x4 x5 x6 x7 x8 → ml_V p l e rm_X5_leastSet s m args below meth c (MQ below (ml_Qi I32 base D cA n Q) args s 0 0 (ml_A base)) base D cA 0 0 n n σ (F0 m 36 ls [])) (σ : ml_St) (x4 : Int) (x5 : Int) (x6 : Int) (x7 : Int) (x8 : Int) (s0 : Int) (h_x4 : I32 x4) (h_x5 : I32 x5) (h_x6 : I32 x6) (h_x7 : I32 x7) (h_x8 : I32 x8) (h_s0 : I32 s0) (ls : Array Slot) (hl : lv_has ls 12 [(0, .ref (base + (76 : Int).toNat)), (1, .ref (base + (p1 : Int).toNat)), (2, .ref (base + (46 : Int).toNat)), (3, .ref (base + (4 : Int).toNat)), (4, .int (Int32.ofInt x4)), (5, .int (Int32.ofInt x5)), (6, .int (Int32.ofInt x6)), (7, .int (Int32.ofInt x7)), (8, .int (Int32.ofInt x8))]) (hw : f_X5_leastSet_u68 Q K36 p1 σ x4 x5 x6 x7 x8 s0) : ml_V p l e rm_X5_leastSet s m args below meth c (MQ below (ml_Qi I32 base D cA n Q) args s 0 0 (ml_A base)) base D cA 0 0 n n σ (F0 m 68 ls [.int (Int32.ofInt s0)]) := by
  unfold f_X5_leastSet_u68 at hw
  refine ml_istore (pc := 68) X hl (by decide) (lst' := [(9, .int (Int32.ofInt s0)), (0, .ref (base + (76 : Int).toNat)), (1, .ref (base + (p1 : Int).toNat)), (2, .ref (base + (46 : Int).toNat)), (3, .ref (base + (4 : Int).toNat)), (4, .int (Int32.ofInt x4)), (5, .int (Int32.ofInt x5)), (6, .int (Int32.ofInt x6)), (7, .int (Int32.ofInt x7)), (8, .int (Int32.ofInt x8))]) rfl dX5_leastSet_68 (fun ls hl => ?_)
  refine ml_iload (pc := 70) X hl 0 rfl dX5_leastSet_70 ?_
  refine ml_istore (pc := 72) X hl (by decide) (lst' := [(10, .int (Int32.ofInt s0)), (9, .int (Int32.ofInt s0)), (0, .ref (base + (76 : Int).toNat)), (1, .ref (base + (p1 : Int).toNat)), (2, .ref (base + (46 : Int).toNat)), (3, .ref (base + (4 : Int).toNat)), (4, .int (Int32.ofInt x4)), (5, .int (Int32.ofInt x5)), (6, .int (Int32.ofInt x6)), (7, .int (Int32.ofInt x7)), (8, .int (Int32.ofInt x8))]) rfl dX5_leastSet_72 (fun ls hl => ?_)
  obtain ⟨N0, hw⟩ := hw
  exact u_X5_leastSet_74 X hn hp_p1 (fun σ x4 x5 x6 x7 x8 h_x4 h_x5 h_x6 h_x7 h_x8 ls hl hw => u_X5_leastSet_190 X hn hp_p1 hK36 σ x4 x5 x6 x7 x8 h_x4 h_x5 h_x6 h_x7 h_x8 ls hl hw) N0 σ x4 x5 x6 x7 x8 s0 h_x4 h_x5 h_x6 h_x7 h_x8 h_s0 _ (lv_sub hl [2, 3, 4, 5, 6, 7, 8, 9, 10, 0] rfl) hw
set_option maxRecDepth 100000 in
set_option maxHeartbeats 4000000 in
theorem u_X5_leastSet_36 {p : Program} {e : Env} {s : State} {m : MethodId} {args : Array Value} {below : List Frame} {meth : Method} {c : Code} {base : Nat} {D : va_G} {cA : Nat → ClassId} {n : Nat} {l : Launch} {p1 : Int} {Q : Int → ml_St → Prop} {K234 : ml_St → Int → Prop} (X : ml_X p s m c meth args D cA cX5_leastSet 12 RX5 (some .int)) (hn : 214 ≤ n) (hp_p1 : ml_at n p1 (20, 8)) (hK234 : ∀ (σ : ml_St) (x6 : Int) (h_x6 : I32 x6) (ls : Array Slot), lv_has ls 12 [(6, .int (Int32.ofInt x6))] → K234 σ x6 → ml_V p l e rm_X5_leastSet s m args below meth c (MQ below (ml_Qi I32 base D cA n Q) args s 0 0 (ml_A base)) base D cA 0 0 n n σ (F0 m 234 ls [])) : ∀ (N : Nat) (σ : ml_St) (x4 : Int) (x5 : Int) (x6 : Int) (x7 : Int) (x8 : Int) (h_x4 : I32 x4) (h_x5 : I32 x5) (h_x6 : I32 x6) (h_x7 : I32 x7) (h_x8 : I32 x8) (ls : Array Slot), lv_has ls 12 [(0, .ref (base + (76 : Int).toNat)), (1, .ref (base + (p1 : Int).toNat)), (2, .ref (base + (46 : Int).toNat)), (3, .ref (base + (4 : Int).toNat)), (4, .int (Int32.ofInt x4)), (5, .int (Int32.ofInt x5)), (6, .int (Int32.ofInt x6)), (7, .int (Int32.ofInt x7)), (8, .int (Int32.ofInt x8))] → f_X5_leastSet_u36 Q K234 p1 N σ x4 x5 x6 x7 x8 → ml_V p l e rm_X5_leastSet s m args below meth c (MQ below (ml_Qi I32 base D cA n Q) args s 0 0 (ml_A base)) base D cA 0 0 n n σ (F0 m 36 ls []) := by
  intro N
  induction N with
  | zero => intro σ x4 x5 x6 x7 x8 h_x4 h_x5 h_x6 h_x7 h_x8 ls hl hw; exact False.elim hw
  | succ N ih =>
    intro σ x4 x5 x6 x7 x8 h_x4 h_x5 h_x6 h_x7 h_x8 ls hl hw
    unfold f_X5_leastSet_u36 at hw
    refine ml_iload (pc := 36) X hl 8 rfl dX5_leastSet_36 ?_
    refine ml_iconst (pc := 38) X dX5_leastSet_38 ?_
    refine ml_iload (pc := 39) X hl 5 rfl dX5_leastSet_39 ?_
    refine ml_ishl (pc := 41) X dX5_leastSet_41 ?_
    refine ml_icmp_ge (pc := 42) (tgt := 234) X h_x8 (b_shl_r _ _) dX5_leastSet_42 (by decide) (fun c1 => ?_) (fun c1 => ?_)
    · have hw := hw.1 c1
      exact hK234 σ x6 h_x6 _ (lv_sub hl [6] rfl) hw
    · have hw := hw.2 c1
      refine ml_iload (pc := 45) X hl 8 rfl dX5_leastSet_45 ?_
      refine ml_if_ne (pc := 47) (tgt := 57) X h_x8 dX5_leastSet_47 (by decide) (fun c2 => ?_) (fun c2 => ?_)
      · have hw := hw.1 c2
        refine ml_iload (pc := 57) X hl 8 rfl dX5_leastSet_57 ?_
        refine ml_iload (pc := 59) X hl 8 rfl dX5_leastSet_59 ?_
        obtain ⟨v3, hw⟩ := hw
        refine ml_ineg (pc := 61) X dX5_leastSet_61 ?_
        refine ml_iand (pc := 62) X dX5_leastSet_62 ?_
        refine ml_iconst (pc := 63) X dX5_leastSet_63 ?_
        obtain ⟨v4, hw⟩ := hw
        refine ml_isub (pc := 64) X dX5_leastSet_64 ?_
        refine ml_calliS (pc := 65) (rest := []) X [.int (Int32.ofInt ((b_and x8 (-x8)) - 1))] (c_J6_bitCount_0f7a4 l base D cA n hn σ ((b_and x8 (-x8)) - 1) v4 _ hw) cv_X5_38 ⟨rfl, rfl⟩ ⟨by decide, by decide⟩ rfl rfl hl (Nat.le_of_ble_eq_true rfl) ⟨Nat.zero_le _, Nat.zero_le _⟩ dX5_leastSet_65 (fun r5 σ5 t5 hw => ?_)
        have hw := hw t5
        exact u_X5_leastSet_68 X hn hp_p1 ih σ5 x4 x5 x6 x7 x8 r5 h_x4 h_x5 h_x6 h_x7 h_x8 t5 _ (lv_sub hl [0, 1, 2, 3, 4, 5, 6, 7, 8] rfl) hw
      · have hw := hw.2 c2
        refine ml_iload (pc := 50) X hl 5 rfl dX5_leastSet_50 ?_
        refine ml_iconst (pc := 52) X dX5_leastSet_52 ?_
        obtain ⟨v6, hw⟩ := hw
        refine ml_isub (pc := 53) X dX5_leastSet_53 ?_
        refine ml_goto (pc := 54) (tgt := 68) X dX5_leastSet_54 (by decide) ?_
        exact u_X5_leastSet_68 X hn hp_p1 ih σ x4 x5 x6 x7 x8 (x5 - 1) h_x4 h_x5 h_x6 h_x7 h_x8 v6 _ (lv_sub hl [0, 1, 2, 3, 4, 5, 6, 7, 8] rfl) hw
set_option maxRecDepth 100000 in
set_option maxHeartbeats 4000000 in
theorem u_X5_leastSet_234 {p : Program} {e : Env} {s : State} {m : MethodId} {args : Array Value} {below : List Frame} {meth : Method} {c : Code} {base : Nat} {D : va_G} {cA : Nat → ClassId} {n : Nat} {l : Launch} {p1 : Int} {Q : Int → ml_St → Prop} (X : ml_X p s m c meth args D cA cX5_leastSet 12 RX5 (some .int)) (hn : 214 ≤ n) (hp_p1 : ml_at n p1 (20, 8)) (σ : ml_St) (x6 : Int) (h_x6 : I32 x6) (ls : Array Slot) (hl : lv_has ls 12 [(6, .int (Int32.ofInt x6))]) (hw : f_X5_leastSet_u234 Q p1 σ x6) : ml_V p l e rm_X5_leastSet s m args below meth c (MQ below (ml_Qi I32 base D cA n Q) args s 0 0 (ml_A base)) base D cA 0 0 n n σ (F0 m 234 ls []) := by
  unfold f_X5_leastSet_u234 at hw
  refine ml_iload (pc := 234) X hl 0 rfl dX5_leastSet_234 ?_
  exact ml_iret (pc := 236) X h_x6 hw dX5_leastSet_236
set_option maxRecDepth 100000 in
set_option maxHeartbeats 4000000 in
theorem u_X5_leastSet_0 {p : Program} {e : Env} {s : State} {m : MethodId} {args : Array Value} {below : List Frame} {meth : Method} {c : Code} {base : Nat} {D : va_G} {cA : Nat → ClassId} {n : Nat} {l : Launch} {p1 : Int} {Q : Int → ml_St → Prop} (X : ml_X p s m c meth args D cA cX5_leastSet 12 RX5 (some .int)) (hn : 214 ≤ n) (hp_p1 : ml_at n p1 (20, 8)) (σ : ml_St) (x4 : Int) (h_x4 : I32 x4) (ls : Array Slot) (hl : lv_has ls 12 [(0, .ref (base + (76 : Int).toNat)), (1, .ref (base + (p1 : Int).toNat)), (2, .ref (base + (46 : Int).toNat)), (3, .ref (base + (4 : Int).toNat)), (4, .int (Int32.ofInt x4))]) (hw : f_X5_leastSet_u0 Q p1 σ x4) : ml_V p l e rm_X5_leastSet s m args below meth c (MQ below (ml_Qi I32 base D cA n Q) args s 0 0 (ml_A base)) base D cA 0 0 n n σ (F0 m 0 ls []) := by
  unfold f_X5_leastSet_u0 at hw
  refine ml_aload_n (pc := 0) X hl 1 rfl rfl dX5_leastSet_0 ?_
  refine gf_X5_22 (pc := 1) X hp_p1 dX5_leastSet_1 (fun r1 => ?_)
  have hw := hw r1
  refine ml_iconst (pc := 4) X dX5_leastSet_4 ?_
  obtain ⟨z2, v2, hw⟩ := hw
  refine ml_idiv (pc := 5) X r1 ⟨by decide, by decide⟩ z2 dX5_leastSet_5 ?_
  refine ml_bipush (pc := 6) X dX5_leastSet_6 (by decide) ?_
  refine ml_mmin (pc := 8) X ⟨tw_4_127, tw_3_35, tw_1_14, tw_3_36⟩ v2 ⟨by decide, by decide⟩ ⟨Nat.zero_le _, Nat.zero_le _⟩ hl (Nat.le_of_ble_eq_true rfl) ⟨by decide, by decide⟩ dX5_leastSet_8 ?_
  refine ml_topI (pc := 11) (fun y3 e3 => ?_)
  have hw := hw y3 e3
  have q3 : I32 y3 := by rw [e3]; exact (ml_min_r v2 ⟨by decide, by decide⟩)
  refine ml_istore (pc := 11) X hl (by decide) (lst' := [(5, .int (Int32.ofInt y3)), (0, .ref (base + (76 : Int).toNat)), (1, .ref (base + (p1 : Int).toNat)), (2, .ref (base + (46 : Int).toNat)), (3, .ref (base + (4 : Int).toNat)), (4, .int (Int32.ofInt x4))]) rfl dX5_leastSet_11 (fun ls hl => ?_)
  refine ml_bipush (pc := 13) X dX5_leastSet_13 (by decide) ?_
  refine ml_istore (pc := 15) X hl (by decide) (lst' := [(6, .int (Int32.ofInt (-2))), (5, .int (Int32.ofInt y3)), (0, .ref (base + (76 : Int).toNat)), (1, .ref (base + (p1 : Int).toNat)), (2, .ref (base + (46 : Int).toNat)), (3, .ref (base + (4 : Int).toNat)), (4, .int (Int32.ofInt x4))]) rfl dX5_leastSet_15 (fun ls hl => ?_)
  refine ml_bipush (pc := 17) X dX5_leastSet_17 (by decide) ?_
  refine ml_istore (pc := 19) X hl (by decide) (lst' := [(7, .int (Int32.ofInt 11)), (6, .int (Int32.ofInt (-2))), (5, .int (Int32.ofInt y3)), (0, .ref (base + (76 : Int).toNat)), (1, .ref (base + (p1 : Int).toNat)), (2, .ref (base + (46 : Int).toNat)), (3, .ref (base + (4 : Int).toNat)), (4, .int (Int32.ofInt x4))]) rfl dX5_leastSet_19 (fun ls hl => ?_)
  refine ml_aload_n (pc := 21) X hl 3 rfl rfl dX5_leastSet_21 ?_
  refine gf_X5_11 (pc := 22) X (ml_c76 hn) dX5_leastSet_22 ?_
  refine ml_iload (pc := 25) X hl 2 rfl dX5_leastSet_25 ?_
  obtain ⟨a4, b4, hw⟩ := hw
  refine ml_aald_tails (pc := 27) X hn a4 b4 dX5_leastSet_27 ?_
  refine ml_iload (pc := 28) X hl 7 rfl dX5_leastSet_28 ?_
  refine ml_callvV (pc := 30) (rest := []) X [.int (Int32.ofInt x4)] (by decide) rfl (ml_at_tails hn a4 b4) (c_X9_beStraight l base D cA n hn σ (81 + 3 * y3) (ml_at_tails hn a4 b4) x4 h_x4 _ hw) cv_X5_34 ⟨rfl, rfl⟩ ⟨by decide, by decide⟩ rfl rfl hl (Nat.le_of_ble_eq_true rfl) ⟨Nat.zero_le _, Nat.zero_le _⟩ dX5_leastSet_30 (fun σ5 hw => ?_)
  refine ml_iconst (pc := 33) X dX5_leastSet_33 ?_
  refine ml_istore (pc := 34) X hl (by decide) (lst' := [(8, .int (Int32.ofInt 0)), (7, .int (Int32.ofInt 11)), (6, .int (Int32.ofInt (-2))), (5, .int (Int32.ofInt y3)), (0, .ref (base + (76 : Int).toNat)), (1, .ref (base + (p1 : Int).toNat)), (2, .ref (base + (46 : Int).toNat)), (3, .ref (base + (4 : Int).toNat)), (4, .int (Int32.ofInt x4))]) rfl dX5_leastSet_34 (fun ls hl => ?_)
  obtain ⟨N0, hw⟩ := hw
  exact u_X5_leastSet_36 X hn hp_p1 (fun σ x6 h_x6 ls hl hw => u_X5_leastSet_234 X hn hp_p1 σ x6 h_x6 ls hl hw) N0 σ5 x4 y3 (-2) 11 0 h_x4 q3 ⟨by decide, by decide⟩ ⟨by decide, by decide⟩ ⟨by decide, by decide⟩ _ (lv_sub hl [4, 5, 6, 7, 8, 3, 2, 1, 0] rfl) hw
set_option maxRecDepth 100000 in
theorem c_X5_leastSet (l : Launch) (base : Nat) (D : va_G) (cA : Nat → ClassId) (n : Nat) (hn : 214 ≤ n) (σ : ml_St) (p1 : Int) (hp_p1 : ml_at n p1 (20, 8)) (x4 : Int) (h_x4 : I32 x4) (Q : Int → ml_St → Prop) (hw : f_X5_leastSet σ p1 x4 Q) : Met l yX5_leastSet (Cond.code yX5_leastSet cX5_leastSet 12 (some .int) :: ml_T) rm_X5_leastSet (va_Pc [.ref (base + (76 : Int).toNat), .ref (base + (p1 : Int).toNat), .ref (base + (46 : Int).toNat), .ref (base + (4 : Int).toNat), .int (Int32.ofInt x4)] (ml_U base D cA n σ)) (ml_Qi I32 base D cA n Q) 0 0 (ml_A base) := by
  refine Met.ofW (cc := cX5_leastSet) (maxL := 12) (ret := (some .int)) (by decide) rfl ?_
  intro p e s m args below meth c s₁ B hml hv
  obtain ⟨rfl, hP, hK, hok, hro⟩ := hv
  have X : ml_X p s m c meth _ D cA cX5_leastSet 12 RX5 (some .int) := ⟨B.exec, B.bytes, hml, findClass_of_methodNamed B.named, fun w hw => atoms_spec (ws := Cond.code yX5_leastSet cX5_leastSet 12 (some .int) :: ml_T) B.pre w (List.mem_cons_of_mem _ hw), hK, B.notSynchronized, B.returns⟩
  have hl := lv_entry [.ref (base + (76 : Int).toNat), .ref (base + (p1 : Int).toNat), .ref (base + (46 : Int).toNat), .ref (base + (4 : Int).toNat), .int (Int32.ofInt x4)] (n := 12) (Nat.le_of_ble_eq_true rfl)
  rw [lg_entry_eq]
  generalize (lg_sl [.ref (base + (76 : Int).toNat), .ref (base + (p1 : Int).toNat), .ref (base + (46 : Int).toNat), .ref (base + (4 : Int).toNat), .int (Int32.ofInt x4)] ++ List.replicate (12 - (lg_sl [.ref (base + (76 : Int).toNat), .ref (base + (p1 : Int).toNat), .ref (base + (46 : Int).toNat), .ref (base + (4 : Int).toNat), .int (Int32.ofInt x4)]).length) Slot.unset).toArray = ls at hl ⊢
  have hl : lv_has ls 12 [(0, .ref (base + (76 : Int).toNat)), (1, .ref (base + (p1 : Int).toNat)), (2, .ref (base + (46 : Int).toNat)), (3, .ref (base + (4 : Int).toNat)), (4, .int (Int32.ofInt x4))] := hl
  unfold f_X5_leastSet at hw
  exact u_X5_leastSet_0 X hn hp_p1 σ x4 h_x4 _ (lv_sub hl [0, 1, 2, 3, 4] rfl) hw s.heap [] hP va_S.rf hok hro
theorem dX11_mend_0 : decode cX11_mend 0 = .ok (.aload_n 0, 1) := by decide +kernel
theorem dX11_mend_1 : decode cX11_mend 1 = .ok (.iload_n 1, 1) := by decide +kernel
theorem dX11_mend_2 : decode cX11_mend 2 = .ok (.invokevirtual 104, 3) := by decide +kernel
theorem dX11_mend_5 : decode cX11_mend 5 = .ok (.ifCond .eq 29, 3) := by decide +kernel
theorem dX11_mend_8 : decode cX11_mend 8 = .ok (.aload_n 0, 1) := by decide +kernel
theorem dX11_mend_9 : decode cX11_mend 9 = .ok (.getfield 67, 3) := by decide +kernel
theorem dX11_mend_12 : decode cX11_mend 12 = .ok (.iload_n 1, 1) := by decide +kernel
theorem dX11_mend_13 : decode cX11_mend 13 = .ok (.aaload, 1) := by decide +kernel
theorem dX11_mend_14 : decode cX11_mend 14 = .ok (.getfield 212, 3) := by decide +kernel
theorem dX11_mend_17 : decode cX11_mend 17 = .ok (.ifCond .eq 17, 3) := by decide +kernel
theorem dX11_mend_20 : decode cX11_mend 20 = .ok (.aload_n 0, 1) := by decide +kernel
theorem dX11_mend_21 : decode cX11_mend 21 = .ok (.getfield 67, 3) := by decide +kernel
theorem dX11_mend_24 : decode cX11_mend 24 = .ok (.iload_n 1, 1) := by decide +kernel
theorem dX11_mend_25 : decode cX11_mend 25 = .ok (.aaload, 1) := by decide +kernel
theorem dX11_mend_26 : decode cX11_mend 26 = .ok (.getfield 253, 3) := by decide +kernel
theorem dX11_mend_29 : decode cX11_mend 29 = .ok (.bipush 20, 2) := by decide +kernel
theorem dX11_mend_31 : decode cX11_mend 31 = .ok (.if_icmp .le 5, 3) := by decide +kernel
theorem dX11_mend_34 : decode cX11_mend 34 = .ok (.iconst (-1), 1) := by decide +kernel
theorem dX11_mend_35 : decode cX11_mend 35 = .ok (.ireturn, 1) := by decide +kernel
theorem dX11_mend_36 : decode cX11_mend 36 = .ok (.aload_n 0, 1) := by decide +kernel
theorem dX11_mend_37 : decode cX11_mend 37 = .ok (.getfield 61, 3) := by decide +kernel
theorem dX11_mend_40 : decode cX11_mend 40 = .ok (.aload_n 0, 1) := by decide +kernel
theorem dX11_mend_41 : decode cX11_mend 41 = .ok (.getfield 67, 3) := by decide +kernel
theorem dX11_mend_44 : decode cX11_mend 44 = .ok (.iload_n 1, 1) := by decide +kernel
theorem dX11_mend_45 : decode cX11_mend 45 = .ok (.aaload, 1) := by decide +kernel
theorem dX11_mend_46 : decode cX11_mend 46 = .ok (.aload_n 0, 1) := by decide +kernel
theorem dX11_mend_47 : decode cX11_mend 47 = .ok (.getfield 40, 3) := by decide +kernel
theorem dX11_mend_50 : decode cX11_mend 50 = .ok (.aload_n 0, 1) := by decide +kernel
theorem dX11_mend_51 : decode cX11_mend 51 = .ok (.getfield 19, 3) := by decide +kernel
theorem dX11_mend_54 : decode cX11_mend 54 = .ok (.aload_n 0, 1) := by decide +kernel
theorem dX11_mend_55 : decode cX11_mend 55 = .ok (.getfield 82, 3) := by decide +kernel
theorem dX11_mend_58 : decode cX11_mend 58 = .ok (.invokevirtual 254, 3) := by decide +kernel
theorem dX11_mend_61 : decode cX11_mend 61 = .ok (.ireturn, 1) := by decide +kernel
def f_X11_mend_u34 (Q : Int → ml_St → Prop) (σ : ml_St) : Prop :=
Q (-1) σ
def f_X11_mend_u0 (Q : Int → ml_St → Prop) (σ : ml_St) (x1 : Int) : Prop :=
f_X11_isTold σ x1 (fun r1 σ1 => ∀ _ : ml_B r1,
(r1 = 0 →
f_X11_mend_u34 Q σ1) ∧
(r1 ≠ 0 →
(0 : Int) ≤ x1 ∧ (x1 : Int) < 16 ∧
∀ _ : ml_B (σ1 (119 + 6 * x1) 2),
(((σ1 (119 + 6 * x1) 2) : Int) = 0 →
f_X11_mend_u34 Q σ1) ∧
((σ1 (119 + 6 * x1) 2) ≠ 0 →
(0 : Int) ≤ x1 ∧ (x1 : Int) < 16 ∧
∀ _ : I32 (σ1 (119 + 6 * x1) 1),
(((σ1 (119 + 6 * x1) 1) : Int) ≤ 20 →
(0 : Int) ≤ x1 ∧ (x1 : Int) < 16 ∧
∀ _ : I32 (σ1 1 11),
f_X5_leastSet σ1 (119 + 6 * x1) (σ1 1 11) (fun r11 σ11 => ∀ _ : I32 r11,
Q r11 σ11)) ∧
(¬ (((σ1 (119 + 6 * x1) 1) : Int) ≤ 20) →
f_X11_mend_u34 Q σ1))))
def f_X11_mend (σ : ml_St) (x1 : Int) (Q : Int → ml_St → Prop) : Prop := f_X11_mend_u0 Q σ x1
def rm_X11_mend : Room := { frames := 6, cells := 0, slots := 0, locals := 195 }
set_option maxRecDepth 100000 in
set_option maxHeartbeats 4000000 in
theorem u_X11_mend_34 {p : Program} {e : Env} {s : State} {m : MethodId} {args : Array Value} {below : List Frame} {meth : Method} {c : Code} {base : Nat} {D : va_G} {cA : Nat → ClassId} {n : Nat} {l : Launch} {Q : Int → ml_St → Prop} (X : ml_X p s m c meth args D cA cX11_mend 2 RX11 (some .int)) (hn : 214 ≤ n) (σ : ml_St) (ls : Array Slot) (hl : lv_has ls 2 []) (hw : f_X11_mend_u34 Q σ) : ml_V p l e rm_X11_mend s m args below meth c (MQ below (ml_Qi I32 base D cA n Q) args s 0 0 (ml_A base)) base D cA 0 0 n n σ (F0 m 34 ls []) := by
  unfold f_X11_mend_u34 at hw
  refine ml_iconst (pc := 34) X dX11_mend_34 ?_
  exact ml_iret (pc := 35) X ⟨by decide, by decide⟩ hw dX11_mend_35
set_option maxRecDepth 100000 in
set_option maxHeartbeats 4000000 in
theorem u_X11_mend_0 {p : Program} {e : Env} {s : State} {m : MethodId} {args : Array Value} {below : List Frame} {meth : Method} {c : Code} {base : Nat} {D : va_G} {cA : Nat → ClassId} {n : Nat} {l : Launch} {Q : Int → ml_St → Prop} (X : ml_X p s m c meth args D cA cX11_mend 2 RX11 (some .int)) (hn : 214 ≤ n) (σ : ml_St) (x1 : Int) (h_x1 : I32 x1) (ls : Array Slot) (hl : lv_has ls 2 [(0, .ref (base + (1 : Int).toNat)), (1, .int (Int32.ofInt x1))]) (hw : f_X11_mend_u0 Q σ x1) : ml_V p l e rm_X11_mend s m args below meth c (MQ below (ml_Qi I32 base D cA n Q) args s 0 0 (ml_A base)) base D cA 0 0 n n σ (F0 m 0 ls []) := by
  unfold f_X11_mend_u0 at hw
  refine ml_aload_n (pc := 0) X hl 0 rfl rfl dX11_mend_0 ?_
  refine ml_iload_n (pc := 1) X hl 1 rfl rfl dX11_mend_1 ?_
  refine ml_callzV (pc := 2) (rest := []) X [.int (Int32.ofInt x1)] (by decide) rfl (ml_c1 hn) (c_X11_isTold l base D cA n hn σ x1 h_x1 _ hw) cv_X11_104 ⟨rfl, rfl⟩ ⟨by decide, by decide⟩ rfl rfl hl (Nat.le_of_ble_eq_true rfl) ⟨Nat.zero_le _, Nat.zero_le _⟩ dX11_mend_2 (fun r1 σ1 t1 hw => ?_)
  have hw := hw t1
  refine ml_if_eq (pc := 5) (tgt := 34) X t1.i dX11_mend_5 (by decide) (fun c2 => ?_) (fun c2 => ?_)
  · have hw := hw.1 c2
    exact u_X11_mend_34 X hn σ1   _ (lv_sub hl [] rfl) hw
  · have hw := hw.2 c2
    refine ml_aload_n (pc := 8) X hl 0 rfl rfl dX11_mend_8 ?_
    refine gf_X11_67 (pc := 9) X (ml_c1 hn) dX11_mend_9 ?_
    refine ml_iload_n (pc := 12) X hl 1 rfl rfl dX11_mend_12 ?_
    obtain ⟨a3, b3, hw⟩ := hw
    refine ml_aald_words (pc := 13) X hn a3 b3 dX11_mend_13 ?_
    refine gf_X11_212 (pc := 14) X (ml_at_words hn a3 b3) dX11_mend_14 (fun r4 => ?_)
    have hw := hw r4
    refine ml_if_eq (pc := 17) (tgt := 34) X r4.i dX11_mend_17 (by decide) (fun c5 => ?_) (fun c5 => ?_)
    · have hw := hw.1 c5
      exact u_X11_mend_34 X hn σ1   _ (lv_sub hl [] rfl) hw
    · have hw := hw.2 c5
      refine ml_aload_n (pc := 20) X hl 0 rfl rfl dX11_mend_20 ?_
      refine gf_X11_67 (pc := 21) X (ml_c1 hn) dX11_mend_21 ?_
      refine ml_iload_n (pc := 24) X hl 1 rfl rfl dX11_mend_24 ?_
      obtain ⟨a6, b6, hw⟩ := hw
      refine ml_aald_words (pc := 25) X hn a6 b6 dX11_mend_25 ?_
      refine gf_X11_253 (pc := 26) X (ml_at_words hn a6 b6) dX11_mend_26 (fun r7 => ?_)
      have hw := hw r7
      refine ml_bipush (pc := 29) X dX11_mend_29 (by decide) ?_
      refine ml_icmp_le (pc := 31) (tgt := 36) X r7 ⟨by decide, by decide⟩ dX11_mend_31 (by decide) (fun c8 => ?_) (fun c8 => ?_)
      · have hw := hw.1 c8
        refine ml_aload_n (pc := 36) X hl 0 rfl rfl dX11_mend_36 ?_
        refine gf_X11_61 (pc := 37) X (ml_c1 hn) dX11_mend_37 ?_
        refine ml_aload_n (pc := 40) X hl 0 rfl rfl dX11_mend_40 ?_
        refine gf_X11_67 (pc := 41) X (ml_c1 hn) dX11_mend_41 ?_
        refine ml_iload_n (pc := 44) X hl 1 rfl rfl dX11_mend_44 ?_
        obtain ⟨a9, b9, hw⟩ := hw
        refine ml_aald_words (pc := 45) X hn a9 b9 dX11_mend_45 ?_
        refine ml_aload_n (pc := 46) X hl 0 rfl rfl dX11_mend_46 ?_
        refine gf_X11_40 (pc := 47) X (ml_c1 hn) dX11_mend_47 ?_
        refine ml_aload_n (pc := 50) X hl 0 rfl rfl dX11_mend_50 ?_
        refine gf_X11_19 (pc := 51) X (ml_c1 hn) dX11_mend_51 ?_
        refine ml_aload_n (pc := 54) X hl 0 rfl rfl dX11_mend_54 ?_
        refine gf_X11_82 (pc := 55) X (ml_c1 hn) dX11_mend_55 (fun r10 => ?_)
        have hw := hw r10
        refine ml_calliV (pc := 58) (rest := []) X [.ref (base + ((119 + 6 * x1) : Int).toNat), .ref (base + (46 : Int).toNat), .ref (base + (4 : Int).toNat), .int (Int32.ofInt (σ1 1 11))] (by decide) rfl (ml_c76 hn) (c_X5_leastSet l base D cA n hn σ1 (119 + 6 * x1) (ml_at_words hn a9 b9) (σ1 1 11) r10 _ hw) cv_X11_254 ⟨rfl, rfl⟩ ⟨by decide, by decide⟩ rfl rfl hl (Nat.le_of_ble_eq_true rfl) ⟨Nat.zero_le _, Nat.zero_le _⟩ dX11_mend_58 (fun r11 σ11 t11 hw => ?_)
        have hw := hw t11
        exact ml_iret (pc := 61) X t11 hw dX11_mend_61
      · have hw := hw.2 c8
        exact u_X11_mend_34 X hn σ1   _ (lv_sub hl [] rfl) hw
set_option maxRecDepth 100000 in
theorem c_X11_mend (l : Launch) (base : Nat) (D : va_G) (cA : Nat → ClassId) (n : Nat) (hn : 214 ≤ n) (σ : ml_St) (x1 : Int) (h_x1 : I32 x1) (Q : Int → ml_St → Prop) (hw : f_X11_mend σ x1 Q) : Met l yX11_mend (Cond.code yX11_mend cX11_mend 2 (some .int) :: ml_T) rm_X11_mend (va_Pc [.ref (base + (1 : Int).toNat), .int (Int32.ofInt x1)] (ml_U base D cA n σ)) (ml_Qi I32 base D cA n Q) 0 0 (ml_A base) := by
  refine Met.ofW (cc := cX11_mend) (maxL := 2) (ret := (some .int)) (by decide) rfl ?_
  intro p e s m args below meth c s₁ B hml hv
  obtain ⟨rfl, hP, hK, hok, hro⟩ := hv
  have X : ml_X p s m c meth _ D cA cX11_mend 2 RX11 (some .int) := ⟨B.exec, B.bytes, hml, findClass_of_methodNamed B.named, fun w hw => atoms_spec (ws := Cond.code yX11_mend cX11_mend 2 (some .int) :: ml_T) B.pre w (List.mem_cons_of_mem _ hw), hK, B.notSynchronized, B.returns⟩
  have hl := lv_entry [.ref (base + (1 : Int).toNat), .int (Int32.ofInt x1)] (n := 2) (Nat.le_of_ble_eq_true rfl)
  rw [lg_entry_eq]
  generalize (lg_sl [.ref (base + (1 : Int).toNat), .int (Int32.ofInt x1)] ++ List.replicate (2 - (lg_sl [.ref (base + (1 : Int).toNat), .int (Int32.ofInt x1)]).length) Slot.unset).toArray = ls at hl ⊢
  have hl : lv_has ls 2 [(0, .ref (base + (1 : Int).toNat)), (1, .int (Int32.ofInt x1))] := hl
  unfold f_X11_mend at hw
  exact u_X11_mend_0 X hn σ x1 h_x1 _ (lv_sub hl [0, 1] rfl) hw s.heap [] hP va_S.rf hok hro
theorem dX8_number_0 : decode cX8_number 0 = .ok (.lconst 0, 1) := by decide +kernel
theorem dX8_number_1 : decode cX8_number 1 = .ok (.lstore_n 2, 1) := by decide +kernel
theorem dX8_number_2 : decode cX8_number 2 = .ok (.iconst 4, 1) := by decide +kernel
theorem dX8_number_3 : decode cX8_number 3 = .ok (.iload_n 1, 1) := by decide +kernel
theorem dX8_number_4 : decode cX8_number 4 = .ok (.imul, 1) := by decide +kernel
theorem dX8_number_5 : decode cX8_number 5 = .ok (.istore 4, 2) := by decide +kernel
theorem dX8_number_7 : decode cX8_number 7 = .ok (.iload 4, 2) := by decide +kernel
theorem dX8_number_9 : decode cX8_number 9 = .ok (.iconst 4, 1) := by decide +kernel
theorem dX8_number_10 : decode cX8_number 10 = .ok (.iload_n 1, 1) := by decide +kernel
theorem dX8_number_11 : decode cX8_number 11 = .ok (.imul, 1) := by decide +kernel
theorem dX8_number_12 : decode cX8_number 12 = .ok (.iconst 4, 1) := by decide +kernel
theorem dX8_number_13 : decode cX8_number 13 = .ok (.iadd, 1) := by decide +kernel
theorem dX8_number_14 : decode cX8_number 14 = .ok (.if_icmp .ge 32, 3) := by decide +kernel
theorem dX8_number_17 : decode cX8_number 17 = .ok (.iload 4, 2) := by decide +kernel
theorem dX8_number_19 : decode cX8_number 19 = .ok (.sipush 200, 3) := by decide +kernel
theorem dX8_number_22 : decode cX8_number 22 = .ok (.if_icmp .ge 24, 3) := by decide +kernel
theorem dX8_number_25 : decode cX8_number 25 = .ok (.lload_n 2, 1) := by decide +kernel
theorem dX8_number_26 : decode cX8_number 26 = .ok (.ldc2_w 19, 3) := by decide +kernel
theorem dX8_number_29 : decode cX8_number 29 = .ok (.lmul, 1) := by decide +kernel
theorem dX8_number_30 : decode cX8_number 30 = .ok (.aload_n 0, 1) := by decide +kernel
theorem dX8_number_31 : decode cX8_number 31 = .ok (.getfield 9, 3) := by decide +kernel
theorem dX8_number_34 : decode cX8_number 34 = .ok (.iload 4, 2) := by decide +kernel
theorem dX8_number_36 : decode cX8_number 36 = .ok (.iaload, 1) := by decide +kernel
theorem dX8_number_37 : decode cX8_number 37 = .ok (.i2l, 1) := by decide +kernel
theorem dX8_number_38 : decode cX8_number 38 = .ok (.ladd, 1) := by decide +kernel
theorem dX8_number_39 : decode cX8_number 39 = .ok (.lstore_n 2, 1) := by decide +kernel
theorem dX8_number_40 : decode cX8_number 40 = .ok (.iinc 4 1, 3) := by decide +kernel
theorem dX8_number_43 : decode cX8_number 43 = .ok (.goto (-36), 3) := by decide +kernel
theorem dX8_number_46 : decode cX8_number 46 = .ok (.lload_n 2, 1) := by decide +kernel
theorem dX8_number_47 : decode cX8_number 47 = .ok (.lreturn, 1) := by decide +kernel
def f_X8_number_u7 (Q : Int → ml_St → Prop) (K46 : ml_St → Int → Prop) : Nat → ml_St → Int → Int → Int → Prop
| 0, _, _, _, _ => False
| N + 1, σ, x1, x2, x4 =>
I32 (4 * x1) ∧
I32 ((4 * x1) + 4) ∧
(((4 * x1) + 4) ≤ x4 →
K46 σ x2) ∧
(¬ (((4 * x1) + 4) ≤ x4) →
(200 ≤ x4 →
K46 σ x2) ∧
(¬ (200 ≤ x4) →
(0 : Int) ≤ x4 ∧ (x4 : Int) < 200 ∧
∀ _ : I32 (σ 3 x4),
∀ y8 : Int, y8 = w64 ((w64 (x2 * 256)) + (σ 3 x4)) →
I32 (x4 + 1) ∧
∀ y9 : Int, y9 = x4 + 1 →
f_X8_number_u7 Q K46 N σ x1 y8 y9))
def f_X8_number_u46 (Q : Int → ml_St → Prop) (σ : ml_St) (x2 : Int) : Prop :=
Q x2 σ
def f_X8_number_u0 (Q : Int → ml_St → Prop) (σ : ml_St) (x1 : Int) : Prop :=
I32 (4 * x1) ∧
∀ y2 : Int, y2 = 4 * x1 →
∃ N1, f_X8_number_u7 Q (f_X8_number_u46 Q) N1 σ x1 0 y2
def f_X8_number (σ : ml_St) (x1 : Int) (Q : Int → ml_St → Prop) : Prop := f_X8_number_u0 Q σ x1
def rm_X8_number : Room := { frames := 0, cells := 0, slots := 0, locals := 0 }
set_option maxRecDepth 100000 in
set_option maxHeartbeats 4000000 in
theorem u_X8_number_7 {p : Program} {e : Env} {s : State} {m : MethodId} {args : Array Value} {below : List Frame} {meth : Method} {c : Code} {base : Nat} {D : va_G} {cA : Nat → ClassId} {n : Nat} {l : Launch} {Q : Int → ml_St → Prop} {K46 : ml_St → Int → Prop} (X : ml_X p s m c meth args D cA cX8_number 5 RX8 (some .long)) (hn : 214 ≤ n) (hK46 : ∀ (σ : ml_St) (x2 : Int) (h_x2 : I64 x2) (ls : Array Slot), lv_has ls 5 [(2, .long (Int64.ofInt x2))] → K46 σ x2 → ml_V p l e rm_X8_number s m args below meth c (MQ below (ml_Ql base D cA n Q) args s 0 0 (ml_A base)) base D cA 0 0 n n σ (F0 m 46 ls [])) : ∀ (N : Nat) (σ : ml_St) (x1 : Int) (x2 : Int) (x4 : Int) (h_x1 : I32 x1) (h_x2 : I64 x2) (h_x4 : I32 x4) (ls : Array Slot), lv_has ls 5 [(0, .ref (base + (2 : Int).toNat)), (1, .int (Int32.ofInt x1)), (2, .long (Int64.ofInt x2)), (4, .int (Int32.ofInt x4))] → f_X8_number_u7 Q K46 N σ x1 x2 x4 → ml_V p l e rm_X8_number s m args below meth c (MQ below (ml_Ql base D cA n Q) args s 0 0 (ml_A base)) base D cA 0 0 n n σ (F0 m 7 ls []) := by
  intro N
  induction N with
  | zero => intro σ x1 x2 x4 h_x1 h_x2 h_x4 ls hl hw; exact False.elim hw
  | succ N ih =>
    intro σ x1 x2 x4 h_x1 h_x2 h_x4 ls hl hw
    unfold f_X8_number_u7 at hw
    refine ml_iload (pc := 7) X hl 3 rfl dX8_number_7 ?_
    refine ml_iconst (pc := 9) X dX8_number_9 ?_
    refine ml_iload_n (pc := 10) X hl 1 rfl rfl dX8_number_10 ?_
    obtain ⟨v1, hw⟩ := hw
    refine ml_imul (pc := 11) X dX8_number_11 ?_
    refine ml_iconst (pc := 12) X dX8_number_12 ?_
    obtain ⟨v2, hw⟩ := hw
    refine ml_iadd (pc := 13) X dX8_number_13 ?_
    refine ml_icmp_ge (pc := 14) (tgt := 46) X h_x4 v2 dX8_number_14 (by decide) (fun c3 => ?_) (fun c3 => ?_)
    · have hw := hw.1 c3
      exact hK46 σ x2 h_x2 _ (lv_sub hl [2] rfl) hw
    · have hw := hw.2 c3
      refine ml_iload (pc := 17) X hl 3 rfl dX8_number_17 ?_
      refine ml_sipush (pc := 19) X dX8_number_19 (by decide) ?_
      refine ml_icmp_ge (pc := 22) (tgt := 46) X h_x4 ⟨by decide, by decide⟩ dX8_number_22 (by decide) (fun c4 => ?_) (fun c4 => ?_)
      · have hw := hw.1 c4
        exact hK46 σ x2 h_x2 _ (lv_sub hl [2] rfl) hw
      · have hw := hw.2 c4
        refine ml_lload_n (pc := 25) X hl 2 rfl rfl dX8_number_25 ?_
        refine ml_ldc2 (pc := 26) (v := 256) X dX8_number_26 tc_4_153 ?_
        refine ml_lmulW (pc := 29) X dX8_number_29 ?_
        refine ml_aload_n (pc := 30) X hl 0 rfl rfl dX8_number_30 ?_
        refine gf_X8_9 (pc := 31) X (ml_c2 hn) dX8_number_31 ?_
        refine ml_iload (pc := 34) X hl 3 rfl dX8_number_34 ?_
        obtain ⟨a6, b6, hw⟩ := hw
        refine ml_iald (pc := 36) (N := 200) X (ml_c3 hn) a6 b6 dX8_number_36 (fun r6 => ?_)
        have hw := hw r6
        refine ml_i2l (pc := 37) X r6 dX8_number_37 ?_
        refine ml_laddW (pc := 38) X dX8_number_38 ?_
        refine ml_topL (pc := 39) (fun y8 e8 => ?_)
        have hw := hw y8 e8
        have q8 : I64 y8 := by rw [e8]; exact (w64_r _)
        refine ml_lstore_n (pc := 39) X rfl hl (by decide) (lst' := [(2, .long (Int64.ofInt y8)), (0, .ref (base + (2 : Int).toNat)), (1, .int (Int32.ofInt x1)), (4, .int (Int32.ofInt x4))]) rfl dX8_number_39 (fun ls hl => ?_)
        obtain ⟨v9, hw⟩ := hw
        obtain ⟨y9, e9⟩ : ∃ y : Int, y = x4 + 1 := ⟨_, rfl⟩
        have hw := hw y9 e9
        rw [← e9] at v9
        refine ml_iinc (pc := 40) X e9 hl 3 rfl (by decide) (lst' := [(4, .int (Int32.ofInt y9)), (2, .long (Int64.ofInt y8)), (0, .ref (base + (2 : Int).toNat)), (1, .int (Int32.ofInt x1))]) rfl dX8_number_40 (fun ls hl => ?_)
        refine ml_goto (pc := 43) (tgt := 7) X dX8_number_43 (by decide) ?_
        exact ih σ x1 y8 y9 h_x1 q8 v9 _ (lv_sub hl [2, 3, 1, 0] rfl) hw
set_option maxRecDepth 100000 in
set_option maxHeartbeats 4000000 in
theorem u_X8_number_46 {p : Program} {e : Env} {s : State} {m : MethodId} {args : Array Value} {below : List Frame} {meth : Method} {c : Code} {base : Nat} {D : va_G} {cA : Nat → ClassId} {n : Nat} {l : Launch} {Q : Int → ml_St → Prop} (X : ml_X p s m c meth args D cA cX8_number 5 RX8 (some .long)) (hn : 214 ≤ n) (σ : ml_St) (x2 : Int) (h_x2 : I64 x2) (ls : Array Slot) (hl : lv_has ls 5 [(2, .long (Int64.ofInt x2))]) (hw : f_X8_number_u46 Q σ x2) : ml_V p l e rm_X8_number s m args below meth c (MQ below (ml_Ql base D cA n Q) args s 0 0 (ml_A base)) base D cA 0 0 n n σ (F0 m 46 ls []) := by
  unfold f_X8_number_u46 at hw
  refine ml_lload_n (pc := 46) X hl 0 rfl rfl dX8_number_46 ?_
  exact ml_lret (pc := 47) X h_x2 hw dX8_number_47
set_option maxRecDepth 100000 in
set_option maxHeartbeats 4000000 in
theorem u_X8_number_0 {p : Program} {e : Env} {s : State} {m : MethodId} {args : Array Value} {below : List Frame} {meth : Method} {c : Code} {base : Nat} {D : va_G} {cA : Nat → ClassId} {n : Nat} {l : Launch} {Q : Int → ml_St → Prop} (X : ml_X p s m c meth args D cA cX8_number 5 RX8 (some .long)) (hn : 214 ≤ n) (σ : ml_St) (x1 : Int) (h_x1 : I32 x1) (ls : Array Slot) (hl : lv_has ls 5 [(0, .ref (base + (2 : Int).toNat)), (1, .int (Int32.ofInt x1))]) (hw : f_X8_number_u0 Q σ x1) : ml_V p l e rm_X8_number s m args below meth c (MQ below (ml_Ql base D cA n Q) args s 0 0 (ml_A base)) base D cA 0 0 n n σ (F0 m 0 ls []) := by
  unfold f_X8_number_u0 at hw
  refine ml_lconst0 (pc := 0) X dX8_number_0 ?_
  refine ml_lstore_n (pc := 1) X rfl hl (by decide) (lst' := [(2, .long (Int64.ofInt 0)), (0, .ref (base + (2 : Int).toNat)), (1, .int (Int32.ofInt x1))]) rfl dX8_number_1 (fun ls hl => ?_)
  refine ml_iconst (pc := 2) X dX8_number_2 ?_
  refine ml_iload_n (pc := 3) X hl 2 rfl rfl dX8_number_3 ?_
  obtain ⟨v1, hw⟩ := hw
  refine ml_imul (pc := 4) X dX8_number_4 ?_
  refine ml_topI (pc := 5) (fun y2 e2 => ?_)
  have hw := hw y2 e2
  have q2 : I32 y2 := by rw [e2]; exact v1
  refine ml_istore (pc := 5) X hl (by decide) (lst' := [(4, .int (Int32.ofInt y2)), (2, .long (Int64.ofInt 0)), (0, .ref (base + (2 : Int).toNat)), (1, .int (Int32.ofInt x1))]) rfl dX8_number_5 (fun ls hl => ?_)
  obtain ⟨N0, hw⟩ := hw
  exact u_X8_number_7 X hn (fun σ x2 h_x2 ls hl hw => u_X8_number_46 X hn σ x2 h_x2 ls hl hw) N0 σ x1 0 y2 h_x1 ⟨by decide, by decide⟩ q2 _ (lv_sub hl [2, 3, 1, 0] rfl) hw
set_option maxRecDepth 100000 in
theorem c_X8_number (l : Launch) (base : Nat) (D : va_G) (cA : Nat → ClassId) (n : Nat) (hn : 214 ≤ n) (σ : ml_St) (x1 : Int) (h_x1 : I32 x1) (Q : Int → ml_St → Prop) (hw : f_X8_number σ x1 Q) : Met l yX8_number (Cond.code yX8_number cX8_number 5 (some .long) :: ml_T) rm_X8_number (va_Pc [.ref (base + (2 : Int).toNat), .int (Int32.ofInt x1)] (ml_U base D cA n σ)) (ml_Ql base D cA n Q) 0 0 (ml_A base) := by
  refine Met.ofW (cc := cX8_number) (maxL := 5) (ret := (some .long)) (by decide) rfl ?_
  intro p e s m args below meth c s₁ B hml hv
  obtain ⟨rfl, hP, hK, hok, hro⟩ := hv
  have X : ml_X p s m c meth _ D cA cX8_number 5 RX8 (some .long) := ⟨B.exec, B.bytes, hml, findClass_of_methodNamed B.named, fun w hw => atoms_spec (ws := Cond.code yX8_number cX8_number 5 (some .long) :: ml_T) B.pre w (List.mem_cons_of_mem _ hw), hK, B.notSynchronized, B.returns⟩
  have hl := lv_entry [.ref (base + (2 : Int).toNat), .int (Int32.ofInt x1)] (n := 5) (Nat.le_of_ble_eq_true rfl)
  rw [lg_entry_eq]
  generalize (lg_sl [.ref (base + (2 : Int).toNat), .int (Int32.ofInt x1)] ++ List.replicate (5 - (lg_sl [.ref (base + (2 : Int).toNat), .int (Int32.ofInt x1)]).length) Slot.unset).toArray = ls at hl ⊢
  have hl : lv_has ls 5 [(0, .ref (base + (2 : Int).toNat)), (1, .int (Int32.ofInt x1))] := hl
  unfold f_X8_number at hw
  exact u_X8_number_0 X hn σ x1 h_x1 _ (lv_sub hl [0, 1] rfl) hw s.heap [] hP va_S.rf hok hro
theorem dX11_leavesAsTold_0 : decode cX11_leavesAsTold 0 = .ok (.aload_n 0, 1) := by decide +kernel
theorem dX11_leavesAsTold_1 : decode cX11_leavesAsTold 1 = .ok (.getfield 40, 3) := by decide +kernel
theorem dX11_leavesAsTold_4 : decode cX11_leavesAsTold 4 = .ok (.aload_n 0, 1) := by decide +kernel
theorem dX11_leavesAsTold_5 : decode cX11_leavesAsTold 5 = .ok (.getfield 67, 3) := by decide +kernel
theorem dX11_leavesAsTold_8 : decode cX11_leavesAsTold 8 = .ok (.iload_n 1, 1) := by decide +kernel
theorem dX11_leavesAsTold_9 : decode cX11_leavesAsTold 9 = .ok (.aaload, 1) := by decide +kernel
theorem dX11_leavesAsTold_10 : decode cX11_leavesAsTold 10 = .ok (.getfield 112, 3) := by decide +kernel
theorem dX11_leavesAsTold_13 : decode cX11_leavesAsTold 13 = .ok (.aload_n 0, 1) := by decide +kernel
theorem dX11_leavesAsTold_14 : decode cX11_leavesAsTold 14 = .ok (.getfield 19, 3) := by decide +kernel
theorem dX11_leavesAsTold_17 : decode cX11_leavesAsTold 17 = .ok (.aload_n 0, 1) := by decide +kernel
theorem dX11_leavesAsTold_18 : decode cX11_leavesAsTold 18 = .ok (.getfield 82, 3) := by decide +kernel
theorem dX11_leavesAsTold_21 : decode cX11_leavesAsTold 21 = .ok (.invokevirtual 148, 3) := by decide +kernel
theorem dX11_leavesAsTold_24 : decode cX11_leavesAsTold 24 = .ok (.iconst 0, 1) := by decide +kernel
theorem dX11_leavesAsTold_25 : decode cX11_leavesAsTold 25 = .ok (.istore_n 3, 1) := by decide +kernel
theorem dX11_leavesAsTold_26 : decode cX11_leavesAsTold 26 = .ok (.iload_n 3, 1) := by decide +kernel
theorem dX11_leavesAsTold_27 : decode cX11_leavesAsTold 27 = .ok (.iload_n 2, 1) := by decide +kernel
theorem dX11_leavesAsTold_28 : decode cX11_leavesAsTold 28 = .ok (.if_icmp .ge 34, 3) := by decide +kernel
theorem dX11_leavesAsTold_31 : decode cX11_leavesAsTold 31 = .ok (.aload_n 0, 1) := by decide +kernel
theorem dX11_leavesAsTold_32 : decode cX11_leavesAsTold 32 = .ok (.getfield 40, 3) := by decide +kernel
theorem dX11_leavesAsTold_35 : decode cX11_leavesAsTold 35 = .ok (.iload_n 3, 1) := by decide +kernel
theorem dX11_leavesAsTold_36 : decode cX11_leavesAsTold 36 = .ok (.iconst 1, 1) := by decide +kernel
theorem dX11_leavesAsTold_37 : decode cX11_leavesAsTold 37 = .ok (.iadd, 1) := by decide +kernel
theorem dX11_leavesAsTold_38 : decode cX11_leavesAsTold 38 = .ok (.i2l, 1) := by decide +kernel
theorem dX11_leavesAsTold_39 : decode cX11_leavesAsTold 39 = .ok (.invokevirtual 174, 3) := by decide +kernel
theorem dX11_leavesAsTold_42 : decode cX11_leavesAsTold 42 = .ok (.aload_n 0, 1) := by decide +kernel
theorem dX11_leavesAsTold_43 : decode cX11_leavesAsTold 43 = .ok (.getfield 10, 3) := by decide +kernel
theorem dX11_leavesAsTold_46 : decode cX11_leavesAsTold 46 = .ok (.iload_n 3, 1) := by decide +kernel
theorem dX11_leavesAsTold_47 : decode cX11_leavesAsTold 47 = .ok (.invokevirtual 319, 3) := by decide +kernel
theorem dX11_leavesAsTold_50 : decode cX11_leavesAsTold 50 = .ok (.lcmp, 1) := by decide +kernel
theorem dX11_leavesAsTold_51 : decode cX11_leavesAsTold 51 = .ok (.ifCond .eq 5, 3) := by decide +kernel
theorem dX11_leavesAsTold_54 : decode cX11_leavesAsTold 54 = .ok (.iconst 0, 1) := by decide +kernel
theorem dX11_leavesAsTold_55 : decode cX11_leavesAsTold 55 = .ok (.ireturn, 1) := by decide +kernel
theorem dX11_leavesAsTold_56 : decode cX11_leavesAsTold 56 = .ok (.iinc 3 1, 3) := by decide +kernel
theorem dX11_leavesAsTold_59 : decode cX11_leavesAsTold 59 = .ok (.goto (-33), 3) := by decide +kernel
theorem dX11_leavesAsTold_62 : decode cX11_leavesAsTold 62 = .ok (.iconst 1, 1) := by decide +kernel
theorem dX11_leavesAsTold_63 : decode cX11_leavesAsTold 63 = .ok (.ireturn, 1) := by decide +kernel
def f_X11_leavesAsTold_u26 (Q : Int → ml_St → Prop) (K54 : ml_St → Prop) (K62 : ml_St → Prop) : Nat → ml_St → Int → Int → Prop
| 0, _, _, _ => False
| N + 1, σ, x2, x3 =>
(x2 ≤ x3 →
K62 σ) ∧
(¬ (x2 ≤ x3) →
I32 (x3 + 1) ∧
f_X6_loopsOf σ (x3 + 1) (fun r3 σ3 => ∀ _ : I64 r3,
f_X8_number σ3 x3 (fun r4 σ4 => ∀ _ : I64 r4,
(r3 = r4 →
I32 (x3 + 1) ∧
∀ y6 : Int, y6 = x3 + 1 →
f_X11_leavesAsTold_u26 Q K54 K62 N σ4 x2 y6) ∧
(r3 ≠ r4 →
K54 σ4))))
def f_X11_leavesAsTold_u54 (Q : Int → ml_St → Prop) (σ : ml_St) : Prop :=
Q 0 σ
def f_X11_leavesAsTold_u62 (Q : Int → ml_St → Prop) (σ : ml_St) : Prop :=
Q 1 σ
def f_X11_leavesAsTold_u0 (Q : Int → ml_St → Prop) (σ : ml_St) (x1 : Int) (x2 : Int) : Prop :=
(0 : Int) ≤ x1 ∧ (x1 : Int) < 16 ∧
∀ _ : I32 (σ 1 11),
f_X6_study σ ((119 + 6 * x1) + 2) (σ 1 11) (fun σ3 =>
∃ N1, f_X11_leavesAsTold_u26 Q (f_X11_leavesAsTold_u54 Q) (f_X11_leavesAsTold_u62 Q) N1 σ3 x2 0)
def f_X11_leavesAsTold (σ : ml_St) (x1 : Int) (x2 : Int) (Q : Int → ml_St → Prop) : Prop := f_X11_leavesAsTold_u0 Q σ x1 x2
def rm_X11_leavesAsTold : Room := { frames := 4, cells := 0, slots := 0, locals := 141 }
set_option maxRecDepth 100000 in
set_option maxHeartbeats 4000000 in
theorem u_X11_leavesAsTold_26 {p : Program} {e : Env} {s : State} {m : MethodId} {args : Array Value} {below : List Frame} {meth : Method} {c : Code} {base : Nat} {D : va_G} {cA : Nat → ClassId} {n : Nat} {l : Launch} {Q : Int → ml_St → Prop} {K54 : ml_St → Prop} {K62 : ml_St → Prop} (X : ml_X p s m c meth args D cA cX11_leavesAsTold 4 RX11 (some .boolean)) (hn : 214 ≤ n) (hK54 : ∀ (σ : ml_St) (ls : Array Slot), lv_has ls 4 [] → K54 σ → ml_V p l e rm_X11_leavesAsTold s m args below meth c (MQ below (ml_Qi ml_B base D cA n Q) args s 0 0 (ml_A base)) base D cA 0 0 n n σ (F0 m 54 ls [])) (hK62 : ∀ (σ : ml_St) (ls : Array Slot), lv_has ls 4 [] → K62 σ → ml_V p l e rm_X11_leavesAsTold s m args below meth c (MQ below (ml_Qi ml_B base D cA n Q) args s 0 0 (ml_A base)) base D cA 0 0 n n σ (F0 m 62 ls [])) : ∀ (N : Nat) (σ : ml_St) (x2 : Int) (x3 : Int) (h_x2 : I32 x2) (h_x3 : I32 x3) (ls : Array Slot), lv_has ls 4 [(0, .ref (base + (1 : Int).toNat)), (2, .int (Int32.ofInt x2)), (3, .int (Int32.ofInt x3))] → f_X11_leavesAsTold_u26 Q K54 K62 N σ x2 x3 → ml_V p l e rm_X11_leavesAsTold s m args below meth c (MQ below (ml_Qi ml_B base D cA n Q) args s 0 0 (ml_A base)) base D cA 0 0 n n σ (F0 m 26 ls []) := by
  intro N
  induction N with
  | zero => intro σ x2 x3 h_x2 h_x3 ls hl hw; exact False.elim hw
  | succ N ih =>
    intro σ x2 x3 h_x2 h_x3 ls hl hw
    unfold f_X11_leavesAsTold_u26 at hw
    refine ml_iload_n (pc := 26) X hl 2 rfl rfl dX11_leavesAsTold_26 ?_
    refine ml_iload_n (pc := 27) X hl 1 rfl rfl dX11_leavesAsTold_27 ?_
    refine ml_icmp_ge (pc := 28) (tgt := 62) X h_x3 h_x2 dX11_leavesAsTold_28 (by decide) (fun c1 => ?_) (fun c1 => ?_)
    · have hw := hw.1 c1
      exact hK62 σ   _ (lv_sub hl [] rfl) hw
    · have hw := hw.2 c1
      refine ml_aload_n (pc := 31) X hl 0 rfl rfl dX11_leavesAsTold_31 ?_
      refine gf_X11_40 (pc := 32) X (ml_c1 hn) dX11_leavesAsTold_32 ?_
      refine ml_iload_n (pc := 35) X hl 2 rfl rfl dX11_leavesAsTold_35 ?_
      refine ml_iconst (pc := 36) X dX11_leavesAsTold_36 ?_
      obtain ⟨v2, hw⟩ := hw
      refine ml_iadd (pc := 37) X dX11_leavesAsTold_37 ?_
      refine ml_i2l (pc := 38) X v2 dX11_leavesAsTold_38 ?_
      refine ml_calllV (pc := 39) (rest := []) X [.long (Int64.ofInt (x3 + 1))] (by decide) rfl (ml_c46 hn) (c_X6_loopsOf l base D cA n hn σ (x3 + 1) (v2).l _ hw) cv_X11_174 ⟨rfl, rfl⟩ ⟨by decide, by decide⟩ rfl rfl hl (Nat.le_of_ble_eq_true rfl) ⟨Nat.zero_le _, Nat.zero_le _⟩ dX11_leavesAsTold_39 (fun r3 σ3 t3 hw => ?_)
      have hw := hw t3
      refine ml_aload_n (pc := 42) X hl 0 rfl rfl dX11_leavesAsTold_42 ?_
      refine gf_X11_10 (pc := 43) X (ml_c1 hn) dX11_leavesAsTold_43 ?_
      refine ml_iload_n (pc := 46) X hl 2 rfl rfl dX11_leavesAsTold_46 ?_
      refine ml_calllV (pc := 47) (rest := [.long (Int64.ofInt r3)]) X [.int (Int32.ofInt x3)] (by decide) rfl (ml_c2 hn) (c_X8_number l base D cA n hn σ3 x3 h_x3 _ hw) cv_X11_319 ⟨rfl, rfl⟩ ⟨by decide, by decide⟩ rfl rfl hl (Nat.le_of_ble_eq_true rfl) ⟨Nat.zero_le _, Nat.zero_le _⟩ dX11_leavesAsTold_47 (fun r4 σ4 t4 hw => ?_)
      have hw := hw t4
      refine ml_lcmp_eq (pc := 50) (tgt := 56) X t3 t4 dX11_leavesAsTold_50 dX11_leavesAsTold_51 (by decide) (fun c5 => ?_) (fun c5 => ?_)
      · have hw := hw.1 c5
        obtain ⟨v6, hw⟩ := hw
        obtain ⟨y6, e6⟩ : ∃ y : Int, y = x3 + 1 := ⟨_, rfl⟩
        have hw := hw y6 e6
        rw [← e6] at v6
        refine ml_iinc (pc := 56) X e6 hl 2 rfl (by decide) (lst' := [(3, .int (Int32.ofInt y6)), (0, .ref (base + (1 : Int).toNat)), (2, .int (Int32.ofInt x2))]) rfl dX11_leavesAsTold_56 (fun ls hl => ?_)
        refine ml_goto (pc := 59) (tgt := 26) X dX11_leavesAsTold_59 (by decide) ?_
        exact ih σ4 x2 y6 h_x2 v6 _ (lv_sub hl [1, 2, 0] rfl) hw
      · have hw := hw.2 c5
        exact hK54 σ4   _ (lv_sub hl [] rfl) hw
set_option maxRecDepth 100000 in
set_option maxHeartbeats 4000000 in
theorem u_X11_leavesAsTold_54 {p : Program} {e : Env} {s : State} {m : MethodId} {args : Array Value} {below : List Frame} {meth : Method} {c : Code} {base : Nat} {D : va_G} {cA : Nat → ClassId} {n : Nat} {l : Launch} {Q : Int → ml_St → Prop} (X : ml_X p s m c meth args D cA cX11_leavesAsTold 4 RX11 (some .boolean)) (hn : 214 ≤ n) (σ : ml_St) (ls : Array Slot) (hl : lv_has ls 4 []) (hw : f_X11_leavesAsTold_u54 Q σ) : ml_V p l e rm_X11_leavesAsTold s m args below meth c (MQ below (ml_Qi ml_B base D cA n Q) args s 0 0 (ml_A base)) base D cA 0 0 n n σ (F0 m 54 ls []) := by
  unfold f_X11_leavesAsTold_u54 at hw
  refine ml_iconst (pc := 54) X dX11_leavesAsTold_54 ?_
  exact ml_zret (pc := 55) X ⟨by decide, by decide⟩ hw dX11_leavesAsTold_55
set_option maxRecDepth 100000 in
set_option maxHeartbeats 4000000 in
theorem u_X11_leavesAsTold_62 {p : Program} {e : Env} {s : State} {m : MethodId} {args : Array Value} {below : List Frame} {meth : Method} {c : Code} {base : Nat} {D : va_G} {cA : Nat → ClassId} {n : Nat} {l : Launch} {Q : Int → ml_St → Prop} (X : ml_X p s m c meth args D cA cX11_leavesAsTold 4 RX11 (some .boolean)) (hn : 214 ≤ n) (σ : ml_St) (ls : Array Slot) (hl : lv_has ls 4 []) (hw : f_X11_leavesAsTold_u62 Q σ) : ml_V p l e rm_X11_leavesAsTold s m args below meth c (MQ below (ml_Qi ml_B base D cA n Q) args s 0 0 (ml_A base)) base D cA 0 0 n n σ (F0 m 62 ls []) := by
  unfold f_X11_leavesAsTold_u62 at hw
  refine ml_iconst (pc := 62) X dX11_leavesAsTold_62 ?_
  exact ml_zret (pc := 63) X ⟨by decide, by decide⟩ hw dX11_leavesAsTold_63
set_option maxRecDepth 100000 in
set_option maxHeartbeats 4000000 in
theorem u_X11_leavesAsTold_0 {p : Program} {e : Env} {s : State} {m : MethodId} {args : Array Value} {below : List Frame} {meth : Method} {c : Code} {base : Nat} {D : va_G} {cA : Nat → ClassId} {n : Nat} {l : Launch} {Q : Int → ml_St → Prop} (X : ml_X p s m c meth args D cA cX11_leavesAsTold 4 RX11 (some .boolean)) (hn : 214 ≤ n) (σ : ml_St) (x1 : Int) (x2 : Int) (h_x1 : I32 x1) (h_x2 : I32 x2) (ls : Array Slot) (hl : lv_has ls 4 [(0, .ref (base + (1 : Int).toNat)), (1, .int (Int32.ofInt x1)), (2, .int (Int32.ofInt x2))]) (hw : f_X11_leavesAsTold_u0 Q σ x1 x2) : ml_V p l e rm_X11_leavesAsTold s m args below meth c (MQ below (ml_Qi ml_B base D cA n Q) args s 0 0 (ml_A base)) base D cA 0 0 n n σ (F0 m 0 ls []) := by
  unfold f_X11_leavesAsTold_u0 at hw
  refine ml_aload_n (pc := 0) X hl 0 rfl rfl dX11_leavesAsTold_0 ?_
  refine gf_X11_40 (pc := 1) X (ml_c1 hn) dX11_leavesAsTold_1 ?_
  refine ml_aload_n (pc := 4) X hl 0 rfl rfl dX11_leavesAsTold_4 ?_
  refine gf_X11_67 (pc := 5) X (ml_c1 hn) dX11_leavesAsTold_5 ?_
  refine ml_iload_n (pc := 8) X hl 1 rfl rfl dX11_leavesAsTold_8 ?_
  obtain ⟨a1, b1, hw⟩ := hw
  refine ml_aald_words (pc := 9) X hn a1 b1 dX11_leavesAsTold_9 ?_
  refine gf_X11_112 (pc := 10) X (ml_at_words hn a1 b1) dX11_leavesAsTold_10 ?_
  refine ml_aload_n (pc := 13) X hl 0 rfl rfl dX11_leavesAsTold_13 ?_
  refine gf_X11_19 (pc := 14) X (ml_c1 hn) dX11_leavesAsTold_14 ?_
  refine ml_aload_n (pc := 17) X hl 0 rfl rfl dX11_leavesAsTold_17 ?_
  refine gf_X11_82 (pc := 18) X (ml_c1 hn) dX11_leavesAsTold_18 (fun r2 => ?_)
  have hw := hw r2
  refine ml_callvV (pc := 21) (rest := []) X [.ref (base + (((119 + 6 * x1) + 2) : Int).toNat), .ref (base + (4 : Int).toNat), .int (Int32.ofInt (σ 1 11))] (by decide) rfl (ml_c46 hn) (c_X6_study l base D cA n hn σ ((119 + 6 * x1) + 2) (ml_r20_2 hn (ml_at_words hn a1 b1)) (σ 1 11) r2 _ hw) cv_X11_148 ⟨rfl, rfl⟩ ⟨by decide, by decide⟩ rfl rfl hl (Nat.le_of_ble_eq_true rfl) ⟨Nat.zero_le _, Nat.zero_le _⟩ dX11_leavesAsTold_21 (fun σ3 hw => ?_)
  refine ml_iconst (pc := 24) X dX11_leavesAsTold_24 ?_
  refine ml_istore_n (pc := 25) X rfl hl (by decide) (lst' := [(3, .int (Int32.ofInt 0)), (0, .ref (base + (1 : Int).toNat)), (1, .int (Int32.ofInt x1)), (2, .int (Int32.ofInt x2))]) rfl dX11_leavesAsTold_25 (fun ls hl => ?_)
  obtain ⟨N0, hw⟩ := hw
  exact u_X11_leavesAsTold_26 X hn (fun σ   ls hl hw => u_X11_leavesAsTold_54 X hn σ   ls hl hw) (fun σ   ls hl hw => u_X11_leavesAsTold_62 X hn σ   ls hl hw) N0 σ3 x2 0 h_x2 ⟨by decide, by decide⟩ _ (lv_sub hl [1, 3, 0] rfl) hw
set_option maxRecDepth 100000 in
theorem c_X11_leavesAsTold (l : Launch) (base : Nat) (D : va_G) (cA : Nat → ClassId) (n : Nat) (hn : 214 ≤ n) (σ : ml_St) (x1 : Int) (x2 : Int) (h_x1 : I32 x1) (h_x2 : I32 x2) (Q : Int → ml_St → Prop) (hw : f_X11_leavesAsTold σ x1 x2 Q) : Met l yX11_leavesAsTold (Cond.code yX11_leavesAsTold cX11_leavesAsTold 4 (some .boolean) :: ml_T) rm_X11_leavesAsTold (va_Pc [.ref (base + (1 : Int).toNat), .int (Int32.ofInt x1), .int (Int32.ofInt x2)] (ml_U base D cA n σ)) (ml_Qi ml_B base D cA n Q) 0 0 (ml_A base) := by
  refine Met.ofW (cc := cX11_leavesAsTold) (maxL := 4) (ret := (some .boolean)) (by decide) rfl ?_
  intro p e s m args below meth c s₁ B hml hv
  obtain ⟨rfl, hP, hK, hok, hro⟩ := hv
  have X : ml_X p s m c meth _ D cA cX11_leavesAsTold 4 RX11 (some .boolean) := ⟨B.exec, B.bytes, hml, findClass_of_methodNamed B.named, fun w hw => atoms_spec (ws := Cond.code yX11_leavesAsTold cX11_leavesAsTold 4 (some .boolean) :: ml_T) B.pre w (List.mem_cons_of_mem _ hw), hK, B.notSynchronized, B.returns⟩
  have hl := lv_entry [.ref (base + (1 : Int).toNat), .int (Int32.ofInt x1), .int (Int32.ofInt x2)] (n := 4) (Nat.le_of_ble_eq_true rfl)
  rw [lg_entry_eq]
  generalize (lg_sl [.ref (base + (1 : Int).toNat), .int (Int32.ofInt x1), .int (Int32.ofInt x2)] ++ List.replicate (4 - (lg_sl [.ref (base + (1 : Int).toNat), .int (Int32.ofInt x1), .int (Int32.ofInt x2)]).length) Slot.unset).toArray = ls at hl ⊢
  have hl : lv_has ls 4 [(0, .ref (base + (1 : Int).toNat)), (1, .int (Int32.ofInt x1)), (2, .int (Int32.ofInt x2))] := hl
  unfold f_X11_leavesAsTold at hw
  exact u_X11_leavesAsTold_0 X hn σ x1 x2 h_x1 h_x2 _ (lv_sub hl [0, 1, 2] rfl) hw s.heap [] hP va_S.rf hok hro
theorem dX11_back_0 : decode cX11_back 0 = .ok (.iload_n 1, 1) := by decide +kernel
theorem dX11_back_1 : decode cX11_back 1 = .ok (.iconst 1, 1) := by decide +kernel
theorem dX11_back_2 : decode cX11_back 2 = .ok (.if_icmp .lt 22, 3) := by decide +kernel
theorem dX11_back_5 : decode cX11_back 5 = .ok (.iload_n 1, 1) := by decide +kernel
theorem dX11_back_6 : decode cX11_back 6 = .ok (.bipush 8, 2) := by decide +kernel
theorem dX11_back_8 : decode cX11_back 8 = .ok (.if_icmp .gt 16, 3) := by decide +kernel
theorem dX11_back_11 : decode cX11_back 11 = .ok (.aload_n 0, 1) := by decide +kernel
theorem dX11_back_12 : decode cX11_back 12 = .ok (.getfield 10, 3) := by decide +kernel
theorem dX11_back_15 : decode cX11_back 15 = .ok (.getfield 94, 3) := by decide +kernel
theorem dX11_back_18 : decode cX11_back 18 = .ok (.iconst 4, 1) := by decide +kernel
theorem dX11_back_19 : decode cX11_back 19 = .ok (.iload_n 1, 1) := by decide +kernel
theorem dX11_back_20 : decode cX11_back 20 = .ok (.imul, 1) := by decide +kernel
theorem dX11_back_21 : decode cX11_back 21 = .ok (.if_icmp .ge 5, 3) := by decide +kernel
theorem dX11_back_24 : decode cX11_back 24 = .ok (.iconst (-1), 1) := by decide +kernel
theorem dX11_back_25 : decode cX11_back 25 = .ok (.ireturn, 1) := by decide +kernel
theorem dX11_back_26 : decode cX11_back 26 = .ok (.iconst 0, 1) := by decide +kernel
theorem dX11_back_27 : decode cX11_back 27 = .ok (.istore_n 2, 1) := by decide +kernel
theorem dX11_back_28 : decode cX11_back 28 = .ok (.iconst 0, 1) := by decide +kernel
theorem dX11_back_29 : decode cX11_back 29 = .ok (.istore_n 3, 1) := by decide +kernel
theorem dX11_back_30 : decode cX11_back 30 = .ok (.iload_n 3, 1) := by decide +kernel
theorem dX11_back_31 : decode cX11_back 31 = .ok (.aload_n 0, 1) := by decide +kernel
theorem dX11_back_32 : decode cX11_back 32 = .ok (.getfield 86, 3) := by decide +kernel
theorem dX11_back_35 : decode cX11_back 35 = .ok (.if_icmp .ge 32, 3) := by decide +kernel
theorem dX11_back_38 : decode cX11_back 38 = .ok (.aload_n 0, 1) := by decide +kernel
theorem dX11_back_39 : decode cX11_back 39 = .ok (.iload_n 3, 1) := by decide +kernel
theorem dX11_back_40 : decode cX11_back 40 = .ok (.invokevirtual 121, 3) := by decide +kernel
theorem dX11_back_43 : decode cX11_back 43 = .ok (.ifCond .eq 18, 3) := by decide +kernel
theorem dX11_back_46 : decode cX11_back 46 = .ok (.aload_n 0, 1) := by decide +kernel
theorem dX11_back_47 : decode cX11_back 47 = .ok (.iload_n 3, 1) := by decide +kernel
theorem dX11_back_48 : decode cX11_back 48 = .ok (.iload_n 1, 1) := by decide +kernel
theorem dX11_back_49 : decode cX11_back 49 = .ok (.invokevirtual 258, 3) := by decide +kernel
theorem dX11_back_52 : decode cX11_back 52 = .ok (.ifCond .eq 9, 3) := by decide +kernel
theorem dX11_back_55 : decode cX11_back 55 = .ok (.iload_n 2, 1) := by decide +kernel
theorem dX11_back_56 : decode cX11_back 56 = .ok (.iconst 1, 1) := by decide +kernel
theorem dX11_back_57 : decode cX11_back 57 = .ok (.iload_n 3, 1) := by decide +kernel
theorem dX11_back_58 : decode cX11_back 58 = .ok (.ishl, 1) := by decide +kernel
theorem dX11_back_59 : decode cX11_back 59 = .ok (.ior, 1) := by decide +kernel
theorem dX11_back_60 : decode cX11_back 60 = .ok (.istore_n 2, 1) := by decide +kernel
theorem dX11_back_61 : decode cX11_back 61 = .ok (.iinc 3 1, 3) := by decide +kernel
theorem dX11_back_64 : decode cX11_back 64 = .ok (.goto (-34), 3) := by decide +kernel
theorem dX11_back_67 : decode cX11_back 67 = .ok (.aload_n 0, 1) := by decide +kernel
theorem dX11_back_68 : decode cX11_back 68 = .ok (.getfield 10, 3) := by decide +kernel
theorem dX11_back_71 : decode cX11_back 71 = .ok (.iconst 0, 1) := by decide +kernel
theorem dX11_back_72 : decode cX11_back 72 = .ok (.putfield 94, 3) := by decide +kernel
theorem dX11_back_75 : decode cX11_back 75 = .ok (.iload_n 2, 1) := by decide +kernel
theorem dX11_back_76 : decode cX11_back 76 = .ok (.ireturn, 1) := by decide +kernel
def f_X11_back_u24 (Q : Int → ml_St → Prop) (σ : ml_St) : Prop :=
Q (-1) σ
def f_X11_back_u61 (Q : Int → ml_St → Prop) (K30 : ml_St → Int → Int → Int → Prop) (σ : ml_St) (x1 : Int) (x2 : Int) (x3 : Int) : Prop :=
I32 (x3 + 1) ∧
∀ y1 : Int, y1 = x3 + 1 →
K30 σ x1 x2 y1
def f_X11_back_u30 (Q : Int → ml_St → Prop) (K67 : ml_St → Int → Prop) : Nat → ml_St → Int → Int → Int → Prop
| 0, _, _, _, _ => False
| N + 1, σ, x1, x2, x3 =>
∀ _ : I32 (σ 1 12),
((σ 1 12) ≤ x3 →
K67 σ x2) ∧
(¬ ((σ 1 12) ≤ x3) →
f_X11_isMade σ x3 (fun r3 σ3 => ∀ _ : ml_B r3,
(r3 = 0 →
f_X11_back_u61 Q (f_X11_back_u30 Q K67 N) σ3 x1 x2 x3) ∧
(r3 ≠ 0 →
f_X11_leavesAsTold σ3 x3 x1 (fun r5 σ5 => ∀ _ : ml_B r5,
(r5 = 0 →
f_X11_back_u61 Q (f_X11_back_u30 Q K67 N) σ5 x1 x2 x3) ∧
(r5 ≠ 0 →
∀ y7 : Int, y7 = b_or x2 (b_shl 1 x3) →
f_X11_back_u61 Q (f_X11_back_u30 Q K67 N) σ5 x1 y7 x3)))))
def f_X11_back_u67 (Q : Int → ml_St → Prop) (σ : ml_St) (x2 : Int) : Prop :=
∀ σ1, σ1 = ml_up σ 2 1 0 →
Q x2 σ1
def f_X11_back_u0 (Q : Int → ml_St → Prop) (σ : ml_St) (x1 : Int) : Prop :=
(x1 < 1 →
f_X11_back_u24 Q σ) ∧
(¬ (x1 < 1) →
(8 < x1 →
f_X11_back_u24 Q σ) ∧
(¬ (8 < x1) →
∀ _ : I32 (σ 2 1),
I32 (4 * x1) ∧
((4 * x1) ≤ ((σ 2 1) : Int) →
∃ N1, f_X11_back_u30 Q (f_X11_back_u67 Q) N1 σ x1 0 0) ∧
(¬ ((4 * x1) ≤ ((σ 2 1) : Int)) →
f_X11_back_u24 Q σ)))
def f_X11_back (σ : ml_St) (x1 : Int) (Q : Int → ml_St → Prop) : Prop := f_X11_back_u0 Q σ x1
def rm_X11_back : Room := { frames := 5, cells := 0, slots := 0, locals := 164 }
set_option maxRecDepth 100000 in
set_option maxHeartbeats 4000000 in
theorem u_X11_back_24 {p : Program} {e : Env} {s : State} {m : MethodId} {args : Array Value} {below : List Frame} {meth : Method} {c : Code} {base : Nat} {D : va_G} {cA : Nat → ClassId} {n : Nat} {l : Launch} {Q : Int → ml_St → Prop} (X : ml_X p s m c meth args D cA cX11_back 4 RX11 (some .int)) (hn : 214 ≤ n) (σ : ml_St) (ls : Array Slot) (hl : lv_has ls 4 []) (hw : f_X11_back_u24 Q σ) : ml_V p l e rm_X11_back s m args below meth c (MQ below (ml_Qi I32 base D cA n Q) args s 0 0 (ml_A base)) base D cA 0 0 n n σ (F0 m 24 ls []) := by
  unfold f_X11_back_u24 at hw
  refine ml_iconst (pc := 24) X dX11_back_24 ?_
  exact ml_iret (pc := 25) X ⟨by decide, by decide⟩ hw dX11_back_25
set_option maxRecDepth 100000 in
set_option maxHeartbeats 4000000 in
theorem u_X11_back_61 {p : Program} {e : Env} {s : State} {m : MethodId} {args : Array Value} {below : List Frame} {meth : Method} {c : Code} {base : Nat} {D : va_G} {cA : Nat → ClassId} {n : Nat} {l : Launch} {Q : Int → ml_St → Prop} {K30 : ml_St → Int → Int → Int → Prop} (X : ml_X p s m c meth args D cA cX11_back 4 RX11 (some .int)) (hn : 214 ≤ n) (hK30 : ∀ (σ : ml_St) (x1 : Int) (x2 : Int) (x3 : Int) (h_x1 : I32 x1) (h_x2 : I32 x2) (h_x3 : I32 x3) (ls : Array Slot), lv_has ls 4 [(0, .ref (base + (1 : Int).toNat)), (1, .int (Int32.ofInt x1)), (2, .int (Int32.ofInt x2)), (3, .int (Int32.ofInt x3))] → K30 σ x1 x2 x3 → ml_V p l e rm_X11_back s m args below meth c (MQ below (ml_Qi I32 base D cA n Q) args s 0 0 (ml_A base)) base D cA 0 0 n n σ (F0 m 30 ls [])) (σ : ml_St) (x1 : Int) (x2 : Int) (x3 : Int) (h_x1 : I32 x1) (h_x2 : I32 x2) (h_x3 : I32 x3) (ls : Array Slot) (hl : lv_has ls 4 [(0, .ref (base + (1 : Int).toNat)), (1, .int (Int32.ofInt x1)), (2, .int (Int32.ofInt x2)), (3, .int (Int32.ofInt x3))]) (hw : f_X11_back_u61 Q K30 σ x1 x2 x3) : ml_V p l e rm_X11_back s m args below meth c (MQ below (ml_Qi I32 base D cA n Q) args s 0 0 (ml_A base)) base D cA 0 0 n n σ (F0 m 61 ls []) := by
  unfold f_X11_back_u61 at hw
  obtain ⟨v1, hw⟩ := hw
  obtain ⟨y1, e1⟩ : ∃ y : Int, y = x3 + 1 := ⟨_, rfl⟩
  have hw := hw y1 e1
  rw [← e1] at v1
  refine ml_iinc (pc := 61) X e1 hl 3 rfl (by decide) (lst' := [(3, .int (Int32.ofInt y1)), (0, .ref (base + (1 : Int).toNat)), (1, .int (Int32.ofInt x1)), (2, .int (Int32.ofInt x2))]) rfl dX11_back_61 (fun ls hl => ?_)
  refine ml_goto (pc := 64) (tgt := 30) X dX11_back_64 (by decide) ?_
  exact hK30 σ x1 x2 y1 h_x1 h_x2 v1 _ (lv_sub hl [1, 2, 3, 0] rfl) hw
set_option maxRecDepth 100000 in
set_option maxHeartbeats 4000000 in
theorem u_X11_back_30 {p : Program} {e : Env} {s : State} {m : MethodId} {args : Array Value} {below : List Frame} {meth : Method} {c : Code} {base : Nat} {D : va_G} {cA : Nat → ClassId} {n : Nat} {l : Launch} {Q : Int → ml_St → Prop} {K67 : ml_St → Int → Prop} (X : ml_X p s m c meth args D cA cX11_back 4 RX11 (some .int)) (hn : 214 ≤ n) (hK67 : ∀ (σ : ml_St) (x2 : Int) (h_x2 : I32 x2) (ls : Array Slot), lv_has ls 4 [(0, .ref (base + (1 : Int).toNat)), (2, .int (Int32.ofInt x2))] → K67 σ x2 → ml_V p l e rm_X11_back s m args below meth c (MQ below (ml_Qi I32 base D cA n Q) args s 0 0 (ml_A base)) base D cA 0 0 n n σ (F0 m 67 ls [])) : ∀ (N : Nat) (σ : ml_St) (x1 : Int) (x2 : Int) (x3 : Int) (h_x1 : I32 x1) (h_x2 : I32 x2) (h_x3 : I32 x3) (ls : Array Slot), lv_has ls 4 [(0, .ref (base + (1 : Int).toNat)), (1, .int (Int32.ofInt x1)), (2, .int (Int32.ofInt x2)), (3, .int (Int32.ofInt x3))] → f_X11_back_u30 Q K67 N σ x1 x2 x3 → ml_V p l e rm_X11_back s m args below meth c (MQ below (ml_Qi I32 base D cA n Q) args s 0 0 (ml_A base)) base D cA 0 0 n n σ (F0 m 30 ls []) := by
  intro N
  induction N with
  | zero => intro σ x1 x2 x3 h_x1 h_x2 h_x3 ls hl hw; exact False.elim hw
  | succ N ih =>
    intro σ x1 x2 x3 h_x1 h_x2 h_x3 ls hl hw
    unfold f_X11_back_u30 at hw
    refine ml_iload_n (pc := 30) X hl 3 rfl rfl dX11_back_30 ?_
    refine ml_aload_n (pc := 31) X hl 0 rfl rfl dX11_back_31 ?_
    refine gf_X11_86 (pc := 32) X (ml_c1 hn) dX11_back_32 (fun r1 => ?_)
    have hw := hw r1
    refine ml_icmp_ge (pc := 35) (tgt := 67) X h_x3 r1 dX11_back_35 (by decide) (fun c2 => ?_) (fun c2 => ?_)
    · have hw := hw.1 c2
      exact hK67 σ x2 h_x2 _ (lv_sub hl [0, 2] rfl) hw
    · have hw := hw.2 c2
      refine ml_aload_n (pc := 38) X hl 0 rfl rfl dX11_back_38 ?_
      refine ml_iload_n (pc := 39) X hl 3 rfl rfl dX11_back_39 ?_
      refine ml_callzV (pc := 40) (rest := []) X [.int (Int32.ofInt x3)] (by decide) rfl (ml_c1 hn) (c_X11_isMade l base D cA n hn σ x3 h_x3 _ hw) cv_X11_121 ⟨rfl, rfl⟩ ⟨by decide, by decide⟩ rfl rfl hl (Nat.le_of_ble_eq_true rfl) ⟨Nat.zero_le _, Nat.zero_le _⟩ dX11_back_40 (fun r3 σ3 t3 hw => ?_)
      have hw := hw t3
      refine ml_if_eq (pc := 43) (tgt := 61) X t3.i dX11_back_43 (by decide) (fun c4 => ?_) (fun c4 => ?_)
      · have hw := hw.1 c4
        exact u_X11_back_61 X hn ih σ3 x1 x2 x3 h_x1 h_x2 h_x3 _ (lv_sub hl [0, 1, 2, 3] rfl) hw
      · have hw := hw.2 c4
        refine ml_aload_n (pc := 46) X hl 0 rfl rfl dX11_back_46 ?_
        refine ml_iload_n (pc := 47) X hl 3 rfl rfl dX11_back_47 ?_
        refine ml_iload_n (pc := 48) X hl 1 rfl rfl dX11_back_48 ?_
        refine ml_callzV (pc := 49) (rest := []) X [.int (Int32.ofInt x3), .int (Int32.ofInt x1)] (by decide) rfl (ml_c1 hn) (c_X11_leavesAsTold l base D cA n hn σ3 x3 x1 h_x3 h_x1 _ hw) cv_X11_258 ⟨rfl, rfl⟩ ⟨by decide, by decide⟩ rfl rfl hl (Nat.le_of_ble_eq_true rfl) ⟨Nat.zero_le _, Nat.zero_le _⟩ dX11_back_49 (fun r5 σ5 t5 hw => ?_)
        have hw := hw t5
        refine ml_if_eq (pc := 52) (tgt := 61) X t5.i dX11_back_52 (by decide) (fun c6 => ?_) (fun c6 => ?_)
        · have hw := hw.1 c6
          exact u_X11_back_61 X hn ih σ5 x1 x2 x3 h_x1 h_x2 h_x3 _ (lv_sub hl [0, 1, 2, 3] rfl) hw
        · have hw := hw.2 c6
          refine ml_iload_n (pc := 55) X hl 2 rfl rfl dX11_back_55 ?_
          refine ml_iconst (pc := 56) X dX11_back_56 ?_
          refine ml_iload_n (pc := 57) X hl 3 rfl rfl dX11_back_57 ?_
          refine ml_ishl (pc := 58) X dX11_back_58 ?_
          refine ml_ior (pc := 59) X dX11_back_59 ?_
          refine ml_topI (pc := 60) (fun y7 e7 => ?_)
          have hw := hw y7 e7
          have q7 : I32 y7 := by rw [e7]; exact (b_or_r _ _)
          refine ml_istore_n (pc := 60) X rfl hl (by decide) (lst' := [(2, .int (Int32.ofInt y7)), (0, .ref (base + (1 : Int).toNat)), (1, .int (Int32.ofInt x1)), (3, .int (Int32.ofInt x3))]) rfl dX11_back_60 (fun ls hl => ?_)
          exact u_X11_back_61 X hn ih σ5 x1 y7 x3 h_x1 q7 h_x3 _ (lv_sub hl [1, 2, 0, 3] rfl) hw
set_option maxRecDepth 100000 in
set_option maxHeartbeats 4000000 in
theorem u_X11_back_67 {p : Program} {e : Env} {s : State} {m : MethodId} {args : Array Value} {below : List Frame} {meth : Method} {c : Code} {base : Nat} {D : va_G} {cA : Nat → ClassId} {n : Nat} {l : Launch} {Q : Int → ml_St → Prop} (X : ml_X p s m c meth args D cA cX11_back 4 RX11 (some .int)) (hn : 214 ≤ n) (σ : ml_St) (x2 : Int) (h_x2 : I32 x2) (ls : Array Slot) (hl : lv_has ls 4 [(0, .ref (base + (1 : Int).toNat)), (2, .int (Int32.ofInt x2))]) (hw : f_X11_back_u67 Q σ x2) : ml_V p l e rm_X11_back s m args below meth c (MQ below (ml_Qi I32 base D cA n Q) args s 0 0 (ml_A base)) base D cA 0 0 n n σ (F0 m 67 ls []) := by
  unfold f_X11_back_u67 at hw
  refine ml_aload_n (pc := 67) X hl 0 rfl rfl dX11_back_67 ?_
  refine gf_X11_10 (pc := 68) X (ml_c1 hn) dX11_back_68 ?_
  refine ml_iconst (pc := 71) X dX11_back_71 ?_
  refine pf_X11_94 (pc := 72) X (ml_c2 hn) ⟨by decide, by decide⟩ dX11_back_72 (fun σ1 g1 => ?_)
  have hw := hw σ1 g1
  refine ml_iload_n (pc := 75) X hl 1 rfl rfl dX11_back_75 ?_
  exact ml_iret (pc := 76) X h_x2 hw dX11_back_76
set_option maxRecDepth 100000 in
set_option maxHeartbeats 4000000 in
theorem u_X11_back_0 {p : Program} {e : Env} {s : State} {m : MethodId} {args : Array Value} {below : List Frame} {meth : Method} {c : Code} {base : Nat} {D : va_G} {cA : Nat → ClassId} {n : Nat} {l : Launch} {Q : Int → ml_St → Prop} (X : ml_X p s m c meth args D cA cX11_back 4 RX11 (some .int)) (hn : 214 ≤ n) (σ : ml_St) (x1 : Int) (h_x1 : I32 x1) (ls : Array Slot) (hl : lv_has ls 4 [(0, .ref (base + (1 : Int).toNat)), (1, .int (Int32.ofInt x1))]) (hw : f_X11_back_u0 Q σ x1) : ml_V p l e rm_X11_back s m args below meth c (MQ below (ml_Qi I32 base D cA n Q) args s 0 0 (ml_A base)) base D cA 0 0 n n σ (F0 m 0 ls []) := by
  unfold f_X11_back_u0 at hw
  refine ml_iload_n (pc := 0) X hl 1 rfl rfl dX11_back_0 ?_
  refine ml_iconst (pc := 1) X dX11_back_1 ?_
  refine ml_icmp_lt (pc := 2) (tgt := 24) X h_x1 ⟨by decide, by decide⟩ dX11_back_2 (by decide) (fun c1 => ?_) (fun c1 => ?_)
  · have hw := hw.1 c1
    exact u_X11_back_24 X hn σ   _ (lv_sub hl [] rfl) hw
  · have hw := hw.2 c1
    refine ml_iload_n (pc := 5) X hl 1 rfl rfl dX11_back_5 ?_
    refine ml_bipush (pc := 6) X dX11_back_6 (by decide) ?_
    refine ml_icmp_gt (pc := 8) (tgt := 24) X h_x1 ⟨by decide, by decide⟩ dX11_back_8 (by decide) (fun c2 => ?_) (fun c2 => ?_)
    · have hw := hw.1 c2
      exact u_X11_back_24 X hn σ   _ (lv_sub hl [] rfl) hw
    · have hw := hw.2 c2
      refine ml_aload_n (pc := 11) X hl 0 rfl rfl dX11_back_11 ?_
      refine gf_X11_10 (pc := 12) X (ml_c1 hn) dX11_back_12 ?_
      refine gf_X11_94 (pc := 15) X (ml_c2 hn) dX11_back_15 (fun r3 => ?_)
      have hw := hw r3
      refine ml_iconst (pc := 18) X dX11_back_18 ?_
      refine ml_iload_n (pc := 19) X hl 1 rfl rfl dX11_back_19 ?_
      obtain ⟨v4, hw⟩ := hw
      refine ml_imul (pc := 20) X dX11_back_20 ?_
      refine ml_icmp_ge (pc := 21) (tgt := 26) X r3 v4 dX11_back_21 (by decide) (fun c5 => ?_) (fun c5 => ?_)
      · have hw := hw.1 c5
        refine ml_iconst (pc := 26) X dX11_back_26 ?_
        refine ml_istore_n (pc := 27) X rfl hl (by decide) (lst' := [(2, .int (Int32.ofInt 0)), (0, .ref (base + (1 : Int).toNat)), (1, .int (Int32.ofInt x1))]) rfl dX11_back_27 (fun ls hl => ?_)
        refine ml_iconst (pc := 28) X dX11_back_28 ?_
        refine ml_istore_n (pc := 29) X rfl hl (by decide) (lst' := [(3, .int (Int32.ofInt 0)), (2, .int (Int32.ofInt 0)), (0, .ref (base + (1 : Int).toNat)), (1, .int (Int32.ofInt x1))]) rfl dX11_back_29 (fun ls hl => ?_)
        obtain ⟨N0, hw⟩ := hw
        exact u_X11_back_30 X hn (fun σ x2 h_x2 ls hl hw => u_X11_back_67 X hn σ x2 h_x2 ls hl hw) N0 σ x1 0 0 h_x1 ⟨by decide, by decide⟩ ⟨by decide, by decide⟩ _ (lv_sub hl [2, 3, 1, 0] rfl) hw
      · have hw := hw.2 c5
        exact u_X11_back_24 X hn σ   _ (lv_sub hl [] rfl) hw
set_option maxRecDepth 100000 in
theorem c_X11_back (l : Launch) (base : Nat) (D : va_G) (cA : Nat → ClassId) (n : Nat) (hn : 214 ≤ n) (σ : ml_St) (x1 : Int) (h_x1 : I32 x1) (Q : Int → ml_St → Prop) (hw : f_X11_back σ x1 Q) : Met l yX11_back (Cond.code yX11_back cX11_back 4 (some .int) :: ml_T) rm_X11_back (va_Pc [.ref (base + (1 : Int).toNat), .int (Int32.ofInt x1)] (ml_U base D cA n σ)) (ml_Qi I32 base D cA n Q) 0 0 (ml_A base) := by
  refine Met.ofW (cc := cX11_back) (maxL := 4) (ret := (some .int)) (by decide) rfl ?_
  intro p e s m args below meth c s₁ B hml hv
  obtain ⟨rfl, hP, hK, hok, hro⟩ := hv
  have X : ml_X p s m c meth _ D cA cX11_back 4 RX11 (some .int) := ⟨B.exec, B.bytes, hml, findClass_of_methodNamed B.named, fun w hw => atoms_spec (ws := Cond.code yX11_back cX11_back 4 (some .int) :: ml_T) B.pre w (List.mem_cons_of_mem _ hw), hK, B.notSynchronized, B.returns⟩
  have hl := lv_entry [.ref (base + (1 : Int).toNat), .int (Int32.ofInt x1)] (n := 4) (Nat.le_of_ble_eq_true rfl)
  rw [lg_entry_eq]
  generalize (lg_sl [.ref (base + (1 : Int).toNat), .int (Int32.ofInt x1)] ++ List.replicate (4 - (lg_sl [.ref (base + (1 : Int).toNat), .int (Int32.ofInt x1)]).length) Slot.unset).toArray = ls at hl ⊢
  have hl : lv_has ls 4 [(0, .ref (base + (1 : Int).toNat)), (1, .int (Int32.ofInt x1))] := hl
  unfold f_X11_back at hw
  exact u_X11_back_0 X hn σ x1 h_x1 _ (lv_sub hl [0, 1] rfl) hw s.heap [] hP va_S.rf hok hro
theorem dX10_follow_0 : decode cX10_follow 0 = .ok (.iload_n 1, 1) := by decide +kernel
theorem dX10_follow_1 : decode cX10_follow 1 = .ok (.iload_n 3, 1) := by decide +kernel
theorem dX10_follow_2 : decode cX10_follow 2 = .ok (.if_icmp .ge 7, 3) := by decide +kernel
theorem dX10_follow_5 : decode cX10_follow 5 = .ok (.iconst 1, 1) := by decide +kernel
theorem dX10_follow_6 : decode cX10_follow 6 = .ok (.goto 4, 3) := by decide +kernel
theorem dX10_follow_9 : decode cX10_follow 9 = .ok (.iconst 0, 1) := by decide +kernel
theorem dX10_follow_10 : decode cX10_follow 10 = .ok (.istore 4, 2) := by decide +kernel
theorem dX10_follow_12 : decode cX10_follow 12 = .ok (.iload 4, 2) := by decide +kernel
theorem dX10_follow_14 : decode cX10_follow 14 = .ok (.ifCond .eq 7, 3) := by decide +kernel
theorem dX10_follow_17 : decode cX10_follow 17 = .ok (.iload_n 1, 1) := by decide +kernel
theorem dX10_follow_18 : decode cX10_follow 18 = .ok (.goto 6, 3) := by decide +kernel
theorem dX10_follow_21 : decode cX10_follow 21 = .ok (.iload_n 1, 1) := by decide +kernel
theorem dX10_follow_22 : decode cX10_follow 22 = .ok (.iload_n 3, 1) := by decide +kernel
theorem dX10_follow_23 : decode cX10_follow 23 = .ok (.isub, 1) := by decide +kernel
theorem dX10_follow_24 : decode cX10_follow 24 = .ok (.istore 5, 2) := by decide +kernel
theorem dX10_follow_26 : decode cX10_follow 26 = .ok (.iload 4, 2) := by decide +kernel
theorem dX10_follow_28 : decode cX10_follow 28 = .ok (.ifCond .eq 7, 3) := by decide +kernel
theorem dX10_follow_31 : decode cX10_follow 31 = .ok (.iconst 0, 1) := by decide +kernel
theorem dX10_follow_32 : decode cX10_follow 32 = .ok (.goto 9, 3) := by decide +kernel
theorem dX10_follow_35 : decode cX10_follow 35 = .ok (.aload_n 0, 1) := by decide +kernel
theorem dX10_follow_36 : decode cX10_follow 36 = .ok (.getfield 36, 3) := by decide +kernel
theorem dX10_follow_39 : decode cX10_follow 39 = .ok (.iconst 1, 1) := by decide +kernel
theorem dX10_follow_40 : decode cX10_follow 40 = .ok (.isub, 1) := by decide +kernel
theorem dX10_follow_41 : decode cX10_follow 41 = .ok (.istore 6, 2) := by decide +kernel
theorem dX10_follow_43 : decode cX10_follow 43 = .ok (.iconst 0, 1) := by decide +kernel
theorem dX10_follow_44 : decode cX10_follow 44 = .ok (.istore 7, 2) := by decide +kernel
theorem dX10_follow_46 : decode cX10_follow 46 = .ok (.sipush 20000, 3) := by decide +kernel
theorem dX10_follow_49 : decode cX10_follow 49 = .ok (.istore 8, 2) := by decide +kernel
theorem dX10_follow_51 : decode cX10_follow 51 = .ok (.iconst 0, 1) := by decide +kernel
theorem dX10_follow_52 : decode cX10_follow 52 = .ok (.istore 9, 2) := by decide +kernel
theorem dX10_follow_54 : decode cX10_follow 54 = .ok (.iload 9, 2) := by decide +kernel
theorem dX10_follow_56 : decode cX10_follow 56 = .ok (.iload 8, 2) := by decide +kernel
theorem dX10_follow_58 : decode cX10_follow 58 = .ok (.if_icmp .ge 117, 3) := by decide +kernel
theorem dX10_follow_61 : decode cX10_follow 61 = .ok (.iload 6, 2) := by decide +kernel
theorem dX10_follow_63 : decode cX10_follow 63 = .ok (.ifCond .lt 112, 3) := by decide +kernel
theorem dX10_follow_66 : decode cX10_follow 66 = .ok (.iload 6, 2) := by decide +kernel
theorem dX10_follow_68 : decode cX10_follow 68 = .ok (.aload_n 0, 1) := by decide +kernel
theorem dX10_follow_69 : decode cX10_follow 69 = .ok (.getfield 36, 3) := by decide +kernel
theorem dX10_follow_72 : decode cX10_follow 72 = .ok (.if_icmp .ge 103, 3) := by decide +kernel
theorem dX10_follow_75 : decode cX10_follow 75 = .ok (.aload_n 0, 1) := by decide +kernel
theorem dX10_follow_76 : decode cX10_follow 76 = .ok (.getfield 33, 3) := by decide +kernel
theorem dX10_follow_79 : decode cX10_follow 79 = .ok (.iload 6, 2) := by decide +kernel
theorem dX10_follow_81 : decode cX10_follow 81 = .ok (.baload, 1) := by decide +kernel
theorem dX10_follow_82 : decode cX10_follow 82 = .ok (.iconst 2, 1) := by decide +kernel
theorem dX10_follow_83 : decode cX10_follow 83 = .ok (.idiv, 1) := by decide +kernel
theorem dX10_follow_84 : decode cX10_follow 84 = .ok (.istore 10, 2) := by decide +kernel
theorem dX10_follow_86 : decode cX10_follow 86 = .ok (.iload 5, 2) := by decide +kernel
theorem dX10_follow_88 : decode cX10_follow 88 = .ok (.iload 10, 2) := by decide +kernel
theorem dX10_follow_90 : decode cX10_follow 90 = .ok (.if_icmp .eq 12, 3) := by decide +kernel
theorem dX10_follow_93 : decode cX10_follow 93 = .ok (.iload 5, 2) := by decide +kernel
theorem dX10_follow_95 : decode cX10_follow 95 = .ok (.iload 10, 2) := by decide +kernel
theorem dX10_follow_97 : decode cX10_follow 97 = .ok (.iconst 1, 1) := by decide +kernel
theorem dX10_follow_98 : decode cX10_follow 98 = .ok (.iadd, 1) := by decide +kernel
theorem dX10_follow_99 : decode cX10_follow 99 = .ok (.if_icmp .ne 55, 3) := by decide +kernel
theorem dX10_follow_102 : decode cX10_follow 102 = .ok (.iload 7, 2) := by decide +kernel
theorem dX10_follow_104 : decode cX10_follow 104 = .ok (.iload_n 2, 1) := by decide +kernel
theorem dX10_follow_105 : decode cX10_follow 105 = .ok (.if_icmp .ne 6, 3) := by decide +kernel
theorem dX10_follow_108 : decode cX10_follow 108 = .ok (.iload 6, 2) := by decide +kernel
theorem dX10_follow_110 : decode cX10_follow 110 = .ok (.ireturn, 1) := by decide +kernel
theorem dX10_follow_111 : decode cX10_follow 111 = .ok (.iinc 7 1, 3) := by decide +kernel
theorem dX10_follow_114 : decode cX10_follow 114 = .ok (.iconst 2, 1) := by decide +kernel
theorem dX10_follow_115 : decode cX10_follow 115 = .ok (.iload 10, 2) := by decide +kernel
theorem dX10_follow_117 : decode cX10_follow 117 = .ok (.imul, 1) := by decide +kernel
theorem dX10_follow_118 : decode cX10_follow 118 = .ok (.iconst 1, 1) := by decide +kernel
theorem dX10_follow_119 : decode cX10_follow 119 = .ok (.iadd, 1) := by decide +kernel
theorem dX10_follow_120 : decode cX10_follow 120 = .ok (.iload 5, 2) := by decide +kernel
theorem dX10_follow_122 : decode cX10_follow 122 = .ok (.isub, 1) := by decide +kernel
theorem dX10_follow_123 : decode cX10_follow 123 = .ok (.istore 5, 2) := by decide +kernel
theorem dX10_follow_125 : decode cX10_follow 125 = .ok (.iload 4, 2) := by decide +kernel
theorem dX10_follow_127 : decode cX10_follow 127 = .ok (.aload_n 0, 1) := by decide +kernel
theorem dX10_follow_128 : decode cX10_follow 128 = .ok (.getfield 33, 3) := by decide +kernel
theorem dX10_follow_131 : decode cX10_follow 131 = .ok (.iload 6, 2) := by decide +kernel
theorem dX10_follow_133 : decode cX10_follow 133 = .ok (.baload, 1) := by decide +kernel
theorem dX10_follow_134 : decode cX10_follow 134 = .ok (.iconst 2, 1) := by decide +kernel
theorem dX10_follow_135 : decode cX10_follow 135 = .ok (.irem, 1) := by decide +kernel
theorem dX10_follow_136 : decode cX10_follow 136 = .ok (.ifCond .ne 7, 3) := by decide +kernel
theorem dX10_follow_139 : decode cX10_follow 139 = .ok (.iconst 1, 1) := by decide +kernel
theorem dX10_follow_140 : decode cX10_follow 140 = .ok (.goto 4, 3) := by decide +kernel
theorem dX10_follow_143 : decode cX10_follow 143 = .ok (.iconst 0, 1) := by decide +kernel
theorem dX10_follow_144 : decode cX10_follow 144 = .ok (.if_icmp .ne 7, 3) := by decide +kernel
theorem dX10_follow_147 : decode cX10_follow 147 = .ok (.iconst 1, 1) := by decide +kernel
theorem dX10_follow_148 : decode cX10_follow 148 = .ok (.goto 4, 3) := by decide +kernel
theorem dX10_follow_151 : decode cX10_follow 151 = .ok (.iconst 0, 1) := by decide +kernel
theorem dX10_follow_152 : decode cX10_follow 152 = .ok (.istore 4, 2) := by decide +kernel
theorem dX10_follow_154 : decode cX10_follow 154 = .ok (.iload 6, 2) := by decide +kernel
theorem dX10_follow_156 : decode cX10_follow 156 = .ok (.iload 4, 2) := by decide +kernel
theorem dX10_follow_158 : decode cX10_follow 158 = .ok (.ifCond .eq 7, 3) := by decide +kernel
theorem dX10_follow_161 : decode cX10_follow 161 = .ok (.iconst 1, 1) := by decide +kernel
theorem dX10_follow_162 : decode cX10_follow 162 = .ok (.goto 4, 3) := by decide +kernel
theorem dX10_follow_165 : decode cX10_follow 165 = .ok (.iconst (-1), 1) := by decide +kernel
theorem dX10_follow_166 : decode cX10_follow 166 = .ok (.iadd, 1) := by decide +kernel
theorem dX10_follow_167 : decode cX10_follow 167 = .ok (.istore 6, 2) := by decide +kernel
theorem dX10_follow_169 : decode cX10_follow 169 = .ok (.iinc 9 1, 3) := by decide +kernel
theorem dX10_follow_172 : decode cX10_follow 172 = .ok (.goto (-118), 3) := by decide +kernel
theorem dX10_follow_175 : decode cX10_follow 175 = .ok (.iload_n 2, 1) := by decide +kernel
theorem dX10_follow_176 : decode cX10_follow 176 = .ok (.iconst (-1), 1) := by decide +kernel
theorem dX10_follow_177 : decode cX10_follow 177 = .ok (.if_icmp .eq 5, 3) := by decide +kernel
theorem dX10_follow_180 : decode cX10_follow 180 = .ok (.iconst (-1), 1) := by decide +kernel
theorem dX10_follow_181 : decode cX10_follow 181 = .ok (.ireturn, 1) := by decide +kernel
theorem dX10_follow_182 : decode cX10_follow 182 = .ok (.iload 4, 2) := by decide +kernel
theorem dX10_follow_184 : decode cX10_follow 184 = .ok (.ifCond .eq 10, 3) := by decide +kernel
theorem dX10_follow_187 : decode cX10_follow 187 = .ok (.iload 5, 2) := by decide +kernel
theorem dX10_follow_189 : decode cX10_follow 189 = .ok (.iload_n 3, 1) := by decide +kernel
theorem dX10_follow_190 : decode cX10_follow 190 = .ok (.iadd, 1) := by decide +kernel
theorem dX10_follow_191 : decode cX10_follow 191 = .ok (.goto 5, 3) := by decide +kernel
theorem dX10_follow_194 : decode cX10_follow 194 = .ok (.iload 5, 2) := by decide +kernel
theorem dX10_follow_196 : decode cX10_follow 196 = .ok (.ireturn, 1) := by decide +kernel
def f_X10_follow_u166 (Q : Int → ml_St → Prop) (K54 : ml_St → Int → Int → Int → Int → Int → Int → Int → Int → Prop) (th : Int) (σ : ml_St) (x2 : Int) (x3 : Int) (x4 : Int) (x5 : Int) (x7 : Int) (x8 : Int) (x9 : Int) (s0 : Int) (s1 : Int) : Prop :=
I32 (s0 + s1) ∧
∀ y2 : Int, y2 = s0 + s1 →
I32 (x9 + 1) ∧
∀ y3 : Int, y3 = x9 + 1 →
K54 σ x2 x3 x4 x5 y2 x7 x8 y3
def f_X10_follow_u154 (Q : Int → ml_St → Prop) (K54 : ml_St → Int → Int → Int → Int → Int → Int → Int → Int → Prop) (th : Int) (σ : ml_St) (x2 : Int) (x3 : Int) (x4 : Int) (x5 : Int) (x6 : Int) (x7 : Int) (x8 : Int) (x9 : Int) : Prop :=
(x4 = 0 →
f_X10_follow_u166 Q K54 th σ x2 x3 x4 x5 x7 x8 x9 x6 (-1)) ∧
(x4 ≠ 0 →
f_X10_follow_u166 Q K54 th σ x2 x3 x4 x5 x7 x8 x9 x6 1)
def f_X10_follow_u152 (Q : Int → ml_St → Prop) (K54 : ml_St → Int → Int → Int → Int → Int → Int → Int → Int → Prop) (th : Int) (σ : ml_St) (x2 : Int) (x3 : Int) (x5 : Int) (x6 : Int) (x7 : Int) (x8 : Int) (x9 : Int) (s0 : Int) : Prop :=
f_X10_follow_u154 Q K54 th σ x2 x3 s0 x5 x6 x7 x8 x9
def f_X10_follow_u144 (Q : Int → ml_St → Prop) (K54 : ml_St → Int → Int → Int → Int → Int → Int → Int → Int → Prop) (th : Int) (σ : ml_St) (x2 : Int) (x3 : Int) (x5 : Int) (x6 : Int) (x7 : Int) (x8 : Int) (x9 : Int) (s0 : Int) (s1 : Int) : Prop :=
(s0 ≠ s1 →
f_X10_follow_u152 Q K54 th σ x2 x3 x5 x6 x7 x8 x9 0) ∧
(s0 = s1 →
f_X10_follow_u152 Q K54 th σ x2 x3 x5 x6 x7 x8 x9 1)
def f_X10_follow_u102 (Q : Int → ml_St → Prop) (K54 : ml_St → Int → Int → Int → Int → Int → Int → Int → Int → Prop) (K108 : ml_St → Int → Prop) (th : Int) (σ : ml_St) (x2 : Int) (x3 : Int) (x4 : Int) (x5 : Int) (x6 : Int) (x7 : Int) (x8 : Int) (x9 : Int) (x10 : Int) : Prop :=
(x7 ≠ x2 →
I32 (x7 + 1) ∧
∀ y2 : Int, y2 = x7 + 1 →
I32 (2 * x10) ∧
I32 ((2 * x10) + 1) ∧
I32 (((2 * x10) + 1) - x5) ∧
∀ y6 : Int, y6 = ((2 * x10) + 1) - x5 →
(0 : Int) ≤ x6 ∧ (x6 : Int) < 2000 ∧
∀ _ : ml_I8 (σ (th + 5) x6),
(2 : Int) ≠ 0 ∧ I32 (Int.tmod (σ (th + 5) x6) 2) ∧
(((Int.tmod (σ (th + 5) x6) 2) : Int) ≠ 0 →
f_X10_follow_u144 Q K54 th σ x2 x3 y6 x6 y2 x8 x9 x4 0) ∧
((Int.tmod (σ (th + 5) x6) 2) = 0 →
f_X10_follow_u144 Q K54 th σ x2 x3 y6 x6 y2 x8 x9 x4 1)) ∧
(x7 = x2 →
K108 σ x6)
def f_X10_follow_u54 (Q : Int → ml_St → Prop) (K108 : ml_St → Int → Prop) (K175 : ml_St → Int → Int → Int → Int → Prop) (th : Int) : Nat → ml_St → Int → Int → Int → Int → Int → Int → Int → Int → Prop
| 0, _, _, _, _, _, _, _, _, _ => False
| N + 1, σ, x2, x3, x4, x5, x6, x7, x8, x9 =>
(x8 ≤ x9 →
K175 σ x2 x3 x4 x5) ∧
(¬ (x8 ≤ x9) →
(x6 < 0 →
K175 σ x2 x3 x4 x5) ∧
(¬ (x6 < 0) →
∀ _ : I32 (σ th 6),
((σ th 6) ≤ x6 →
K175 σ x2 x3 x4 x5) ∧
(¬ ((σ th 6) ≤ x6) →
(0 : Int) ≤ x6 ∧ (x6 : Int) < 2000 ∧
∀ _ : ml_I8 (σ (th + 5) x6),
(2 : Int) ≠ 0 ∧ I32 (Int.tdiv (σ (th + 5) x6) 2) ∧
∀ y7 : Int, y7 = Int.tdiv (σ (th + 5) x6) 2 →
(x5 = y7 →
f_X10_follow_u102 Q (f_X10_follow_u54 Q K108 K175 th N) K108 th σ x2 x3 x4 x5 x6 x7 x8 x9 y7) ∧
(x5 ≠ y7 →
I32 (y7 + 1) ∧
(x5 ≠ (y7 + 1) →
f_X10_follow_u154 Q (f_X10_follow_u54 Q K108 K175 th N) th σ x2 x3 x4 x5 x6 x7 x8 x9) ∧
(x5 = (y7 + 1) →
f_X10_follow_u102 Q (f_X10_follow_u54 Q K108 K175 th N) K108 th σ x2 x3 x4 x5 x6 x7 x8 x9 y7)))))
def f_X10_follow_u108 (Q : Int → ml_St → Prop) (th : Int) (σ : ml_St) (x6 : Int) : Prop :=
Q x6 σ
def f_X10_follow_u196 (Q : Int → ml_St → Prop) (th : Int) (σ : ml_St) (s0 : Int) : Prop :=
Q s0 σ
def f_X10_follow_u175 (Q : Int → ml_St → Prop) (th : Int) (σ : ml_St) (x2 : Int) (x3 : Int) (x4 : Int) (x5 : Int) : Prop :=
(x2 = (-1) →
(x4 = 0 →
f_X10_follow_u196 Q th σ x5) ∧
(x4 ≠ 0 →
I32 (x5 + x3) ∧
f_X10_follow_u196 Q th σ (x5 + x3))) ∧
(x2 ≠ (-1) →
Q (-1) σ)
def f_X10_follow_u41 (Q : Int → ml_St → Prop) (th : Int) (σ : ml_St) (x2 : Int) (x3 : Int) (x4 : Int) (x5 : Int) (s0 : Int) : Prop :=
∃ N1, f_X10_follow_u54 Q (f_X10_follow_u108 Q th) (f_X10_follow_u175 Q th) th N1 σ x2 x3 x4 x5 s0 0 20000 0
def f_X10_follow_u24 (Q : Int → ml_St → Prop) (th : Int) (σ : ml_St) (x2 : Int) (x3 : Int) (x4 : Int) (s0 : Int) : Prop :=
(x4 = 0 →
∀ _ : I32 (σ th 6),
I32 ((σ th 6) - 1) ∧
f_X10_follow_u41 Q th σ x2 x3 x4 s0 ((σ th 6) - 1)) ∧
(x4 ≠ 0 →
f_X10_follow_u41 Q th σ x2 x3 x4 s0 0)
def f_X10_follow_u10 (Q : Int → ml_St → Prop) (th : Int) (σ : ml_St) (x1 : Int) (x2 : Int) (x3 : Int) (s0 : Int) : Prop :=
(s0 = 0 →
I32 (x1 - x3) ∧
f_X10_follow_u24 Q th σ x2 x3 s0 (x1 - x3)) ∧
(s0 ≠ 0 →
f_X10_follow_u24 Q th σ x2 x3 s0 x1)
def f_X10_follow_u0 (Q : Int → ml_St → Prop) (th : Int) (σ : ml_St) (x1 : Int) (x2 : Int) (x3 : Int) : Prop :=
(x3 ≤ x1 →
f_X10_follow_u10 Q th σ x1 x2 x3 0) ∧
(¬ (x3 ≤ x1) →
f_X10_follow_u10 Q th σ x1 x2 x3 1)
def f_X10_follow (σ : ml_St) (th : Int) (x1 : Int) (x2 : Int) (x3 : Int) (Q : Int → ml_St → Prop) : Prop := f_X10_follow_u0 Q th σ x1 x2 x3
def rm_X10_follow : Room := { frames := 0, cells := 0, slots := 0, locals := 0 }
set_option maxRecDepth 100000 in
set_option maxHeartbeats 4000000 in
theorem u_X10_follow_166 {p : Program} {e : Env} {s : State} {m : MethodId} {args : Array Value} {below : List Frame} {meth : Method} {c : Code} {base : Nat} {D : va_G} {cA : Nat → ClassId} {n : Nat} {l : Launch} {th : Int} {Q : Int → ml_St → Prop} {K54 : ml_St → Int → Int → Int → Int → Int → Int → Int → Int → Prop} (X : ml_X p s m c meth args D cA cX10_follow 11 RX10 (some .int)) (hn : 214 ≤ n) (hp_th : ml_at n th (20, 8)) (hK54 : ∀ (σ : ml_St) (x2 : Int) (x3 : Int) (x4 : Int) (x5 : Int) (x6 : Int) (x7 : Int) (x8 : Int) (x9 : Int) (h_x2 : I32 x2) (h_x3 : I32 x3) (h_x4 : ml_B x4) (h_x5 : I32 x5) (h_x6 : I32 x6) (h_x7 : I32 x7) (h_x8 : I32 x8) (h_x9 : I32 x9) (ls : Array Slot), lv_has ls 11 [(0, .ref (base + (th : Int).toNat)), (2, .int (Int32.ofInt x2)), (3, .int (Int32.ofInt x3)), (4, .int (Int32.ofInt x4)), (5, .int (Int32.ofInt x5)), (6, .int (Int32.ofInt x6)), (7, .int (Int32.ofInt x7)), (8, .int (Int32.ofInt x8)), (9, .int (Int32.ofInt x9))] → K54 σ x2 x3 x4 x5 x6 x7 x8 x9 → ml_V p l e rm_X10_follow s m args below meth c (MQ below (ml_Qi I32 base D cA n Q) args s 0 0 (ml_A base)) base D cA 0 0 n n σ (F0 m 54 ls [])) (σ : ml_St) (x2 : Int) (x3 : Int) (x4 : Int) (x5 : Int) (x7 : Int) (x8 : Int) (x9 : Int) (s0 : Int) (s1 : Int) (h_x2 : I32 x2) (h_x3 : I32 x3) (h_x4 : ml_B x4) (h_x5 : I32 x5) (h_x7 : I32 x7) (h_x8 : I32 x8) (h_x9 : I32 x9) (h_s0 : I32 s0) (h_s1 : I32 s1) (ls : Array Slot) (hl : lv_has ls 11 [(0, .ref (base + (th : Int).toNat)), (2, .int (Int32.ofInt x2)), (3, .int (Int32.ofInt x3)), (4, .int (Int32.ofInt x4)), (5, .int (Int32.ofInt x5)), (7, .int (Int32.ofInt x7)), (8, .int (Int32.ofInt x8)), (9, .int (Int32.ofInt x9))]) (hw : f_X10_follow_u166 Q K54 th σ x2 x3 x4 x5 x7 x8 x9 s0 s1) : ml_V p l e rm_X10_follow s m args below meth c (MQ below (ml_Qi I32 base D cA n Q) args s 0 0 (ml_A base)) base D cA 0 0 n n σ (F0 m 166 ls [.int (Int32.ofInt s1), .int (Int32.ofInt s0)]) := by
  unfold f_X10_follow_u166 at hw
  obtain ⟨v1, hw⟩ := hw
  refine ml_iadd (pc := 166) X dX10_follow_166 ?_
  refine ml_topI (pc := 167) (fun y2 e2 => ?_)
  have hw := hw y2 e2
  have q2 : I32 y2 := by rw [e2]; exact v1
  refine ml_istore (pc := 167) X hl (by decide) (lst' := [(6, .int (Int32.ofInt y2)), (0, .ref (base + (th : Int).toNat)), (2, .int (Int32.ofInt x2)), (3, .int (Int32.ofInt x3)), (4, .int (Int32.ofInt x4)), (5, .int (Int32.ofInt x5)), (7, .int (Int32.ofInt x7)), (8, .int (Int32.ofInt x8)), (9, .int (Int32.ofInt x9))]) rfl dX10_follow_167 (fun ls hl => ?_)
  obtain ⟨v3, hw⟩ := hw
  obtain ⟨y3, e3⟩ : ∃ y : Int, y = x9 + 1 := ⟨_, rfl⟩
  have hw := hw y3 e3
  rw [← e3] at v3
  refine ml_iinc (pc := 169) X e3 hl 8 rfl (by decide) (lst' := [(9, .int (Int32.ofInt y3)), (6, .int (Int32.ofInt y2)), (0, .ref (base + (th : Int).toNat)), (2, .int (Int32.ofInt x2)), (3, .int (Int32.ofInt x3)), (4, .int (Int32.ofInt x4)), (5, .int (Int32.ofInt x5)), (7, .int (Int32.ofInt x7)), (8, .int (Int32.ofInt x8))]) rfl dX10_follow_169 (fun ls hl => ?_)
  refine ml_goto (pc := 172) (tgt := 54) X dX10_follow_172 (by decide) ?_
  exact hK54 σ x2 x3 x4 x5 y2 x7 x8 y3 h_x2 h_x3 h_x4 h_x5 q2 h_x7 h_x8 v3 _ (lv_sub hl [2, 3, 4, 5, 6, 1, 7, 8, 0] rfl) hw
set_option maxRecDepth 100000 in
set_option maxHeartbeats 4000000 in
theorem u_X10_follow_154 {p : Program} {e : Env} {s : State} {m : MethodId} {args : Array Value} {below : List Frame} {meth : Method} {c : Code} {base : Nat} {D : va_G} {cA : Nat → ClassId} {n : Nat} {l : Launch} {th : Int} {Q : Int → ml_St → Prop} {K54 : ml_St → Int → Int → Int → Int → Int → Int → Int → Int → Prop} (X : ml_X p s m c meth args D cA cX10_follow 11 RX10 (some .int)) (hn : 214 ≤ n) (hp_th : ml_at n th (20, 8)) (hK54 : ∀ (σ : ml_St) (x2 : Int) (x3 : Int) (x4 : Int) (x5 : Int) (x6 : Int) (x7 : Int) (x8 : Int) (x9 : Int) (h_x2 : I32 x2) (h_x3 : I32 x3) (h_x4 : ml_B x4) (h_x5 : I32 x5) (h_x6 : I32 x6) (h_x7 : I32 x7) (h_x8 : I32 x8) (h_x9 : I32 x9) (ls : Array Slot), lv_has ls 11 [(0, .ref (base + (th : Int).toNat)), (2, .int (Int32.ofInt x2)), (3, .int (Int32.ofInt x3)), (4, .int (Int32.ofInt x4)), (5, .int (Int32.ofInt x5)), (6, .int (Int32.ofInt x6)), (7, .int (Int32.ofInt x7)), (8, .int (Int32.ofInt x8)), (9, .int (Int32.ofInt x9))] → K54 σ x2 x3 x4 x5 x6 x7 x8 x9 → ml_V p l e rm_X10_follow s m args below meth c (MQ below (ml_Qi I32 base D cA n Q) args s 0 0 (ml_A base)) base D cA 0 0 n n σ (F0 m 54 ls [])) (σ : ml_St) (x2 : Int) (x3 : Int) (x4 : Int) (x5 : Int) (x6 : Int) (x7 : Int) (x8 : Int) (x9 : Int) (h_x2 : I32 x2) (h_x3 : I32 x3) (h_x4 : ml_B x4) (h_x5 : I32 x5) (h_x6 : I32 x6) (h_x7 : I32 x7) (h_x8 : I32 x8) (h_x9 : I32 x9) (ls : Array Slot) (hl : lv_has ls 11 [(0, .ref (base + (th : Int).toNat)), (2, .int (Int32.ofInt x2)), (3, .int (Int32.ofInt x3)), (4, .int (Int32.ofInt x4)), (5, .int (Int32.ofInt x5)), (6, .int (Int32.ofInt x6)), (7, .int (Int32.ofInt x7)), (8, .int (Int32.ofInt x8)), (9, .int (Int32.ofInt x9))]) (hw : f_X10_follow_u154 Q K54 th σ x2 x3 x4 x5 x6 x7 x8 x9) : ml_V p l e rm_X10_follow s m args below meth c (MQ below (ml_Qi I32 base D cA n Q) args s 0 0 (ml_A base)) base D cA 0 0 n n σ (F0 m 154 ls []) := by
  unfold f_X10_follow_u154 at hw
  refine ml_iload (pc := 154) X hl 5 rfl dX10_follow_154 ?_
  refine ml_iload (pc := 156) X hl 3 rfl dX10_follow_156 ?_
  refine ml_if_eq (pc := 158) (tgt := 165) X h_x4.i dX10_follow_158 (by decide) (fun c1 => ?_) (fun c1 => ?_)
  · have hw := hw.1 c1
    refine ml_iconst (pc := 165) X dX10_follow_165 ?_
    exact u_X10_follow_166 X hn hp_th hK54 σ x2 x3 x4 x5 x7 x8 x9 x6 (-1) h_x2 h_x3 h_x4 h_x5 h_x7 h_x8 h_x9 h_x6 ⟨by decide, by decide⟩ _ (lv_sub hl [0, 1, 2, 3, 4, 6, 7, 8] rfl) hw
  · have hw := hw.2 c1
    refine ml_iconst (pc := 161) X dX10_follow_161 ?_
    refine ml_goto (pc := 162) (tgt := 166) X dX10_follow_162 (by decide) ?_
    exact u_X10_follow_166 X hn hp_th hK54 σ x2 x3 x4 x5 x7 x8 x9 x6 1 h_x2 h_x3 h_x4 h_x5 h_x7 h_x8 h_x9 h_x6 ⟨by decide, by decide⟩ _ (lv_sub hl [0, 1, 2, 3, 4, 6, 7, 8] rfl) hw
set_option maxRecDepth 100000 in
set_option maxHeartbeats 4000000 in
theorem u_X10_follow_152 {p : Program} {e : Env} {s : State} {m : MethodId} {args : Array Value} {below : List Frame} {meth : Method} {c : Code} {base : Nat} {D : va_G} {cA : Nat → ClassId} {n : Nat} {l : Launch} {th : Int} {Q : Int → ml_St → Prop} {K54 : ml_St → Int → Int → Int → Int → Int → Int → Int → Int → Prop} (X : ml_X p s m c meth args D cA cX10_follow 11 RX10 (some .int)) (hn : 214 ≤ n) (hp_th : ml_at n th (20, 8)) (hK54 : ∀ (σ : ml_St) (x2 : Int) (x3 : Int) (x4 : Int) (x5 : Int) (x6 : Int) (x7 : Int) (x8 : Int) (x9 : Int) (h_x2 : I32 x2) (h_x3 : I32 x3) (h_x4 : ml_B x4) (h_x5 : I32 x5) (h_x6 : I32 x6) (h_x7 : I32 x7) (h_x8 : I32 x8) (h_x9 : I32 x9) (ls : Array Slot), lv_has ls 11 [(0, .ref (base + (th : Int).toNat)), (2, .int (Int32.ofInt x2)), (3, .int (Int32.ofInt x3)), (4, .int (Int32.ofInt x4)), (5, .int (Int32.ofInt x5)), (6, .int (Int32.ofInt x6)), (7, .int (Int32.ofInt x7)), (8, .int (Int32.ofInt x8)), (9, .int (Int32.ofInt x9))] → K54 σ x2 x3 x4 x5 x6 x7 x8 x9 → ml_V p l e rm_X10_follow s m args below meth c (MQ below (ml_Qi I32 base D cA n Q) args s 0 0 (ml_A base)) base D cA 0 0 n n σ (F0 m 54 ls [])) (σ : ml_St) (x2 : Int) (x3 : Int) (x5 : Int) (x6 : Int) (x7 : Int) (x8 : Int) (x9 : Int) (s0 : Int) (h_x2 : I32 x2) (h_x3 : I32 x3) (h_x5 : I32 x5) (h_x6 : I32 x6) (h_x7 : I32 x7) (h_x8 : I32 x8) (h_x9 : I32 x9) (h_s0 : ml_B s0) (ls : Array Slot) (hl : lv_has ls 11 [(0, .ref (base + (th : Int).toNat)), (2, .int (Int32.ofInt x2)), (3, .int (Int32.ofInt x3)), (5, .int (Int32.ofInt x5)), (6, .int (Int32.ofInt x6)), (7, .int (Int32.ofInt x7)), (8, .int (Int32.ofInt x8)), (9, .int (Int32.ofInt x9))]) (hw : f_X10_follow_u152 Q K54 th σ x2 x3 x5 x6 x7 x8 x9 s0) : ml_V p l e rm_X10_follow s m args below meth c (MQ below (ml_Qi I32 base D cA n Q) args s 0 0 (ml_A base)) base D cA 0 0 n n σ (F0 m 152 ls [.int (Int32.ofInt s0)]) := by
  unfold f_X10_follow_u152 at hw
  refine ml_istore (pc := 152) X hl (by decide) (lst' := [(4, .int (Int32.ofInt s0)), (0, .ref (base + (th : Int).toNat)), (2, .int (Int32.ofInt x2)), (3, .int (Int32.ofInt x3)), (5, .int (Int32.ofInt x5)), (6, .int (Int32.ofInt x6)), (7, .int (Int32.ofInt x7)), (8, .int (Int32.ofInt x8)), (9, .int (Int32.ofInt x9))]) rfl dX10_follow_152 (fun ls hl => ?_)
  exact u_X10_follow_154 X hn hp_th hK54 σ x2 x3 s0 x5 x6 x7 x8 x9 h_x2 h_x3 h_s0 h_x5 h_x6 h_x7 h_x8 h_x9 _ (lv_sub hl [1, 2, 3, 0, 4, 5, 6, 7, 8] rfl) hw
set_option maxRecDepth 100000 in
set_option maxHeartbeats 4000000 in
theorem u_X10_follow_144 {p : Program} {e : Env} {s : State} {m : MethodId} {args : Array Value} {below : List Frame} {meth : Method} {c : Code} {base : Nat} {D : va_G} {cA : Nat → ClassId} {n : Nat} {l : Launch} {th : Int} {Q : Int → ml_St → Prop} {K54 : ml_St → Int → Int → Int → Int → Int → Int → Int → Int → Prop} (X : ml_X p s m c meth args D cA cX10_follow 11 RX10 (some .int)) (hn : 214 ≤ n) (hp_th : ml_at n th (20, 8)) (hK54 : ∀ (σ : ml_St) (x2 : Int) (x3 : Int) (x4 : Int) (x5 : Int) (x6 : Int) (x7 : Int) (x8 : Int) (x9 : Int) (h_x2 : I32 x2) (h_x3 : I32 x3) (h_x4 : ml_B x4) (h_x5 : I32 x5) (h_x6 : I32 x6) (h_x7 : I32 x7) (h_x8 : I32 x8) (h_x9 : I32 x9) (ls : Array Slot), lv_has ls 11 [(0, .ref (base + (th : Int).toNat)), (2, .int (Int32.ofInt x2)), (3, .int (Int32.ofInt x3)), (4, .int (Int32.ofInt x4)), (5, .int (Int32.ofInt x5)), (6, .int (Int32.ofInt x6)), (7, .int (Int32.ofInt x7)), (8, .int (Int32.ofInt x8)), (9, .int (Int32.ofInt x9))] → K54 σ x2 x3 x4 x5 x6 x7 x8 x9 → ml_V p l e rm_X10_follow s m args below meth c (MQ below (ml_Qi I32 base D cA n Q) args s 0 0 (ml_A base)) base D cA 0 0 n n σ (F0 m 54 ls [])) (σ : ml_St) (x2 : Int) (x3 : Int) (x5 : Int) (x6 : Int) (x7 : Int) (x8 : Int) (x9 : Int) (s0 : Int) (s1 : Int) (h_x2 : I32 x2) (h_x3 : I32 x3) (h_x5 : I32 x5) (h_x6 : I32 x6) (h_x7 : I32 x7) (h_x8 : I32 x8) (h_x9 : I32 x9) (h_s0 : ml_B s0) (h_s1 : ml_B s1) (ls : Array Slot) (hl : lv_has ls 11 [(0, .ref (base + (th : Int).toNat)), (2, .int (Int32.ofInt x2)), (3, .int (Int32.ofInt x3)), (5, .int (Int32.ofInt x5)), (6, .int (Int32.ofInt x6)), (7, .int (Int32.ofInt x7)), (8, .int (Int32.ofInt x8)), (9, .int (Int32.ofInt x9))]) (hw : f_X10_follow_u144 Q K54 th σ x2 x3 x5 x6 x7 x8 x9 s0 s1) : ml_V p l e rm_X10_follow s m args below meth c (MQ below (ml_Qi I32 base D cA n Q) args s 0 0 (ml_A base)) base D cA 0 0 n n σ (F0 m 144 ls [.int (Int32.ofInt s1), .int (Int32.ofInt s0)]) := by
  unfold f_X10_follow_u144 at hw
  refine ml_icmp_ne (pc := 144) (tgt := 151) X h_s0.i h_s1.i dX10_follow_144 (by decide) (fun c1 => ?_) (fun c1 => ?_)
  · have hw := hw.1 c1
    refine ml_iconst (pc := 151) X dX10_follow_151 ?_
    exact u_X10_follow_152 X hn hp_th hK54 σ x2 x3 x5 x6 x7 x8 x9 0 h_x2 h_x3 h_x5 h_x6 h_x7 h_x8 h_x9 ⟨by decide, by decide⟩ _ (lv_sub hl [0, 1, 2, 3, 4, 5, 6, 7] rfl) hw
  · have hw := hw.2 c1
    refine ml_iconst (pc := 147) X dX10_follow_147 ?_
    refine ml_goto (pc := 148) (tgt := 152) X dX10_follow_148 (by decide) ?_
    exact u_X10_follow_152 X hn hp_th hK54 σ x2 x3 x5 x6 x7 x8 x9 1 h_x2 h_x3 h_x5 h_x6 h_x7 h_x8 h_x9 ⟨by decide, by decide⟩ _ (lv_sub hl [0, 1, 2, 3, 4, 5, 6, 7] rfl) hw
set_option maxRecDepth 100000 in
set_option maxHeartbeats 4000000 in
theorem u_X10_follow_102 {p : Program} {e : Env} {s : State} {m : MethodId} {args : Array Value} {below : List Frame} {meth : Method} {c : Code} {base : Nat} {D : va_G} {cA : Nat → ClassId} {n : Nat} {l : Launch} {th : Int} {Q : Int → ml_St → Prop} {K54 : ml_St → Int → Int → Int → Int → Int → Int → Int → Int → Prop} {K108 : ml_St → Int → Prop} (X : ml_X p s m c meth args D cA cX10_follow 11 RX10 (some .int)) (hn : 214 ≤ n) (hp_th : ml_at n th (20, 8)) (hK54 : ∀ (σ : ml_St) (x2 : Int) (x3 : Int) (x4 : Int) (x5 : Int) (x6 : Int) (x7 : Int) (x8 : Int) (x9 : Int) (h_x2 : I32 x2) (h_x3 : I32 x3) (h_x4 : ml_B x4) (h_x5 : I32 x5) (h_x6 : I32 x6) (h_x7 : I32 x7) (h_x8 : I32 x8) (h_x9 : I32 x9) (ls : Array Slot), lv_has ls 11 [(0, .ref (base + (th : Int).toNat)), (2, .int (Int32.ofInt x2)), (3, .int (Int32.ofInt x3)), (4, .int (Int32.ofInt x4)), (5, .int (Int32.ofInt x5)), (6, .int (Int32.ofInt x6)), (7, .int (Int32.ofInt x7)), (8, .int (Int32.ofInt x8)), (9, .int (Int32.ofInt x9))] → K54 σ x2 x3 x4 x5 x6 x7 x8 x9 → ml_V p l e rm_X10_follow s m args below meth c (MQ below (ml_Qi I32 base D cA n Q) args s 0 0 (ml_A base)) base D cA 0 0 n n σ (F0 m 54 ls [])) (hK108 : ∀ (σ : ml_St) (x6 : Int) (h_x6 : I32 x6) (ls : Array Slot), lv_has ls 11 [(6, .int (Int32.ofInt x6))] → K108 σ x6 → ml_V p l e rm_X10_follow s m args below meth c (MQ below (ml_Qi I32 base D cA n Q) args s 0 0 (ml_A base)) base D cA 0 0 n n σ (F0 m 108 ls [])) (σ : ml_St) (x2 : Int) (x3 : Int) (x4 : Int) (x5 : Int) (x6 : Int) (x7 : Int) (x8 : Int) (x9 : Int) (x10 : Int) (h_x2 : I32 x2) (h_x3 : I32 x3) (h_x4 : ml_B x4) (h_x5 : I32 x5) (h_x6 : I32 x6) (h_x7 : I32 x7) (h_x8 : I32 x8) (h_x9 : I32 x9) (h_x10 : I32 x10) (ls : Array Slot) (hl : lv_has ls 11 [(0, .ref (base + (th : Int).toNat)), (2, .int (Int32.ofInt x2)), (3, .int (Int32.ofInt x3)), (4, .int (Int32.ofInt x4)), (5, .int (Int32.ofInt x5)), (6, .int (Int32.ofInt x6)), (7, .int (Int32.ofInt x7)), (8, .int (Int32.ofInt x8)), (9, .int (Int32.ofInt x9)), (10, .int (Int32.ofInt x10))]) (hw : f_X10_follow_u102 Q K54 K108 th σ x2 x3 x4 x5 x6 x7 x8 x9 x10) : ml_V p l e rm_X10_follow s m args below meth c (MQ below (ml_Qi I32 base D cA n Q) args s 0 0 (ml_A base)) base D cA 0 0 n n σ (F0 m 102 ls []) := by
  unfold f_X10_follow_u102 at hw
  refine ml_iload (pc := 102) X hl 6 rfl dX10_follow_102 ?_
  refine ml_iload_n (pc := 104) X hl 1 rfl rfl dX10_follow_104 ?_
  refine ml_icmp_ne (pc := 105) (tgt := 111) X h_x7 h_x2 dX10_follow_105 (by decide) (fun c1 => ?_) (fun c1 => ?_)
  · have hw := hw.1 c1
    obtain ⟨v2, hw⟩ := hw
    obtain ⟨y2, e2⟩ : ∃ y : Int, y = x7 + 1 := ⟨_, rfl⟩
    have hw := hw y2 e2
    rw [← e2] at v2
    refine ml_iinc (pc := 111) X e2 hl 6 rfl (by decide) (lst' := [(7, .int (Int32.ofInt y2)), (0, .ref (base + (th : Int).toNat)), (2, .int (Int32.ofInt x2)), (3, .int (Int32.ofInt x3)), (4, .int (Int32.ofInt x4)), (5, .int (Int32.ofInt x5)), (6, .int (Int32.ofInt x6)), (8, .int (Int32.ofInt x8)), (9, .int (Int32.ofInt x9)), (10, .int (Int32.ofInt x10))]) rfl dX10_follow_111 (fun ls hl => ?_)
    refine ml_iconst (pc := 114) X dX10_follow_114 ?_
    refine ml_iload (pc := 115) X hl 9 rfl dX10_follow_115 ?_
    obtain ⟨v3, hw⟩ := hw
    refine ml_imul (pc := 117) X dX10_follow_117 ?_
    refine ml_iconst (pc := 118) X dX10_follow_118 ?_
    obtain ⟨v4, hw⟩ := hw
    refine ml_iadd (pc := 119) X dX10_follow_119 ?_
    refine ml_iload (pc := 120) X hl 5 rfl dX10_follow_120 ?_
    obtain ⟨v5, hw⟩ := hw
    refine ml_isub (pc := 122) X dX10_follow_122 ?_
    refine ml_topI (pc := 123) (fun y6 e6 => ?_)
    have hw := hw y6 e6
    have q6 : I32 y6 := by rw [e6]; exact v5
    refine ml_istore (pc := 123) X hl (by decide) (lst' := [(5, .int (Int32.ofInt y6)), (7, .int (Int32.ofInt y2)), (0, .ref (base + (th : Int).toNat)), (2, .int (Int32.ofInt x2)), (3, .int (Int32.ofInt x3)), (4, .int (Int32.ofInt x4)), (6, .int (Int32.ofInt x6)), (8, .int (Int32.ofInt x8)), (9, .int (Int32.ofInt x9)), (10, .int (Int32.ofInt x10))]) rfl dX10_follow_123 (fun ls hl => ?_)
    refine ml_iload (pc := 125) X hl 5 rfl dX10_follow_125 ?_
    refine ml_aload_n (pc := 127) X hl 2 rfl rfl dX10_follow_127 ?_
    refine gf_X10_33 (pc := 128) X hp_th dX10_follow_128 ?_
    refine ml_iload (pc := 131) X hl 6 rfl dX10_follow_131 ?_
    obtain ⟨a7, b7, hw⟩ := hw
    refine ml_bald (pc := 133) (N := 2000) X (ml_r20_5 hn hp_th) a7 b7 dX10_follow_133 (fun r7 => ?_)
    have hw := hw r7
    refine ml_iconst (pc := 134) X dX10_follow_134 ?_
    obtain ⟨z8, v8, hw⟩ := hw
    refine ml_irem (pc := 135) X r7.i ⟨by decide, by decide⟩ z8 dX10_follow_135 ?_
    refine ml_if_ne (pc := 136) (tgt := 143) X v8 dX10_follow_136 (by decide) (fun c9 => ?_) (fun c9 => ?_)
    · have hw := hw.1 c9
      refine ml_iconst (pc := 143) X dX10_follow_143 ?_
      exact u_X10_follow_144 X hn hp_th hK54 σ x2 x3 y6 x6 y2 x8 x9 x4 0 h_x2 h_x3 q6 h_x6 v2 h_x8 h_x9 h_x4 ⟨by decide, by decide⟩ _ (lv_sub hl [2, 3, 4, 0, 6, 1, 7, 8] rfl) hw
    · have hw := hw.2 c9
      refine ml_iconst (pc := 139) X dX10_follow_139 ?_
      refine ml_goto (pc := 140) (tgt := 144) X dX10_follow_140 (by decide) ?_
      exact u_X10_follow_144 X hn hp_th hK54 σ x2 x3 y6 x6 y2 x8 x9 x4 1 h_x2 h_x3 q6 h_x6 v2 h_x8 h_x9 h_x4 ⟨by decide, by decide⟩ _ (lv_sub hl [2, 3, 4, 0, 6, 1, 7, 8] rfl) hw
  · have hw := hw.2 c1
    exact hK108 σ x6 h_x6 _ (lv_sub hl [5] rfl) hw
set_option maxRecDepth 100000 in
set_option maxHeartbeats 4000000 in
theorem u_X10_follow_54 {p : Program} {e : Env} {s : State} {m : MethodId} {args : Array Value} {below : List Frame} {meth : Method} {c : Code} {base : Nat} {D : va_G} {cA : Nat → ClassId} {n : Nat} {l : Launch} {th : Int} {Q : Int → ml_St → Prop} {K108 : ml_St → Int → Prop} {K175 : ml_St → Int → Int → Int → Int → Prop} (X : ml_X p s m c meth args D cA cX10_follow 11 RX10 (some .int)) (hn : 214 ≤ n) (hp_th : ml_at n th (20, 8)) (hK108 : ∀ (σ : ml_St) (x6 : Int) (h_x6 : I32 x6) (ls : Array Slot), lv_has ls 11 [(6, .int (Int32.ofInt x6))] → K108 σ x6 → ml_V p l e rm_X10_follow s m args below meth c (MQ below (ml_Qi I32 base D cA n Q) args s 0 0 (ml_A base)) base D cA 0 0 n n σ (F0 m 108 ls [])) (hK175 : ∀ (σ : ml_St) (x2 : Int) (x3 : Int) (x4 : Int) (x5 : Int) (h_x2 : I32 x2) (h_x3 : I32 x3) (h_x4 : ml_B x4) (h_x5 : I32 x5) (ls : Array Slot), lv_has ls 11 [(2, .int (Int32.ofInt x2)), (3, .int (Int32.ofInt x3)), (4, .int (Int32.ofInt x4)), (5, .int (Int32.ofInt x5))] → K175 σ x2 x3 x4 x5 → ml_V p l e rm_X10_follow s m args below meth c (MQ below (ml_Qi I32 base D cA n Q) args s 0 0 (ml_A base)) base D cA 0 0 n n σ (F0 m 175 ls [])) : ∀ (N : Nat) (σ : ml_St) (x2 : Int) (x3 : Int) (x4 : Int) (x5 : Int) (x6 : Int) (x7 : Int) (x8 : Int) (x9 : Int) (h_x2 : I32 x2) (h_x3 : I32 x3) (h_x4 : ml_B x4) (h_x5 : I32 x5) (h_x6 : I32 x6) (h_x7 : I32 x7) (h_x8 : I32 x8) (h_x9 : I32 x9) (ls : Array Slot), lv_has ls 11 [(0, .ref (base + (th : Int).toNat)), (2, .int (Int32.ofInt x2)), (3, .int (Int32.ofInt x3)), (4, .int (Int32.ofInt x4)), (5, .int (Int32.ofInt x5)), (6, .int (Int32.ofInt x6)), (7, .int (Int32.ofInt x7)), (8, .int (Int32.ofInt x8)), (9, .int (Int32.ofInt x9))] → f_X10_follow_u54 Q K108 K175 th N σ x2 x3 x4 x5 x6 x7 x8 x9 → ml_V p l e rm_X10_follow s m args below meth c (MQ below (ml_Qi I32 base D cA n Q) args s 0 0 (ml_A base)) base D cA 0 0 n n σ (F0 m 54 ls []) := by
  intro N
  induction N with
  | zero => intro σ x2 x3 x4 x5 x6 x7 x8 x9 h_x2 h_x3 h_x4 h_x5 h_x6 h_x7 h_x8 h_x9 ls hl hw; exact False.elim hw
  | succ N ih =>
    intro σ x2 x3 x4 x5 x6 x7 x8 x9 h_x2 h_x3 h_x4 h_x5 h_x6 h_x7 h_x8 h_x9 ls hl hw
    unfold f_X10_follow_u54 at hw
    refine ml_iload (pc := 54) X hl 8 rfl dX10_follow_54 ?_
    refine ml_iload (pc := 56) X hl 7 rfl dX10_follow_56 ?_
    refine ml_icmp_ge (pc := 58) (tgt := 175) X h_x9 h_x8 dX10_follow_58 (by decide) (fun c1 => ?_) (fun c1 => ?_)
    · have hw := hw.1 c1
      exact hK175 σ x2 x3 x4 x5 h_x2 h_x3 h_x4 h_x5 _ (lv_sub hl [1, 2, 3, 4] rfl) hw
    · have hw := hw.2 c1
      refine ml_iload (pc := 61) X hl 5 rfl dX10_follow_61 ?_
      refine ml_if_lt (pc := 63) (tgt := 175) X h_x6 dX10_follow_63 (by decide) (fun c2 => ?_) (fun c2 => ?_)
      · have hw := hw.1 c2
        exact hK175 σ x2 x3 x4 x5 h_x2 h_x3 h_x4 h_x5 _ (lv_sub hl [1, 2, 3, 4] rfl) hw
      · have hw := hw.2 c2
        refine ml_iload (pc := 66) X hl 5 rfl dX10_follow_66 ?_
        refine ml_aload_n (pc := 68) X hl 0 rfl rfl dX10_follow_68 ?_
        refine gf_X10_36 (pc := 69) X hp_th dX10_follow_69 (fun r3 => ?_)
        have hw := hw r3
        refine ml_icmp_ge (pc := 72) (tgt := 175) X h_x6 r3 dX10_follow_72 (by decide) (fun c4 => ?_) (fun c4 => ?_)
        · have hw := hw.1 c4
          exact hK175 σ x2 x3 x4 x5 h_x2 h_x3 h_x4 h_x5 _ (lv_sub hl [1, 2, 3, 4] rfl) hw
        · have hw := hw.2 c4
          refine ml_aload_n (pc := 75) X hl 0 rfl rfl dX10_follow_75 ?_
          refine gf_X10_33 (pc := 76) X hp_th dX10_follow_76 ?_
          refine ml_iload (pc := 79) X hl 5 rfl dX10_follow_79 ?_
          obtain ⟨a5, b5, hw⟩ := hw
          refine ml_bald (pc := 81) (N := 2000) X (ml_r20_5 hn hp_th) a5 b5 dX10_follow_81 (fun r5 => ?_)
          have hw := hw r5
          refine ml_iconst (pc := 82) X dX10_follow_82 ?_
          obtain ⟨z6, v6, hw⟩ := hw
          refine ml_idiv (pc := 83) X r5.i ⟨by decide, by decide⟩ z6 dX10_follow_83 ?_
          refine ml_topI (pc := 84) (fun y7 e7 => ?_)
          have hw := hw y7 e7
          have q7 : I32 y7 := by rw [e7]; exact v6
          refine ml_istore (pc := 84) X hl (by decide) (lst' := [(10, .int (Int32.ofInt y7)), (0, .ref (base + (th : Int).toNat)), (2, .int (Int32.ofInt x2)), (3, .int (Int32.ofInt x3)), (4, .int (Int32.ofInt x4)), (5, .int (Int32.ofInt x5)), (6, .int (Int32.ofInt x6)), (7, .int (Int32.ofInt x7)), (8, .int (Int32.ofInt x8)), (9, .int (Int32.ofInt x9))]) rfl dX10_follow_84 (fun ls hl => ?_)
          refine ml_iload (pc := 86) X hl 5 rfl dX10_follow_86 ?_
          refine ml_iload (pc := 88) X hl 0 rfl dX10_follow_88 ?_
          refine ml_icmp_eq (pc := 90) (tgt := 102) X h_x5 q7 dX10_follow_90 (by decide) (fun c8 => ?_) (fun c8 => ?_)
          · have hw := hw.1 c8
            exact u_X10_follow_102 X hn hp_th ih hK108 σ x2 x3 x4 x5 x6 x7 x8 x9 y7 h_x2 h_x3 h_x4 h_x5 h_x6 h_x7 h_x8 h_x9 q7 _ (lv_sub hl [1, 2, 3, 4, 5, 6, 7, 8, 9, 0] rfl) hw
          · have hw := hw.2 c8
            refine ml_iload (pc := 93) X hl 5 rfl dX10_follow_93 ?_
            refine ml_iload (pc := 95) X hl 0 rfl dX10_follow_95 ?_
            refine ml_iconst (pc := 97) X dX10_follow_97 ?_
            obtain ⟨v9, hw⟩ := hw
            refine ml_iadd (pc := 98) X dX10_follow_98 ?_
            refine ml_icmp_ne (pc := 99) (tgt := 154) X h_x5 v9 dX10_follow_99 (by decide) (fun c10 => ?_) (fun c10 => ?_)
            · have hw := hw.1 c10
              exact u_X10_follow_154 X hn hp_th ih σ x2 x3 x4 x5 x6 x7 x8 x9 h_x2 h_x3 h_x4 h_x5 h_x6 h_x7 h_x8 h_x9 _ (lv_sub hl [1, 2, 3, 4, 5, 6, 7, 8, 9] rfl) hw
            · have hw := hw.2 c10
              exact u_X10_follow_102 X hn hp_th ih hK108 σ x2 x3 x4 x5 x6 x7 x8 x9 y7 h_x2 h_x3 h_x4 h_x5 h_x6 h_x7 h_x8 h_x9 q7 _ (lv_sub hl [1, 2, 3, 4, 5, 6, 7, 8, 9, 0] rfl) hw
set_option maxRecDepth 100000 in
set_option maxHeartbeats 4000000 in
theorem u_X10_follow_108 {p : Program} {e : Env} {s : State} {m : MethodId} {args : Array Value} {below : List Frame} {meth : Method} {c : Code} {base : Nat} {D : va_G} {cA : Nat → ClassId} {n : Nat} {l : Launch} {th : Int} {Q : Int → ml_St → Prop} (X : ml_X p s m c meth args D cA cX10_follow 11 RX10 (some .int)) (hn : 214 ≤ n) (hp_th : ml_at n th (20, 8)) (σ : ml_St) (x6 : Int) (h_x6 : I32 x6) (ls : Array Slot) (hl : lv_has ls 11 [(6, .int (Int32.ofInt x6))]) (hw : f_X10_follow_u108 Q th σ x6) : ml_V p l e rm_X10_follow s m args below meth c (MQ below (ml_Qi I32 base D cA n Q) args s 0 0 (ml_A base)) base D cA 0 0 n n σ (F0 m 108 ls []) := by
  unfold f_X10_follow_u108 at hw
  refine ml_iload (pc := 108) X hl 0 rfl dX10_follow_108 ?_
  exact ml_iret (pc := 110) X h_x6 hw dX10_follow_110
set_option maxRecDepth 100000 in
set_option maxHeartbeats 4000000 in
theorem u_X10_follow_196 {p : Program} {e : Env} {s : State} {m : MethodId} {args : Array Value} {below : List Frame} {meth : Method} {c : Code} {base : Nat} {D : va_G} {cA : Nat → ClassId} {n : Nat} {l : Launch} {th : Int} {Q : Int → ml_St → Prop} (X : ml_X p s m c meth args D cA cX10_follow 11 RX10 (some .int)) (hn : 214 ≤ n) (hp_th : ml_at n th (20, 8)) (σ : ml_St) (s0 : Int) (h_s0 : I32 s0) (ls : Array Slot) (hl : lv_has ls 11 []) (hw : f_X10_follow_u196 Q th σ s0) : ml_V p l e rm_X10_follow s m args below meth c (MQ below (ml_Qi I32 base D cA n Q) args s 0 0 (ml_A base)) base D cA 0 0 n n σ (F0 m 196 ls [.int (Int32.ofInt s0)]) := by
  unfold f_X10_follow_u196 at hw
  exact ml_iret (pc := 196) X h_s0 hw dX10_follow_196
set_option maxRecDepth 100000 in
set_option maxHeartbeats 4000000 in
theorem u_X10_follow_175 {p : Program} {e : Env} {s : State} {m : MethodId} {args : Array Value} {below : List Frame} {meth : Method} {c : Code} {base : Nat} {D : va_G} {cA : Nat → ClassId} {n : Nat} {l : Launch} {th : Int} {Q : Int → ml_St → Prop} (X : ml_X p s m c meth args D cA cX10_follow 11 RX10 (some .int)) (hn : 214 ≤ n) (hp_th : ml_at n th (20, 8)) (σ : ml_St) (x2 : Int) (x3 : Int) (x4 : Int) (x5 : Int) (h_x2 : I32 x2) (h_x3 : I32 x3) (h_x4 : ml_B x4) (h_x5 : I32 x5) (ls : Array Slot) (hl : lv_has ls 11 [(2, .int (Int32.ofInt x2)), (3, .int (Int32.ofInt x3)), (4, .int (Int32.ofInt x4)), (5, .int (Int32.ofInt x5))]) (hw : f_X10_follow_u175 Q th σ x2 x3 x4 x5) : ml_V p l e rm_X10_follow s m args below meth c (MQ below (ml_Qi I32 base D cA n Q) args s 0 0 (ml_A base)) base D cA 0 0 n n σ (F0 m 175 ls []) := by
  unfold f_X10_follow_u175 at hw
  refine ml_iload_n (pc := 175) X hl 0 rfl rfl dX10_follow_175 ?_
  refine ml_iconst (pc := 176) X dX10_follow_176 ?_
  refine ml_icmp_eq (pc := 177) (tgt := 182) X h_x2 ⟨by decide, by decide⟩ dX10_follow_177 (by decide) (fun c1 => ?_) (fun c1 => ?_)
  · have hw := hw.1 c1
    refine ml_iload (pc := 182) X hl 2 rfl dX10_follow_182 ?_
    refine ml_if_eq (pc := 184) (tgt := 194) X h_x4.i dX10_follow_184 (by decide) (fun c2 => ?_) (fun c2 => ?_)
    · have hw := hw.1 c2
      refine ml_iload (pc := 194) X hl 3 rfl dX10_follow_194 ?_
      exact u_X10_follow_196 X hn hp_th σ x5 h_x5 _ (lv_sub hl [] rfl) hw
    · have hw := hw.2 c2
      refine ml_iload (pc := 187) X hl 3 rfl dX10_follow_187 ?_
      refine ml_iload_n (pc := 189) X hl 1 rfl rfl dX10_follow_189 ?_
      obtain ⟨v3, hw⟩ := hw
      refine ml_iadd (pc := 190) X dX10_follow_190 ?_
      refine ml_goto (pc := 191) (tgt := 196) X dX10_follow_191 (by decide) ?_
      exact u_X10_follow_196 X hn hp_th σ (x5 + x3) v3 _ (lv_sub hl [] rfl) hw
  · have hw := hw.2 c1
    refine ml_iconst (pc := 180) X dX10_follow_180 ?_
    exact ml_iret (pc := 181) X ⟨by decide, by decide⟩ hw dX10_follow_181
set_option maxRecDepth 100000 in
set_option maxHeartbeats 4000000 in
theorem u_X10_follow_41 {p : Program} {e : Env} {s : State} {m : MethodId} {args : Array Value} {below : List Frame} {meth : Method} {c : Code} {base : Nat} {D : va_G} {cA : Nat → ClassId} {n : Nat} {l : Launch} {th : Int} {Q : Int → ml_St → Prop} (X : ml_X p s m c meth args D cA cX10_follow 11 RX10 (some .int)) (hn : 214 ≤ n) (hp_th : ml_at n th (20, 8)) (σ : ml_St) (x2 : Int) (x3 : Int) (x4 : Int) (x5 : Int) (s0 : Int) (h_x2 : I32 x2) (h_x3 : I32 x3) (h_x4 : ml_B x4) (h_x5 : I32 x5) (h_s0 : I32 s0) (ls : Array Slot) (hl : lv_has ls 11 [(0, .ref (base + (th : Int).toNat)), (2, .int (Int32.ofInt x2)), (3, .int (Int32.ofInt x3)), (4, .int (Int32.ofInt x4)), (5, .int (Int32.ofInt x5))]) (hw : f_X10_follow_u41 Q th σ x2 x3 x4 x5 s0) : ml_V p l e rm_X10_follow s m args below meth c (MQ below (ml_Qi I32 base D cA n Q) args s 0 0 (ml_A base)) base D cA 0 0 n n σ (F0 m 41 ls [.int (Int32.ofInt s0)]) := by
  unfold f_X10_follow_u41 at hw
  refine ml_istore (pc := 41) X hl (by decide) (lst' := [(6, .int (Int32.ofInt s0)), (0, .ref (base + (th : Int).toNat)), (2, .int (Int32.ofInt x2)), (3, .int (Int32.ofInt x3)), (4, .int (Int32.ofInt x4)), (5, .int (Int32.ofInt x5))]) rfl dX10_follow_41 (fun ls hl => ?_)
  refine ml_iconst (pc := 43) X dX10_follow_43 ?_
  refine ml_istore (pc := 44) X hl (by decide) (lst' := [(7, .int (Int32.ofInt 0)), (6, .int (Int32.ofInt s0)), (0, .ref (base + (th : Int).toNat)), (2, .int (Int32.ofInt x2)), (3, .int (Int32.ofInt x3)), (4, .int (Int32.ofInt x4)), (5, .int (Int32.ofInt x5))]) rfl dX10_follow_44 (fun ls hl => ?_)
  refine ml_sipush (pc := 46) X dX10_follow_46 (by decide) ?_
  refine ml_istore (pc := 49) X hl (by decide) (lst' := [(8, .int (Int32.ofInt 20000)), (7, .int (Int32.ofInt 0)), (6, .int (Int32.ofInt s0)), (0, .ref (base + (th : Int).toNat)), (2, .int (Int32.ofInt x2)), (3, .int (Int32.ofInt x3)), (4, .int (Int32.ofInt x4)), (5, .int (Int32.ofInt x5))]) rfl dX10_follow_49 (fun ls hl => ?_)
  refine ml_iconst (pc := 51) X dX10_follow_51 ?_
  refine ml_istore (pc := 52) X hl (by decide) (lst' := [(9, .int (Int32.ofInt 0)), (8, .int (Int32.ofInt 20000)), (7, .int (Int32.ofInt 0)), (6, .int (Int32.ofInt s0)), (0, .ref (base + (th : Int).toNat)), (2, .int (Int32.ofInt x2)), (3, .int (Int32.ofInt x3)), (4, .int (Int32.ofInt x4)), (5, .int (Int32.ofInt x5))]) rfl dX10_follow_52 (fun ls hl => ?_)
  obtain ⟨N0, hw⟩ := hw
  exact u_X10_follow_54 X hn hp_th (fun σ x6 h_x6 ls hl hw => u_X10_follow_108 X hn hp_th σ x6 h_x6 ls hl hw) (fun σ x2 x3 x4 x5 h_x2 h_x3 h_x4 h_x5 ls hl hw => u_X10_follow_175 X hn hp_th σ x2 x3 x4 x5 h_x2 h_x3 h_x4 h_x5 ls hl hw) N0 σ x2 x3 x4 x5 s0 0 20000 0 h_x2 h_x3 h_x4 h_x5 h_s0 ⟨by decide, by decide⟩ ⟨by decide, by decide⟩ ⟨by decide, by decide⟩ _ (lv_sub hl [4, 5, 6, 7, 8, 3, 2, 1, 0] rfl) hw
set_option maxRecDepth 100000 in
set_option maxHeartbeats 4000000 in
theorem u_X10_follow_24 {p : Program} {e : Env} {s : State} {m : MethodId} {args : Array Value} {below : List Frame} {meth : Method} {c : Code} {base : Nat} {D : va_G} {cA : Nat → ClassId} {n : Nat} {l : Launch} {th : Int} {Q : Int → ml_St → Prop} (X : ml_X p s m c meth args D cA cX10_follow 11 RX10 (some .int)) (hn : 214 ≤ n) (hp_th : ml_at n th (20, 8)) (σ : ml_St) (x2 : Int) (x3 : Int) (x4 : Int) (s0 : Int) (h_x2 : I32 x2) (h_x3 : I32 x3) (h_x4 : ml_B x4) (h_s0 : I32 s0) (ls : Array Slot) (hl : lv_has ls 11 [(0, .ref (base + (th : Int).toNat)), (2, .int (Int32.ofInt x2)), (3, .int (Int32.ofInt x3)), (4, .int (Int32.ofInt x4))]) (hw : f_X10_follow_u24 Q th σ x2 x3 x4 s0) : ml_V p l e rm_X10_follow s m args below meth c (MQ below (ml_Qi I32 base D cA n Q) args s 0 0 (ml_A base)) base D cA 0 0 n n σ (F0 m 24 ls [.int (Int32.ofInt s0)]) := by
  unfold f_X10_follow_u24 at hw
  refine ml_istore (pc := 24) X hl (by decide) (lst' := [(5, .int (Int32.ofInt s0)), (0, .ref (base + (th : Int).toNat)), (2, .int (Int32.ofInt x2)), (3, .int (Int32.ofInt x3)), (4, .int (Int32.ofInt x4))]) rfl dX10_follow_24 (fun ls hl => ?_)
  refine ml_iload (pc := 26) X hl 4 rfl dX10_follow_26 ?_
  refine ml_if_eq (pc := 28) (tgt := 35) X h_x4.i dX10_follow_28 (by decide) (fun c1 => ?_) (fun c1 => ?_)
  · have hw := hw.1 c1
    refine ml_aload_n (pc := 35) X hl 1 rfl rfl dX10_follow_35 ?_
    refine gf_X10_36 (pc := 36) X hp_th dX10_follow_36 (fun r2 => ?_)
    have hw := hw r2
    refine ml_iconst (pc := 39) X dX10_follow_39 ?_
    obtain ⟨v3, hw⟩ := hw
    refine ml_isub (pc := 40) X dX10_follow_40 ?_
    exact u_X10_follow_41 X hn hp_th σ x2 x3 x4 s0 ((σ th 6) - 1) h_x2 h_x3 h_x4 h_s0 v3 _ (lv_sub hl [1, 2, 3, 4, 0] rfl) hw
  · have hw := hw.2 c1
    refine ml_iconst (pc := 31) X dX10_follow_31 ?_
    refine ml_goto (pc := 32) (tgt := 41) X dX10_follow_32 (by decide) ?_
    exact u_X10_follow_41 X hn hp_th σ x2 x3 x4 s0 0 h_x2 h_x3 h_x4 h_s0 ⟨by decide, by decide⟩ _ (lv_sub hl [1, 2, 3, 4, 0] rfl) hw
set_option maxRecDepth 100000 in
set_option maxHeartbeats 4000000 in
theorem u_X10_follow_10 {p : Program} {e : Env} {s : State} {m : MethodId} {args : Array Value} {below : List Frame} {meth : Method} {c : Code} {base : Nat} {D : va_G} {cA : Nat → ClassId} {n : Nat} {l : Launch} {th : Int} {Q : Int → ml_St → Prop} (X : ml_X p s m c meth args D cA cX10_follow 11 RX10 (some .int)) (hn : 214 ≤ n) (hp_th : ml_at n th (20, 8)) (σ : ml_St) (x1 : Int) (x2 : Int) (x3 : Int) (s0 : Int) (h_x1 : I32 x1) (h_x2 : I32 x2) (h_x3 : I32 x3) (h_s0 : ml_B s0) (ls : Array Slot) (hl : lv_has ls 11 [(0, .ref (base + (th : Int).toNat)), (1, .int (Int32.ofInt x1)), (2, .int (Int32.ofInt x2)), (3, .int (Int32.ofInt x3))]) (hw : f_X10_follow_u10 Q th σ x1 x2 x3 s0) : ml_V p l e rm_X10_follow s m args below meth c (MQ below (ml_Qi I32 base D cA n Q) args s 0 0 (ml_A base)) base D cA 0 0 n n σ (F0 m 10 ls [.int (Int32.ofInt s0)]) := by
  unfold f_X10_follow_u10 at hw
  refine ml_istore (pc := 10) X hl (by decide) (lst' := [(4, .int (Int32.ofInt s0)), (0, .ref (base + (th : Int).toNat)), (1, .int (Int32.ofInt x1)), (2, .int (Int32.ofInt x2)), (3, .int (Int32.ofInt x3))]) rfl dX10_follow_10 (fun ls hl => ?_)
  refine ml_iload (pc := 12) X hl 0 rfl dX10_follow_12 ?_
  refine ml_if_eq (pc := 14) (tgt := 21) X h_s0.i dX10_follow_14 (by decide) (fun c1 => ?_) (fun c1 => ?_)
  · have hw := hw.1 c1
    refine ml_iload_n (pc := 21) X hl 2 rfl rfl dX10_follow_21 ?_
    refine ml_iload_n (pc := 22) X hl 4 rfl rfl dX10_follow_22 ?_
    obtain ⟨v2, hw⟩ := hw
    refine ml_isub (pc := 23) X dX10_follow_23 ?_
    exact u_X10_follow_24 X hn hp_th σ x2 x3 s0 (x1 - x3) h_x2 h_x3 h_s0 v2 _ (lv_sub hl [1, 3, 4, 0] rfl) hw
  · have hw := hw.2 c1
    refine ml_iload_n (pc := 17) X hl 2 rfl rfl dX10_follow_17 ?_
    refine ml_goto (pc := 18) (tgt := 24) X dX10_follow_18 (by decide) ?_
    exact u_X10_follow_24 X hn hp_th σ x2 x3 s0 x1 h_x2 h_x3 h_s0 h_x1 _ (lv_sub hl [1, 3, 4, 0] rfl) hw
set_option maxRecDepth 100000 in
set_option maxHeartbeats 4000000 in
theorem u_X10_follow_0 {p : Program} {e : Env} {s : State} {m : MethodId} {args : Array Value} {below : List Frame} {meth : Method} {c : Code} {base : Nat} {D : va_G} {cA : Nat → ClassId} {n : Nat} {l : Launch} {th : Int} {Q : Int → ml_St → Prop} (X : ml_X p s m c meth args D cA cX10_follow 11 RX10 (some .int)) (hn : 214 ≤ n) (hp_th : ml_at n th (20, 8)) (σ : ml_St) (x1 : Int) (x2 : Int) (x3 : Int) (h_x1 : I32 x1) (h_x2 : I32 x2) (h_x3 : I32 x3) (ls : Array Slot) (hl : lv_has ls 11 [(0, .ref (base + (th : Int).toNat)), (1, .int (Int32.ofInt x1)), (2, .int (Int32.ofInt x2)), (3, .int (Int32.ofInt x3))]) (hw : f_X10_follow_u0 Q th σ x1 x2 x3) : ml_V p l e rm_X10_follow s m args below meth c (MQ below (ml_Qi I32 base D cA n Q) args s 0 0 (ml_A base)) base D cA 0 0 n n σ (F0 m 0 ls []) := by
  unfold f_X10_follow_u0 at hw
  refine ml_iload_n (pc := 0) X hl 1 rfl rfl dX10_follow_0 ?_
  refine ml_iload_n (pc := 1) X hl 3 rfl rfl dX10_follow_1 ?_
  refine ml_icmp_ge (pc := 2) (tgt := 9) X h_x1 h_x3 dX10_follow_2 (by decide) (fun c1 => ?_) (fun c1 => ?_)
  · have hw := hw.1 c1
    refine ml_iconst (pc := 9) X dX10_follow_9 ?_
    exact u_X10_follow_10 X hn hp_th σ x1 x2 x3 0 h_x1 h_x2 h_x3 ⟨by decide, by decide⟩ _ (lv_sub hl [0, 1, 2, 3] rfl) hw
  · have hw := hw.2 c1
    refine ml_iconst (pc := 5) X dX10_follow_5 ?_
    refine ml_goto (pc := 6) (tgt := 10) X dX10_follow_6 (by decide) ?_
    exact u_X10_follow_10 X hn hp_th σ x1 x2 x3 1 h_x1 h_x2 h_x3 ⟨by decide, by decide⟩ _ (lv_sub hl [0, 1, 2, 3] rfl) hw
set_option maxRecDepth 100000 in
theorem c_X10_follow (l : Launch) (base : Nat) (D : va_G) (cA : Nat → ClassId) (n : Nat) (hn : 214 ≤ n) (σ : ml_St) (th : Int) (hp_th : ml_at n th (20, 8)) (x1 : Int) (x2 : Int) (x3 : Int) (h_x1 : I32 x1) (h_x2 : I32 x2) (h_x3 : I32 x3) (Q : Int → ml_St → Prop) (hw : f_X10_follow σ th x1 x2 x3 Q) : Met l yX10_follow (Cond.code yX10_follow cX10_follow 11 (some .int) :: ml_T) rm_X10_follow (va_Pc [.ref (base + (th : Int).toNat), .int (Int32.ofInt x1), .int (Int32.ofInt x2), .int (Int32.ofInt x3)] (ml_U base D cA n σ)) (ml_Qi I32 base D cA n Q) 0 0 (ml_A base) := by
  refine Met.ofW (cc := cX10_follow) (maxL := 11) (ret := (some .int)) (by decide) rfl ?_
  intro p e s m args below meth c s₁ B hml hv
  obtain ⟨rfl, hP, hK, hok, hro⟩ := hv
  have X : ml_X p s m c meth _ D cA cX10_follow 11 RX10 (some .int) := ⟨B.exec, B.bytes, hml, findClass_of_methodNamed B.named, fun w hw => atoms_spec (ws := Cond.code yX10_follow cX10_follow 11 (some .int) :: ml_T) B.pre w (List.mem_cons_of_mem _ hw), hK, B.notSynchronized, B.returns⟩
  have hl := lv_entry [.ref (base + (th : Int).toNat), .int (Int32.ofInt x1), .int (Int32.ofInt x2), .int (Int32.ofInt x3)] (n := 11) (Nat.le_of_ble_eq_true rfl)
  rw [lg_entry_eq]
  generalize (lg_sl [.ref (base + (th : Int).toNat), .int (Int32.ofInt x1), .int (Int32.ofInt x2), .int (Int32.ofInt x3)] ++ List.replicate (11 - (lg_sl [.ref (base + (th : Int).toNat), .int (Int32.ofInt x1), .int (Int32.ofInt x2), .int (Int32.ofInt x3)]).length) Slot.unset).toArray = ls at hl ⊢
  have hl : lv_has ls 11 [(0, .ref (base + (th : Int).toNat)), (1, .int (Int32.ofInt x1)), (2, .int (Int32.ofInt x2)), (3, .int (Int32.ofInt x3))] := hl
  unfold f_X10_follow at hw
  exact u_X10_follow_0 X hn hp_th σ x1 x2 x3 h_x1 h_x2 h_x3 _ (lv_sub hl [0, 1, 2, 3] rfl) hw s.heap [] hP va_S.rf hok hro
theorem dX4_writeRow_0 : decode cX4_writeRow 0 = .ok (.iload_n 3, 1) := by decide +kernel
theorem dX4_writeRow_1 : decode cX4_writeRow 1 = .ok (.sipush 2000, 3) := by decide +kernel
theorem dX4_writeRow_4 : decode cX4_writeRow 4 = .ok (.aload_n 0, 1) := by decide +kernel
theorem dX4_writeRow_5 : decode cX4_writeRow 5 = .ok (.getfield 97, 3) := by decide +kernel
theorem dX4_writeRow_8 : decode cX4_writeRow 8 = .ok (.isub, 1) := by decide +kernel
theorem dX4_writeRow_9 : decode cX4_writeRow 9 = .ok (.invokestatic 58, 3) := by decide +kernel
theorem dX4_writeRow_12 : decode cX4_writeRow 12 = .ok (.istore 4, 2) := by decide +kernel
theorem dX4_writeRow_14 : decode cX4_writeRow 14 = .ok (.aload_n 1, 1) := by decide +kernel
theorem dX4_writeRow_15 : decode cX4_writeRow 15 = .ok (.iload_n 2, 1) := by decide +kernel
theorem dX4_writeRow_16 : decode cX4_writeRow 16 = .ok (.aload_n 0, 1) := by decide +kernel
theorem dX4_writeRow_17 : decode cX4_writeRow 17 = .ok (.getfield 111, 3) := by decide +kernel
theorem dX4_writeRow_20 : decode cX4_writeRow 20 = .ok (.aload_n 0, 1) := by decide +kernel
theorem dX4_writeRow_21 : decode cX4_writeRow 21 = .ok (.getfield 97, 3) := by decide +kernel
theorem dX4_writeRow_24 : decode cX4_writeRow 24 = .ok (.iload 4, 2) := by decide +kernel
theorem dX4_writeRow_26 : decode cX4_writeRow 26 = .ok (.invokestatic 126, 3) := by decide +kernel
theorem dX4_writeRow_29 : decode cX4_writeRow 29 = .ok (.aload_n 0, 1) := by decide +kernel
theorem dX4_writeRow_30 : decode cX4_writeRow 30 = .ok (.dup, 1) := by decide +kernel
theorem dX4_writeRow_31 : decode cX4_writeRow 31 = .ok (.getfield 97, 3) := by decide +kernel
theorem dX4_writeRow_34 : decode cX4_writeRow 34 = .ok (.iload 4, 2) := by decide +kernel
theorem dX4_writeRow_36 : decode cX4_writeRow 36 = .ok (.iadd, 1) := by decide +kernel
theorem dX4_writeRow_37 : decode cX4_writeRow 37 = .ok (.putfield 97, 3) := by decide +kernel
theorem dX4_writeRow_40 : decode cX4_writeRow 40 = .ok (.return_, 1) := by decide +kernel
def f_X4_writeRow_u0 (Q : ml_St → Prop) (p0 : Int) (p1 : Int) (σ : ml_St) (x2 : Int) (x3 : Int) : Prop :=
∀ _ : I32 (σ p0 6),
I32 (2000 - (σ p0 6)) ∧
∀ y3 : Int, y3 = min x3 (2000 - (σ p0 6)) →
∀ _ : I32 (σ p0 6),
(0 : Int) ≤ x2 ∧ (0 : Int) ≤ (σ p0 6) ∧ (0 : Int) ≤ y3 ∧ (x2 + y3 : Int) ≤ 2000 ∧ ((σ p0 6) + y3 : Int) ≤ 2000 ∧
∀ σ5, σ5 = ml_cpy σ p1 x2 (p0 + 5) (σ p0 6) y3 →
∀ _ : I32 (σ5 p0 6),
I32 ((σ5 p0 6) + y3) ∧
∀ σ8, σ8 = ml_up σ5 p0 6 ((σ5 p0 6) + y3) →
Q σ8
def f_X4_writeRow (σ : ml_St) (p0 : Int) (p1 : Int) (x2 : Int) (x3 : Int) (Q : ml_St → Prop) : Prop := f_X4_writeRow_u0 Q p0 p1 σ x2 x3
def rm_X4_writeRow : Room := { frames := 1, cells := 0, slots := 0, locals := 60 }
set_option maxRecDepth 100000 in
set_option maxHeartbeats 4000000 in
theorem u_X4_writeRow_0 {p : Program} {e : Env} {s : State} {m : MethodId} {args : Array Value} {below : List Frame} {meth : Method} {c : Code} {base : Nat} {D : va_G} {cA : Nat → ClassId} {n : Nat} {l : Launch} {p0 : Int} {p1 : Int} {Q : ml_St → Prop} (X : ml_X p s m c meth args D cA cX4_writeRow 5 RX4 none) (hn : 214 ≤ n) (hp_p0 : ml_at n p0 (20, 8)) (hp_p1 : ml_at n p1 (2, 2000)) (σ : ml_St) (x2 : Int) (x3 : Int) (h_x2 : I32 x2) (h_x3 : I32 x3) (ls : Array Slot) (hl : lv_has ls 5 [(0, .ref (base + (p0 : Int).toNat)), (1, .ref (base + (p1 : Int).toNat)), (2, .int (Int32.ofInt x2)), (3, .int (Int32.ofInt x3))]) (hw : f_X4_writeRow_u0 Q p0 p1 σ x2 x3) : ml_V p l e rm_X4_writeRow s m args below meth c (MQ below (ml_Qv base D cA n Q) args s 0 0 (ml_A base)) base D cA 0 0 n n σ (F0 m 0 ls []) := by
  unfold f_X4_writeRow_u0 at hw
  refine ml_iload_n (pc := 0) X hl 3 rfl rfl dX4_writeRow_0 ?_
  refine ml_sipush (pc := 1) X dX4_writeRow_1 (by decide) ?_
  refine ml_aload_n (pc := 4) X hl 0 rfl rfl dX4_writeRow_4 ?_
  refine gf_X4_97 (pc := 5) X hp_p0 dX4_writeRow_5 (fun r1 => ?_)
  have hw := hw r1
  obtain ⟨v2, hw⟩ := hw
  refine ml_isub (pc := 8) X dX4_writeRow_8 ?_
  refine ml_mmin (pc := 9) X ⟨tw_3_34, tw_3_35, tw_1_14, tw_3_36⟩ h_x3 v2 ⟨Nat.zero_le _, Nat.zero_le _⟩ hl (Nat.le_of_ble_eq_true rfl) ⟨by decide, by decide⟩ dX4_writeRow_9 ?_
  refine ml_topI (pc := 12) (fun y3 e3 => ?_)
  have hw := hw y3 e3
  have q3 : I32 y3 := by rw [e3]; exact (ml_min_r h_x3 v2)
  refine ml_istore (pc := 12) X hl (by decide) (lst' := [(4, .int (Int32.ofInt y3)), (0, .ref (base + (p0 : Int).toNat)), (1, .ref (base + (p1 : Int).toNat)), (2, .int (Int32.ofInt x2)), (3, .int (Int32.ofInt x3))]) rfl dX4_writeRow_12 (fun ls hl => ?_)
  refine ml_aload_n (pc := 14) X hl 2 rfl rfl dX4_writeRow_14 ?_
  refine ml_iload_n (pc := 15) X hl 3 rfl rfl dX4_writeRow_15 ?_
  refine ml_aload_n (pc := 16) X hl 1 rfl rfl dX4_writeRow_16 ?_
  refine gf_X4_111 (pc := 17) X hp_p0 dX4_writeRow_17 ?_
  refine ml_aload_n (pc := 20) X hl 1 rfl rfl dX4_writeRow_20 ?_
  refine gf_X4_97 (pc := 21) X hp_p0 dX4_writeRow_21 (fun r4 => ?_)
  have hw := hw r4
  refine ml_iload (pc := 24) X hl 0 rfl dX4_writeRow_24 ?_
  obtain ⟨a5, b5, c5, f5, h5, hw⟩ := hw
  refine ml_cpb (pc := 26) (n0 := 2000) (n1 := 2000) X ⟨tw_4_169, tw_3_43, tw_3_42, tw_1_15⟩ hp_p1 (ml_r20_5 hn hp_p0) h_x2 r4 q3 a5 b5 c5 f5 h5 hl (Nat.le_of_ble_eq_true rfl) ⟨by decide, by decide⟩ dX4_writeRow_26 (fun σ5 g5 => ?_)
  have hw := hw σ5 g5
  refine ml_aload_n (pc := 29) X hl 1 rfl rfl dX4_writeRow_29 ?_
  refine ml_dup (pc := 30) X dX4_writeRow_30 rfl ?_
  refine gf_X4_97 (pc := 31) X hp_p0 dX4_writeRow_31 (fun r6 => ?_)
  have hw := hw r6
  refine ml_iload (pc := 34) X hl 0 rfl dX4_writeRow_34 ?_
  obtain ⟨v7, hw⟩ := hw
  refine ml_iadd (pc := 36) X dX4_writeRow_36 ?_
  refine pf_X4_97 (pc := 37) X hp_p0 v7 dX4_writeRow_37 (fun σ8 g8 => ?_)
  have hw := hw σ8 g8
  exact ml_vret (pc := 40) X hw dX4_writeRow_40
set_option maxRecDepth 100000 in
theorem c_X4_writeRow (l : Launch) (base : Nat) (D : va_G) (cA : Nat → ClassId) (n : Nat) (hn : 214 ≤ n) (σ : ml_St) (p0 : Int) (p1 : Int) (hp_p0 : ml_at n p0 (20, 8)) (hp_p1 : ml_at n p1 (2, 2000)) (x2 : Int) (x3 : Int) (h_x2 : I32 x2) (h_x3 : I32 x3) (Q : ml_St → Prop) (hw : f_X4_writeRow σ p0 p1 x2 x3 Q) : Met l yX4_writeRow (Cond.code yX4_writeRow cX4_writeRow 5 none :: ml_T) rm_X4_writeRow (va_Pc [.ref (base + (p0 : Int).toNat), .ref (base + (p1 : Int).toNat), .int (Int32.ofInt x2), .int (Int32.ofInt x3)] (ml_U base D cA n σ)) (ml_Qv base D cA n Q) 0 0 (ml_A base) := by
  refine Met.ofW (cc := cX4_writeRow) (maxL := 5) (ret := none) (by decide) rfl ?_
  intro p e s m args below meth c s₁ B hml hv
  obtain ⟨rfl, hP, hK, hok, hro⟩ := hv
  have X : ml_X p s m c meth _ D cA cX4_writeRow 5 RX4 none := ⟨B.exec, B.bytes, hml, findClass_of_methodNamed B.named, fun w hw => atoms_spec (ws := Cond.code yX4_writeRow cX4_writeRow 5 none :: ml_T) B.pre w (List.mem_cons_of_mem _ hw), hK, B.notSynchronized, B.returns⟩
  have hl := lv_entry [.ref (base + (p0 : Int).toNat), .ref (base + (p1 : Int).toNat), .int (Int32.ofInt x2), .int (Int32.ofInt x3)] (n := 5) (Nat.le_of_ble_eq_true rfl)
  rw [lg_entry_eq]
  generalize (lg_sl [.ref (base + (p0 : Int).toNat), .ref (base + (p1 : Int).toNat), .int (Int32.ofInt x2), .int (Int32.ofInt x3)] ++ List.replicate (5 - (lg_sl [.ref (base + (p0 : Int).toNat), .ref (base + (p1 : Int).toNat), .int (Int32.ofInt x2), .int (Int32.ofInt x3)]).length) Slot.unset).toArray = ls at hl ⊢
  have hl : lv_has ls 5 [(0, .ref (base + (p0 : Int).toNat)), (1, .ref (base + (p1 : Int).toNat)), (2, .int (Int32.ofInt x2)), (3, .int (Int32.ofInt x3))] := hl
  unfold f_X4_writeRow at hw
  exact u_X4_writeRow_0 X hn hp_p0 hp_p1 σ x2 x3 h_x2 h_x3 _ (lv_sub hl [0, 1, 2, 3] rfl) hw s.heap [] hP va_S.rf hok hro
theorem dX4_repeatRow_0 : decode cX4_repeatRow 0 = .ok (.aload_n 0, 1) := by decide +kernel
theorem dX4_repeatRow_1 : decode cX4_repeatRow 1 = .ok (.getfield 97, 3) := by decide +kernel
theorem dX4_repeatRow_4 : decode cX4_repeatRow 4 = .ok (.iload_n 1, 1) := by decide +kernel
theorem dX4_repeatRow_5 : decode cX4_repeatRow 5 = .ok (.isub, 1) := by decide +kernel
theorem dX4_repeatRow_6 : decode cX4_repeatRow 6 = .ok (.istore_n 3, 1) := by decide +kernel
theorem dX4_repeatRow_7 : decode cX4_repeatRow 7 = .ok (.iload_n 2, 1) := by decide +kernel
theorem dX4_repeatRow_8 : decode cX4_repeatRow 8 = .ok (.ifCond .ne 8, 3) := by decide +kernel
theorem dX4_repeatRow_11 : decode cX4_repeatRow 11 = .ok (.aload_n 0, 1) := by decide +kernel
theorem dX4_repeatRow_12 : decode cX4_repeatRow 12 = .ok (.iload_n 1, 1) := by decide +kernel
theorem dX4_repeatRow_13 : decode cX4_repeatRow 13 = .ok (.putfield 97, 3) := by decide +kernel
theorem dX4_repeatRow_16 : decode cX4_repeatRow 16 = .ok (.iconst 1, 1) := by decide +kernel
theorem dX4_repeatRow_17 : decode cX4_repeatRow 17 = .ok (.istore 4, 2) := by decide +kernel
theorem dX4_repeatRow_19 : decode cX4_repeatRow 19 = .ok (.iload 4, 2) := by decide +kernel
theorem dX4_repeatRow_21 : decode cX4_repeatRow 21 = .ok (.iload_n 2, 1) := by decide +kernel
theorem dX4_repeatRow_22 : decode cX4_repeatRow 22 = .ok (.if_icmp .ge 33, 3) := by decide +kernel
theorem dX4_repeatRow_25 : decode cX4_repeatRow 25 = .ok (.iload_n 3, 1) := by decide +kernel
theorem dX4_repeatRow_26 : decode cX4_repeatRow 26 = .ok (.ifCond .le 29, 3) := by decide +kernel
theorem dX4_repeatRow_29 : decode cX4_repeatRow 29 = .ok (.aload_n 0, 1) := by decide +kernel
theorem dX4_repeatRow_30 : decode cX4_repeatRow 30 = .ok (.getfield 97, 3) := by decide +kernel
theorem dX4_repeatRow_33 : decode cX4_repeatRow 33 = .ok (.sipush 2000, 3) := by decide +kernel
theorem dX4_repeatRow_36 : decode cX4_repeatRow 36 = .ok (.if_icmp .ge 19, 3) := by decide +kernel
theorem dX4_repeatRow_39 : decode cX4_repeatRow 39 = .ok (.aload_n 0, 1) := by decide +kernel
theorem dX4_repeatRow_40 : decode cX4_repeatRow 40 = .ok (.aload_n 0, 1) := by decide +kernel
theorem dX4_repeatRow_41 : decode cX4_repeatRow 41 = .ok (.getfield 111, 3) := by decide +kernel
theorem dX4_repeatRow_44 : decode cX4_repeatRow 44 = .ok (.iload_n 1, 1) := by decide +kernel
theorem dX4_repeatRow_45 : decode cX4_repeatRow 45 = .ok (.iload_n 3, 1) := by decide +kernel
theorem dX4_repeatRow_46 : decode cX4_repeatRow 46 = .ok (.invokestatic 114, 3) := by decide +kernel
theorem dX4_repeatRow_49 : decode cX4_repeatRow 49 = .ok (.iinc 4 1, 3) := by decide +kernel
theorem dX4_repeatRow_52 : decode cX4_repeatRow 52 = .ok (.goto (-33), 3) := by decide +kernel
theorem dX4_repeatRow_55 : decode cX4_repeatRow 55 = .ok (.return_, 1) := by decide +kernel
def f_X4_repeatRow_u19 (Q : ml_St → Prop) (K55 : ml_St → Prop) (p0 : Int) : Nat → ml_St → Int → Int → Int → Int → Prop
| 0, _, _, _, _, _ => False
| N + 1, σ, x1, x2, x3, x4 =>
(x2 ≤ x4 →
K55 σ) ∧
(¬ (x2 ≤ x4) →
(x3 ≤ 0 →
K55 σ) ∧
(¬ (x3 ≤ 0) →
∀ _ : I32 (σ p0 6),
(2000 ≤ ((σ p0 6) : Int) →
K55 σ) ∧
(¬ (2000 ≤ ((σ p0 6) : Int)) →
f_X4_writeRow σ p0 (p0 + 5) x1 x3 (fun σ5 =>
I32 (x4 + 1) ∧
∀ y6 : Int, y6 = x4 + 1 →
f_X4_repeatRow_u19 Q K55 p0 N σ5 x1 x2 x3 y6))))
def f_X4_repeatRow_u55 (Q : ml_St → Prop) (p0 : Int) (σ : ml_St) : Prop :=
Q σ
def f_X4_repeatRow_u16 (Q : ml_St → Prop) (p0 : Int) (σ : ml_St) (x1 : Int) (x2 : Int) (x3 : Int) : Prop :=
∃ N1, f_X4_repeatRow_u19 Q (f_X4_repeatRow_u55 Q p0) p0 N1 σ x1 x2 x3 1
def f_X4_repeatRow_u0 (Q : ml_St → Prop) (p0 : Int) (σ : ml_St) (x1 : Int) (x2 : Int) : Prop :=
∀ _ : I32 (σ p0 6),
I32 ((σ p0 6) - x1) ∧
∀ y3 : Int, y3 = (σ p0 6) - x1 →
(x2 ≠ 0 →
f_X4_repeatRow_u16 Q p0 σ x1 x2 y3) ∧
(x2 = 0 →
∀ σ5, σ5 = ml_up σ p0 6 x1 →
f_X4_repeatRow_u16 Q p0 σ5 x1 x2 y3)
def f_X4_repeatRow (σ : ml_St) (p0 : Int) (x1 : Int) (x2 : Int) (Q : ml_St → Prop) : Prop := f_X4_repeatRow_u0 Q p0 σ x1 x2
def rm_X4_repeatRow : Room := { frames := 2, cells := 0, slots := 0, locals := 84 }
set_option maxRecDepth 100000 in
set_option maxHeartbeats 4000000 in
theorem u_X4_repeatRow_19 {p : Program} {e : Env} {s : State} {m : MethodId} {args : Array Value} {below : List Frame} {meth : Method} {c : Code} {base : Nat} {D : va_G} {cA : Nat → ClassId} {n : Nat} {l : Launch} {p0 : Int} {Q : ml_St → Prop} {K55 : ml_St → Prop} (X : ml_X p s m c meth args D cA cX4_repeatRow 5 RX4 none) (hn : 214 ≤ n) (hp_p0 : ml_at n p0 (20, 8)) (hK55 : ∀ (σ : ml_St) (ls : Array Slot), lv_has ls 5 [] → K55 σ → ml_V p l e rm_X4_repeatRow s m args below meth c (MQ below (ml_Qv base D cA n Q) args s 0 0 (ml_A base)) base D cA 0 0 n n σ (F0 m 55 ls [])) : ∀ (N : Nat) (σ : ml_St) (x1 : Int) (x2 : Int) (x3 : Int) (x4 : Int) (h_x1 : I32 x1) (h_x2 : I32 x2) (h_x3 : I32 x3) (h_x4 : I32 x4) (ls : Array Slot), lv_has ls 5 [(0, .ref (base + (p0 : Int).toNat)), (1, .int (Int32.ofInt x1)), (2, .int (Int32.ofInt x2)), (3, .int (Int32.ofInt x3)), (4, .int (Int32.ofInt x4))] → f_X4_repeatRow_u19 Q K55 p0 N σ x1 x2 x3 x4 → ml_V p l e rm_X4_repeatRow s m args below meth c (MQ below (ml_Qv base D cA n Q) args s 0 0 (ml_A base)) base D cA 0 0 n n σ (F0 m 19 ls []) := by
  intro N
  induction N with
  | zero => intro σ x1 x2 x3 x4 h_x1 h_x2 h_x3 h_x4 ls hl hw; exact False.elim hw
  | succ N ih =>
    intro σ x1 x2 x3 x4 h_x1 h_x2 h_x3 h_x4 ls hl hw
    unfold f_X4_repeatRow_u19 at hw
    refine ml_iload (pc := 19) X hl 4 rfl dX4_repeatRow_19 ?_
    refine ml_iload_n (pc := 21) X hl 2 rfl rfl dX4_repeatRow_21 ?_
    refine ml_icmp_ge (pc := 22) (tgt := 55) X h_x4 h_x2 dX4_repeatRow_22 (by decide) (fun c1 => ?_) (fun c1 => ?_)
    · have hw := hw.1 c1
      exact hK55 σ   _ (lv_sub hl [] rfl) hw
    · have hw := hw.2 c1
      refine ml_iload_n (pc := 25) X hl 3 rfl rfl dX4_repeatRow_25 ?_
      refine ml_if_le (pc := 26) (tgt := 55) X h_x3 dX4_repeatRow_26 (by decide) (fun c2 => ?_) (fun c2 => ?_)
      · have hw := hw.1 c2
        exact hK55 σ   _ (lv_sub hl [] rfl) hw
      · have hw := hw.2 c2
        refine ml_aload_n (pc := 29) X hl 0 rfl rfl dX4_repeatRow_29 ?_
        refine gf_X4_97 (pc := 30) X hp_p0 dX4_repeatRow_30 (fun r3 => ?_)
        have hw := hw r3
        refine ml_sipush (pc := 33) X dX4_repeatRow_33 (by decide) ?_
        refine ml_icmp_ge (pc := 36) (tgt := 55) X r3 ⟨by decide, by decide⟩ dX4_repeatRow_36 (by decide) (fun c4 => ?_) (fun c4 => ?_)
        · have hw := hw.1 c4
          exact hK55 σ   _ (lv_sub hl [] rfl) hw
        · have hw := hw.2 c4
          refine ml_aload_n (pc := 39) X hl 0 rfl rfl dX4_repeatRow_39 ?_
          refine ml_aload_n (pc := 40) X hl 0 rfl rfl dX4_repeatRow_40 ?_
          refine gf_X4_111 (pc := 41) X hp_p0 dX4_repeatRow_41 ?_
          refine ml_iload_n (pc := 44) X hl 1 rfl rfl dX4_repeatRow_44 ?_
          refine ml_iload_n (pc := 45) X hl 3 rfl rfl dX4_repeatRow_45 ?_
          refine ml_callvS (pc := 46) (rest := []) X [.ref (base + (p0 : Int).toNat), .ref (base + ((p0 + 5) : Int).toNat), .int (Int32.ofInt x1), .int (Int32.ofInt x3)] (c_X4_writeRow l base D cA n hn σ p0 (p0 + 5) hp_p0 (ml_r20_5 hn hp_p0) x1 x3 h_x1 h_x3 _ hw) cv_X4_114 ⟨rfl, rfl⟩ ⟨by decide, by decide⟩ rfl rfl hl (Nat.le_of_ble_eq_true rfl) ⟨Nat.zero_le _, Nat.zero_le _⟩ dX4_repeatRow_46 (fun σ5 hw => ?_)
          obtain ⟨v6, hw⟩ := hw
          obtain ⟨y6, e6⟩ : ∃ y : Int, y = x4 + 1 := ⟨_, rfl⟩
          have hw := hw y6 e6
          rw [← e6] at v6
          refine ml_iinc (pc := 49) X e6 hl 4 rfl (by decide) (lst' := [(4, .int (Int32.ofInt y6)), (0, .ref (base + (p0 : Int).toNat)), (1, .int (Int32.ofInt x1)), (2, .int (Int32.ofInt x2)), (3, .int (Int32.ofInt x3))]) rfl dX4_repeatRow_49 (fun ls hl => ?_)
          refine ml_goto (pc := 52) (tgt := 19) X dX4_repeatRow_52 (by decide) ?_
          exact ih σ5 x1 x2 x3 y6 h_x1 h_x2 h_x3 v6 _ (lv_sub hl [1, 2, 3, 4, 0] rfl) hw
set_option maxRecDepth 100000 in
set_option maxHeartbeats 4000000 in
theorem u_X4_repeatRow_55 {p : Program} {e : Env} {s : State} {m : MethodId} {args : Array Value} {below : List Frame} {meth : Method} {c : Code} {base : Nat} {D : va_G} {cA : Nat → ClassId} {n : Nat} {l : Launch} {p0 : Int} {Q : ml_St → Prop} (X : ml_X p s m c meth args D cA cX4_repeatRow 5 RX4 none) (hn : 214 ≤ n) (hp_p0 : ml_at n p0 (20, 8)) (σ : ml_St) (ls : Array Slot) (hl : lv_has ls 5 []) (hw : f_X4_repeatRow_u55 Q p0 σ) : ml_V p l e rm_X4_repeatRow s m args below meth c (MQ below (ml_Qv base D cA n Q) args s 0 0 (ml_A base)) base D cA 0 0 n n σ (F0 m 55 ls []) := by
  unfold f_X4_repeatRow_u55 at hw
  exact ml_vret (pc := 55) X hw dX4_repeatRow_55
set_option maxRecDepth 100000 in
set_option maxHeartbeats 4000000 in
theorem u_X4_repeatRow_16 {p : Program} {e : Env} {s : State} {m : MethodId} {args : Array Value} {below : List Frame} {meth : Method} {c : Code} {base : Nat} {D : va_G} {cA : Nat → ClassId} {n : Nat} {l : Launch} {p0 : Int} {Q : ml_St → Prop} (X : ml_X p s m c meth args D cA cX4_repeatRow 5 RX4 none) (hn : 214 ≤ n) (hp_p0 : ml_at n p0 (20, 8)) (σ : ml_St) (x1 : Int) (x2 : Int) (x3 : Int) (h_x1 : I32 x1) (h_x2 : I32 x2) (h_x3 : I32 x3) (ls : Array Slot) (hl : lv_has ls 5 [(0, .ref (base + (p0 : Int).toNat)), (1, .int (Int32.ofInt x1)), (2, .int (Int32.ofInt x2)), (3, .int (Int32.ofInt x3))]) (hw : f_X4_repeatRow_u16 Q p0 σ x1 x2 x3) : ml_V p l e rm_X4_repeatRow s m args below meth c (MQ below (ml_Qv base D cA n Q) args s 0 0 (ml_A base)) base D cA 0 0 n n σ (F0 m 16 ls []) := by
  unfold f_X4_repeatRow_u16 at hw
  refine ml_iconst (pc := 16) X dX4_repeatRow_16 ?_
  refine ml_istore (pc := 17) X hl (by decide) (lst' := [(4, .int (Int32.ofInt 1)), (0, .ref (base + (p0 : Int).toNat)), (1, .int (Int32.ofInt x1)), (2, .int (Int32.ofInt x2)), (3, .int (Int32.ofInt x3))]) rfl dX4_repeatRow_17 (fun ls hl => ?_)
  obtain ⟨N0, hw⟩ := hw
  exact u_X4_repeatRow_19 X hn hp_p0 (fun σ   ls hl hw => u_X4_repeatRow_55 X hn hp_p0 σ   ls hl hw) N0 σ x1 x2 x3 1 h_x1 h_x2 h_x3 ⟨by decide, by decide⟩ _ (lv_sub hl [1, 2, 3, 4, 0] rfl) hw
set_option maxRecDepth 100000 in
set_option maxHeartbeats 4000000 in
theorem u_X4_repeatRow_0 {p : Program} {e : Env} {s : State} {m : MethodId} {args : Array Value} {below : List Frame} {meth : Method} {c : Code} {base : Nat} {D : va_G} {cA : Nat → ClassId} {n : Nat} {l : Launch} {p0 : Int} {Q : ml_St → Prop} (X : ml_X p s m c meth args D cA cX4_repeatRow 5 RX4 none) (hn : 214 ≤ n) (hp_p0 : ml_at n p0 (20, 8)) (σ : ml_St) (x1 : Int) (x2 : Int) (h_x1 : I32 x1) (h_x2 : I32 x2) (ls : Array Slot) (hl : lv_has ls 5 [(0, .ref (base + (p0 : Int).toNat)), (1, .int (Int32.ofInt x1)), (2, .int (Int32.ofInt x2))]) (hw : f_X4_repeatRow_u0 Q p0 σ x1 x2) : ml_V p l e rm_X4_repeatRow s m args below meth c (MQ below (ml_Qv base D cA n Q) args s 0 0 (ml_A base)) base D cA 0 0 n n σ (F0 m 0 ls []) := by
  unfold f_X4_repeatRow_u0 at hw
  refine ml_aload_n (pc := 0) X hl 0 rfl rfl dX4_repeatRow_0 ?_
  refine gf_X4_97 (pc := 1) X hp_p0 dX4_repeatRow_1 (fun r1 => ?_)
  have hw := hw r1
  refine ml_iload_n (pc := 4) X hl 1 rfl rfl dX4_repeatRow_4 ?_
  obtain ⟨v2, hw⟩ := hw
  refine ml_isub (pc := 5) X dX4_repeatRow_5 ?_
  refine ml_topI (pc := 6) (fun y3 e3 => ?_)
  have hw := hw y3 e3
  have q3 : I32 y3 := by rw [e3]; exact v2
  refine ml_istore_n (pc := 6) X rfl hl (by decide) (lst' := [(3, .int (Int32.ofInt y3)), (0, .ref (base + (p0 : Int).toNat)), (1, .int (Int32.ofInt x1)), (2, .int (Int32.ofInt x2))]) rfl dX4_repeatRow_6 (fun ls hl => ?_)
  refine ml_iload_n (pc := 7) X hl 3 rfl rfl dX4_repeatRow_7 ?_
  refine ml_if_ne (pc := 8) (tgt := 16) X h_x2 dX4_repeatRow_8 (by decide) (fun c4 => ?_) (fun c4 => ?_)
  · have hw := hw.1 c4
    exact u_X4_repeatRow_16 X hn hp_p0 σ x1 x2 y3 h_x1 h_x2 q3 _ (lv_sub hl [1, 2, 3, 0] rfl) hw
  · have hw := hw.2 c4
    refine ml_aload_n (pc := 11) X hl 1 rfl rfl dX4_repeatRow_11 ?_
    refine ml_iload_n (pc := 12) X hl 2 rfl rfl dX4_repeatRow_12 ?_
    refine pf_X4_97 (pc := 13) X hp_p0 h_x1 dX4_repeatRow_13 (fun σ5 g5 => ?_)
    have hw := hw σ5 g5
    exact u_X4_repeatRow_16 X hn hp_p0 σ5 x1 x2 y3 h_x1 h_x2 q3 _ (lv_sub hl [1, 2, 3, 0] rfl) hw
set_option maxRecDepth 100000 in
theorem c_X4_repeatRow (l : Launch) (base : Nat) (D : va_G) (cA : Nat → ClassId) (n : Nat) (hn : 214 ≤ n) (σ : ml_St) (p0 : Int) (hp_p0 : ml_at n p0 (20, 8)) (x1 : Int) (x2 : Int) (h_x1 : I32 x1) (h_x2 : I32 x2) (Q : ml_St → Prop) (hw : f_X4_repeatRow σ p0 x1 x2 Q) : Met l yX4_repeatRow (Cond.code yX4_repeatRow cX4_repeatRow 5 none :: ml_T) rm_X4_repeatRow (va_Pc [.ref (base + (p0 : Int).toNat), .int (Int32.ofInt x1), .int (Int32.ofInt x2)] (ml_U base D cA n σ)) (ml_Qv base D cA n Q) 0 0 (ml_A base) := by
  refine Met.ofW (cc := cX4_repeatRow) (maxL := 5) (ret := none) (by decide) rfl ?_
  intro p e s m args below meth c s₁ B hml hv
  obtain ⟨rfl, hP, hK, hok, hro⟩ := hv
  have X : ml_X p s m c meth _ D cA cX4_repeatRow 5 RX4 none := ⟨B.exec, B.bytes, hml, findClass_of_methodNamed B.named, fun w hw => atoms_spec (ws := Cond.code yX4_repeatRow cX4_repeatRow 5 none :: ml_T) B.pre w (List.mem_cons_of_mem _ hw), hK, B.notSynchronized, B.returns⟩
  have hl := lv_entry [.ref (base + (p0 : Int).toNat), .int (Int32.ofInt x1), .int (Int32.ofInt x2)] (n := 5) (Nat.le_of_ble_eq_true rfl)
  rw [lg_entry_eq]
  generalize (lg_sl [.ref (base + (p0 : Int).toNat), .int (Int32.ofInt x1), .int (Int32.ofInt x2)] ++ List.replicate (5 - (lg_sl [.ref (base + (p0 : Int).toNat), .int (Int32.ofInt x1), .int (Int32.ofInt x2)]).length) Slot.unset).toArray = ls at hl ⊢
  have hl : lv_has ls 5 [(0, .ref (base + (p0 : Int).toNat)), (1, .int (Int32.ofInt x1)), (2, .int (Int32.ofInt x2))] := hl
  unfold f_X4_repeatRow at hw
  exact u_X4_repeatRow_0 X hn hp_p0 σ x1 x2 h_x1 h_x2 _ (lv_sub hl [0, 1, 2] rfl) hw s.heap [] hP va_S.rf hok hro
theorem dX4_writeSign_0 : decode cX4_writeSign 0 = .ok (.aload_n 0, 1) := by decide +kernel
theorem dX4_writeSign_1 : decode cX4_writeSign 1 = .ok (.getfield 97, 3) := by decide +kernel
theorem dX4_writeSign_4 : decode cX4_writeSign 4 = .ok (.sipush 2000, 3) := by decide +kernel
theorem dX4_writeSign_7 : decode cX4_writeSign 7 = .ok (.if_icmp .ge 24, 3) := by decide +kernel
theorem dX4_writeSign_10 : decode cX4_writeSign 10 = .ok (.aload_n 0, 1) := by decide +kernel
theorem dX4_writeSign_11 : decode cX4_writeSign 11 = .ok (.getfield 111, 3) := by decide +kernel
theorem dX4_writeSign_14 : decode cX4_writeSign 14 = .ok (.aload_n 0, 1) := by decide +kernel
theorem dX4_writeSign_15 : decode cX4_writeSign 15 = .ok (.getfield 97, 3) := by decide +kernel
theorem dX4_writeSign_18 : decode cX4_writeSign 18 = .ok (.iload_n 1, 1) := by decide +kernel
theorem dX4_writeSign_19 : decode cX4_writeSign 19 = .ok (.i2b, 1) := by decide +kernel
theorem dX4_writeSign_20 : decode cX4_writeSign 20 = .ok (.bastore, 1) := by decide +kernel
theorem dX4_writeSign_21 : decode cX4_writeSign 21 = .ok (.aload_n 0, 1) := by decide +kernel
theorem dX4_writeSign_22 : decode cX4_writeSign 22 = .ok (.dup, 1) := by decide +kernel
theorem dX4_writeSign_23 : decode cX4_writeSign 23 = .ok (.getfield 97, 3) := by decide +kernel
theorem dX4_writeSign_26 : decode cX4_writeSign 26 = .ok (.iconst 1, 1) := by decide +kernel
theorem dX4_writeSign_27 : decode cX4_writeSign 27 = .ok (.iadd, 1) := by decide +kernel
theorem dX4_writeSign_28 : decode cX4_writeSign 28 = .ok (.putfield 97, 3) := by decide +kernel
theorem dX4_writeSign_31 : decode cX4_writeSign 31 = .ok (.return_, 1) := by decide +kernel
def f_X4_writeSign_u31 (Q : ml_St → Prop) (p0 : Int) (σ : ml_St) : Prop :=
Q σ
def f_X4_writeSign_u0 (Q : ml_St → Prop) (p0 : Int) (σ : ml_St) (x1 : Int) : Prop :=
∀ _ : I32 (σ p0 6),
(2000 ≤ ((σ p0 6) : Int) →
f_X4_writeSign_u31 Q p0 σ) ∧
(¬ (2000 ≤ ((σ p0 6) : Int)) →
∀ _ : I32 (σ p0 6),
(0 : Int) ≤ (σ p0 6) ∧ ((σ p0 6) : Int) < 2000 ∧
∀ σ4, σ4 = ml_up σ (p0 + 5) (σ p0 6) (b_i2b x1) →
∀ _ : I32 (σ4 p0 6),
I32 ((σ4 p0 6) + 1) ∧
∀ σ7, σ7 = ml_up σ4 p0 6 ((σ4 p0 6) + 1) →
f_X4_writeSign_u31 Q p0 σ7)
def f_X4_writeSign (σ : ml_St) (p0 : Int) (x1 : Int) (Q : ml_St → Prop) : Prop := f_X4_writeSign_u0 Q p0 σ x1
def rm_X4_writeSign : Room := { frames := 0, cells := 0, slots := 0, locals := 0 }
set_option maxRecDepth 100000 in
set_option maxHeartbeats 4000000 in
theorem u_X4_writeSign_31 {p : Program} {e : Env} {s : State} {m : MethodId} {args : Array Value} {below : List Frame} {meth : Method} {c : Code} {base : Nat} {D : va_G} {cA : Nat → ClassId} {n : Nat} {l : Launch} {p0 : Int} {Q : ml_St → Prop} (X : ml_X p s m c meth args D cA cX4_writeSign 2 RX4 none) (hn : 214 ≤ n) (hp_p0 : ml_at n p0 (20, 8)) (σ : ml_St) (ls : Array Slot) (hl : lv_has ls 2 []) (hw : f_X4_writeSign_u31 Q p0 σ) : ml_V p l e rm_X4_writeSign s m args below meth c (MQ below (ml_Qv base D cA n Q) args s 0 0 (ml_A base)) base D cA 0 0 n n σ (F0 m 31 ls []) := by
  unfold f_X4_writeSign_u31 at hw
  exact ml_vret (pc := 31) X hw dX4_writeSign_31
set_option maxRecDepth 100000 in
set_option maxHeartbeats 4000000 in
theorem u_X4_writeSign_0 {p : Program} {e : Env} {s : State} {m : MethodId} {args : Array Value} {below : List Frame} {meth : Method} {c : Code} {base : Nat} {D : va_G} {cA : Nat → ClassId} {n : Nat} {l : Launch} {p0 : Int} {Q : ml_St → Prop} (X : ml_X p s m c meth args D cA cX4_writeSign 2 RX4 none) (hn : 214 ≤ n) (hp_p0 : ml_at n p0 (20, 8)) (σ : ml_St) (x1 : Int) (h_x1 : I32 x1) (ls : Array Slot) (hl : lv_has ls 2 [(0, .ref (base + (p0 : Int).toNat)), (1, .int (Int32.ofInt x1))]) (hw : f_X4_writeSign_u0 Q p0 σ x1) : ml_V p l e rm_X4_writeSign s m args below meth c (MQ below (ml_Qv base D cA n Q) args s 0 0 (ml_A base)) base D cA 0 0 n n σ (F0 m 0 ls []) := by
  unfold f_X4_writeSign_u0 at hw
  refine ml_aload_n (pc := 0) X hl 0 rfl rfl dX4_writeSign_0 ?_
  refine gf_X4_97 (pc := 1) X hp_p0 dX4_writeSign_1 (fun r1 => ?_)
  have hw := hw r1
  refine ml_sipush (pc := 4) X dX4_writeSign_4 (by decide) ?_
  refine ml_icmp_ge (pc := 7) (tgt := 31) X r1 ⟨by decide, by decide⟩ dX4_writeSign_7 (by decide) (fun c2 => ?_) (fun c2 => ?_)
  · have hw := hw.1 c2
    exact u_X4_writeSign_31 X hn hp_p0 σ   _ (lv_sub hl [] rfl) hw
  · have hw := hw.2 c2
    refine ml_aload_n (pc := 10) X hl 0 rfl rfl dX4_writeSign_10 ?_
    refine gf_X4_111 (pc := 11) X hp_p0 dX4_writeSign_11 ?_
    refine ml_aload_n (pc := 14) X hl 0 rfl rfl dX4_writeSign_14 ?_
    refine gf_X4_97 (pc := 15) X hp_p0 dX4_writeSign_15 (fun r3 => ?_)
    have hw := hw r3
    refine ml_iload_n (pc := 18) X hl 1 rfl rfl dX4_writeSign_18 ?_
    refine ml_i2b (pc := 19) X dX4_writeSign_19 ?_
    obtain ⟨a4, b4, hw⟩ := hw
    refine ml_bast (pc := 20) (N := 2000) X (ml_r20_5 hn hp_p0) a4 b4 (b_i2b_r _) dX4_writeSign_20 (fun σ4 g4 => ?_)
    have hw := hw σ4 g4
    refine ml_aload_n (pc := 21) X hl 0 rfl rfl dX4_writeSign_21 ?_
    refine ml_dup (pc := 22) X dX4_writeSign_22 rfl ?_
    refine gf_X4_97 (pc := 23) X hp_p0 dX4_writeSign_23 (fun r5 => ?_)
    have hw := hw r5
    refine ml_iconst (pc := 26) X dX4_writeSign_26 ?_
    obtain ⟨v6, hw⟩ := hw
    refine ml_iadd (pc := 27) X dX4_writeSign_27 ?_
    refine pf_X4_97 (pc := 28) X hp_p0 v6 dX4_writeSign_28 (fun σ7 g7 => ?_)
    have hw := hw σ7 g7
    exact u_X4_writeSign_31 X hn hp_p0 σ7   _ (lv_sub hl [] rfl) hw
set_option maxRecDepth 100000 in
theorem c_X4_writeSign (l : Launch) (base : Nat) (D : va_G) (cA : Nat → ClassId) (n : Nat) (hn : 214 ≤ n) (σ : ml_St) (p0 : Int) (hp_p0 : ml_at n p0 (20, 8)) (x1 : Int) (h_x1 : I32 x1) (Q : ml_St → Prop) (hw : f_X4_writeSign σ p0 x1 Q) : Met l yX4_writeSign (Cond.code yX4_writeSign cX4_writeSign 2 none :: ml_T) rm_X4_writeSign (va_Pc [.ref (base + (p0 : Int).toNat), .int (Int32.ofInt x1)] (ml_U base D cA n σ)) (ml_Qv base D cA n Q) 0 0 (ml_A base) := by
  refine Met.ofW (cc := cX4_writeSign) (maxL := 2) (ret := none) (by decide) rfl ?_
  intro p e s m args below meth c s₁ B hml hv
  obtain ⟨rfl, hP, hK, hok, hro⟩ := hv
  have X : ml_X p s m c meth _ D cA cX4_writeSign 2 RX4 none := ⟨B.exec, B.bytes, hml, findClass_of_methodNamed B.named, fun w hw => atoms_spec (ws := Cond.code yX4_writeSign cX4_writeSign 2 none :: ml_T) B.pre w (List.mem_cons_of_mem _ hw), hK, B.notSynchronized, B.returns⟩
  have hl := lv_entry [.ref (base + (p0 : Int).toNat), .int (Int32.ofInt x1)] (n := 2) (Nat.le_of_ble_eq_true rfl)
  rw [lg_entry_eq]
  generalize (lg_sl [.ref (base + (p0 : Int).toNat), .int (Int32.ofInt x1)] ++ List.replicate (2 - (lg_sl [.ref (base + (p0 : Int).toNat), .int (Int32.ofInt x1)]).length) Slot.unset).toArray = ls at hl ⊢
  have hl : lv_has ls 2 [(0, .ref (base + (p0 : Int).toNat)), (1, .int (Int32.ofInt x1))] := hl
  unfold f_X4_writeSign at hw
  exact u_X4_writeSign_0 X hn hp_p0 σ x1 h_x1 _ (lv_sub hl [0, 1] rfl) hw s.heap [] hP va_S.rf hok hro
theorem dX4_writeOut_0 : decode cX4_writeOut 0 = .ok (.iconst 0, 1) := by decide +kernel
theorem dX4_writeOut_1 : decode cX4_writeOut 1 = .ok (.istore_n 3, 1) := by decide +kernel
theorem dX4_writeOut_2 : decode cX4_writeOut 2 = .ok (.aload_n 1, 1) := by decide +kernel
theorem dX4_writeOut_3 : decode cX4_writeOut 3 = .ok (.iconst 0, 1) := by decide +kernel
theorem dX4_writeOut_4 : decode cX4_writeOut 4 = .ok (.putfield 97, 3) := by decide +kernel
theorem dX4_writeOut_7 : decode cX4_writeOut 7 = .ok (.aload_n 0, 1) := by decide +kernel
theorem dX4_writeOut_8 : decode cX4_writeOut 8 = .ok (.getfield 12, 3) := by decide +kernel
theorem dX4_writeOut_11 : decode cX4_writeOut 11 = .ok (.aload_n 1, 1) := by decide +kernel
theorem dX4_writeOut_12 : decode cX4_writeOut 12 = .ok (.getfield 100, 3) := by decide +kernel
theorem dX4_writeOut_15 : decode cX4_writeOut 15 = .ok (.aload_n 1, 1) := by decide +kernel
theorem dX4_writeOut_16 : decode cX4_writeOut 16 = .ok (.getfield 104, 3) := by decide +kernel
theorem dX4_writeOut_19 : decode cX4_writeOut 19 = .ok (.invokevirtual 46, 3) := by decide +kernel
theorem dX4_writeOut_22 : decode cX4_writeOut 22 = .ok (.iconst 0, 1) := by decide +kernel
theorem dX4_writeOut_23 : decode cX4_writeOut 23 = .ok (.istore 4, 2) := by decide +kernel
theorem dX4_writeOut_25 : decode cX4_writeOut 25 = .ok (.iload 4, 2) := by decide +kernel
theorem dX4_writeOut_27 : decode cX4_writeOut 27 = .ok (.aload_n 1, 1) := by decide +kernel
theorem dX4_writeOut_28 : decode cX4_writeOut 28 = .ok (.getfield 104, 3) := by decide +kernel
theorem dX4_writeOut_31 : decode cX4_writeOut 31 = .ok (.if_icmp .ge 152, 3) := by decide +kernel
theorem dX4_writeOut_34 : decode cX4_writeOut 34 = .ok (.aload_n 0, 1) := by decide +kernel
theorem dX4_writeOut_35 : decode cX4_writeOut 35 = .ok (.getfield 12, 3) := by decide +kernel
theorem dX4_writeOut_38 : decode cX4_writeOut 38 = .ok (.invokevirtual 50, 3) := by decide +kernel
theorem dX4_writeOut_41 : decode cX4_writeOut 41 = .ok (.ifCond .eq 142, 3) := by decide +kernel
theorem dX4_writeOut_44 : decode cX4_writeOut 44 = .ok (.aload_n 1, 1) := by decide +kernel
theorem dX4_writeOut_45 : decode cX4_writeOut 45 = .ok (.getfield 97, 3) := by decide +kernel
theorem dX4_writeOut_48 : decode cX4_writeOut 48 = .ok (.istore 5, 2) := by decide +kernel
theorem dX4_writeOut_50 : decode cX4_writeOut 50 = .ok (.aload_n 0, 1) := by decide +kernel
theorem dX4_writeOut_51 : decode cX4_writeOut 51 = .ok (.getfield 12, 3) := by decide +kernel
theorem dX4_writeOut_54 : decode cX4_writeOut 54 = .ok (.getfield 54, 3) := by decide +kernel
theorem dX4_writeOut_57 : decode cX4_writeOut 57 = .ok (.ifCond .ne 23, 3) := by decide +kernel
theorem dX4_writeOut_60 : decode cX4_writeOut 60 = .ok (.iload_n 3, 1) := by decide +kernel
theorem dX4_writeOut_61 : decode cX4_writeOut 61 = .ok (.iconst 1, 1) := by decide +kernel
theorem dX4_writeOut_62 : decode cX4_writeOut 62 = .ok (.iadd, 1) := by decide +kernel
theorem dX4_writeOut_63 : decode cX4_writeOut 63 = .ok (.bipush 6, 2) := by decide +kernel
theorem dX4_writeOut_65 : decode cX4_writeOut 65 = .ok (.invokestatic 58, 3) := by decide +kernel
theorem dX4_writeOut_68 : decode cX4_writeOut 68 = .ok (.istore_n 3, 1) := by decide +kernel
theorem dX4_writeOut_69 : decode cX4_writeOut 69 = .ok (.aload_n 0, 1) := by decide +kernel
theorem dX4_writeOut_70 : decode cX4_writeOut 70 = .ok (.getfield 24, 3) := by decide +kernel
theorem dX4_writeOut_73 : decode cX4_writeOut 73 = .ok (.iload_n 3, 1) := by decide +kernel
theorem dX4_writeOut_74 : decode cX4_writeOut 74 = .ok (.iload 5, 2) := by decide +kernel
theorem dX4_writeOut_76 : decode cX4_writeOut 76 = .ok (.iastore, 1) := by decide +kernel
theorem dX4_writeOut_77 : decode cX4_writeOut 77 = .ok (.goto 100, 3) := by decide +kernel
theorem dX4_writeOut_80 : decode cX4_writeOut 80 = .ok (.aload_n 0, 1) := by decide +kernel
theorem dX4_writeOut_81 : decode cX4_writeOut 81 = .ok (.getfield 12, 3) := by decide +kernel
theorem dX4_writeOut_84 : decode cX4_writeOut 84 = .ok (.getfield 54, 3) := by decide +kernel
theorem dX4_writeOut_87 : decode cX4_writeOut 87 = .ok (.iconst 1, 1) := by decide +kernel
theorem dX4_writeOut_88 : decode cX4_writeOut 88 = .ok (.if_icmp .ne 22, 3) := by decide +kernel
theorem dX4_writeOut_91 : decode cX4_writeOut 91 = .ok (.aload_n 0, 1) := by decide +kernel
theorem dX4_writeOut_92 : decode cX4_writeOut 92 = .ok (.getfield 24, 3) := by decide +kernel
theorem dX4_writeOut_95 : decode cX4_writeOut 95 = .ok (.iload_n 3, 1) := by decide +kernel
theorem dX4_writeOut_96 : decode cX4_writeOut 96 = .ok (.iaload, 1) := by decide +kernel
theorem dX4_writeOut_97 : decode cX4_writeOut 97 = .ok (.istore 5, 2) := by decide +kernel
theorem dX4_writeOut_99 : decode cX4_writeOut 99 = .ok (.iload_n 3, 1) := by decide +kernel
theorem dX4_writeOut_100 : decode cX4_writeOut 100 = .ok (.iconst 1, 1) := by decide +kernel
theorem dX4_writeOut_101 : decode cX4_writeOut 101 = .ok (.isub, 1) := by decide +kernel
theorem dX4_writeOut_102 : decode cX4_writeOut 102 = .ok (.iconst 0, 1) := by decide +kernel
theorem dX4_writeOut_103 : decode cX4_writeOut 103 = .ok (.invokestatic 68, 3) := by decide +kernel
theorem dX4_writeOut_106 : decode cX4_writeOut 106 = .ok (.istore_n 3, 1) := by decide +kernel
theorem dX4_writeOut_107 : decode cX4_writeOut 107 = .ok (.goto 57, 3) := by decide +kernel
theorem dX4_writeOut_110 : decode cX4_writeOut 110 = .ok (.aload_n 0, 1) := by decide +kernel
theorem dX4_writeOut_111 : decode cX4_writeOut 111 = .ok (.getfield 12, 3) := by decide +kernel
theorem dX4_writeOut_114 : decode cX4_writeOut 114 = .ok (.getfield 54, 3) := by decide +kernel
theorem dX4_writeOut_117 : decode cX4_writeOut 117 = .ok (.iconst 2, 1) := by decide +kernel
theorem dX4_writeOut_118 : decode cX4_writeOut 118 = .ok (.if_icmp .ne 17, 3) := by decide +kernel
theorem dX4_writeOut_121 : decode cX4_writeOut 121 = .ok (.aload_n 1, 1) := by decide +kernel
theorem dX4_writeOut_122 : decode cX4_writeOut 122 = .ok (.aload_n 0, 1) := by decide +kernel
theorem dX4_writeOut_123 : decode cX4_writeOut 123 = .ok (.getfield 12, 3) := by decide +kernel
theorem dX4_writeOut_126 : decode cX4_writeOut 126 = .ok (.getfield 71, 3) := by decide +kernel
theorem dX4_writeOut_129 : decode cX4_writeOut 129 = .ok (.invokestatic 107, 3) := by decide +kernel
theorem dX4_writeOut_132 : decode cX4_writeOut 132 = .ok (.goto 32, 3) := by decide +kernel
theorem dX4_writeOut_135 : decode cX4_writeOut 135 = .ok (.aload_n 1, 1) := by decide +kernel
theorem dX4_writeOut_136 : decode cX4_writeOut 136 = .ok (.aload_n 2, 1) := by decide +kernel
theorem dX4_writeOut_137 : decode cX4_writeOut 137 = .ok (.aload_n 0, 1) := by decide +kernel
theorem dX4_writeOut_138 : decode cX4_writeOut 138 = .ok (.getfield 12, 3) := by decide +kernel
theorem dX4_writeOut_141 : decode cX4_writeOut 141 = .ok (.getfield 71, 3) := by decide +kernel
theorem dX4_writeOut_144 : decode cX4_writeOut 144 = .ok (.aaload, 1) := by decide +kernel
theorem dX4_writeOut_145 : decode cX4_writeOut 145 = .ok (.getfield 111, 3) := by decide +kernel
theorem dX4_writeOut_148 : decode cX4_writeOut 148 = .ok (.iconst 0, 1) := by decide +kernel
theorem dX4_writeOut_149 : decode cX4_writeOut 149 = .ok (.aload_n 2, 1) := by decide +kernel
theorem dX4_writeOut_150 : decode cX4_writeOut 150 = .ok (.aload_n 0, 1) := by decide +kernel
theorem dX4_writeOut_151 : decode cX4_writeOut 151 = .ok (.getfield 12, 3) := by decide +kernel
theorem dX4_writeOut_154 : decode cX4_writeOut 154 = .ok (.getfield 71, 3) := by decide +kernel
theorem dX4_writeOut_157 : decode cX4_writeOut 157 = .ok (.aaload, 1) := by decide +kernel
theorem dX4_writeOut_158 : decode cX4_writeOut 158 = .ok (.getfield 97, 3) := by decide +kernel
theorem dX4_writeOut_161 : decode cX4_writeOut 161 = .ok (.invokestatic 114, 3) := by decide +kernel
theorem dX4_writeOut_164 : decode cX4_writeOut 164 = .ok (.aload_n 1, 1) := by decide +kernel
theorem dX4_writeOut_165 : decode cX4_writeOut 165 = .ok (.iload 5, 2) := by decide +kernel
theorem dX4_writeOut_167 : decode cX4_writeOut 167 = .ok (.aload_n 0, 1) := by decide +kernel
theorem dX4_writeOut_168 : decode cX4_writeOut 168 = .ok (.getfield 12, 3) := by decide +kernel
theorem dX4_writeOut_171 : decode cX4_writeOut 171 = .ok (.getfield 83, 3) := by decide +kernel
theorem dX4_writeOut_174 : decode cX4_writeOut 174 = .ok (.invokestatic 118, 3) := by decide +kernel
theorem dX4_writeOut_177 : decode cX4_writeOut 177 = .ok (.iinc 4 1, 3) := by decide +kernel
theorem dX4_writeOut_180 : decode cX4_writeOut 180 = .ok (.goto (-155), 3) := by decide +kernel
theorem dX4_writeOut_183 : decode cX4_writeOut 183 = .ok (.aload_n 1, 1) := by decide +kernel
theorem dX4_writeOut_184 : decode cX4_writeOut 184 = .ok (.iconst 1, 1) := by decide +kernel
theorem dX4_writeOut_185 : decode cX4_writeOut 185 = .ok (.putfield 122, 3) := by decide +kernel
theorem dX4_writeOut_188 : decode cX4_writeOut 188 = .ok (.return_, 1) := by decide +kernel
def f_X4_writeOut_u177 (Q : ml_St → Prop) (K25 : ml_St → Int → Int → Prop) (p1 : Int) (σ : ml_St) (x3 : Int) (x4 : Int) : Prop :=
I32 (x4 + 1) ∧
∀ y1 : Int, y1 = x4 + 1 →
K25 σ x3 y1
def f_X4_writeOut_u164 (Q : ml_St → Prop) (K25 : ml_St → Int → Int → Prop) (p1 : Int) (σ : ml_St) (x3 : Int) (x4 : Int) (x5 : Int) : Prop :=
∀ _ : I32 (σ 9 5),
f_X4_repeatRow σ p1 x5 (σ 9 5) (fun σ2 =>
f_X4_writeOut_u177 Q K25 p1 σ2 x3 x4)
def f_X4_writeOut_u25 (Q : ml_St → Prop) (K183 : ml_St → Prop) (p1 : Int) : Nat → ml_St → Int → Int → Prop
| 0, _, _, _ => False
| N + 1, σ, x3, x4 =>
∀ _ : I32 (σ p1 1),
((σ p1 1) ≤ x4 →
K183 σ) ∧
(¬ ((σ p1 1) ≤ x4) →
f_X3_step σ (fun r3 σ3 => ∀ _ : ml_B r3,
(r3 = 0 →
K183 σ3) ∧
(r3 ≠ 0 →
∀ _ : I32 (σ3 p1 6),
∀ y6 : Int, y6 = σ3 p1 6 →
∀ _ : I32 (σ3 9 3),
(((σ3 9 3) : Int) ≠ 0 →
∀ _ : I32 (σ3 9 3),
(((σ3 9 3) : Int) ≠ 1 →
∀ _ : I32 (σ3 9 3),
(((σ3 9 3) : Int) ≠ 2 →
∀ _ : I32 (σ3 9 4),
(0 : Int) ≤ (σ3 9 4) ∧ ((σ3 9 4) : Int) < 16 ∧
∀ _ : I32 (σ3 9 4),
(0 : Int) ≤ (σ3 9 4) ∧ ((σ3 9 4) : Int) < 16 ∧
∀ _ : I32 (σ3 (119 + 6 * (σ3 9 4)) 6),
f_X4_writeRow σ3 p1 ((119 + 6 * (σ3 9 4)) + 5) 0 (σ3 (119 + 6 * (σ3 9 4)) 6) (fun σ18 =>
f_X4_writeOut_u164 Q (f_X4_writeOut_u25 Q K183 p1 N) p1 σ18 x3 x4 y6)) ∧
((σ3 9 3) = 2 →
∀ _ : I32 (σ3 9 4),
f_X4_writeSign σ3 p1 (σ3 9 4) (fun σ20 =>
f_X4_writeOut_u164 Q (f_X4_writeOut_u25 Q K183 p1 N) p1 σ20 x3 x4 y6))) ∧
((σ3 9 3) = 1 →
(0 : Int) ≤ x3 ∧ (x3 : Int) < 7 ∧
∀ _ : I32 (σ3 12 x3),
∀ y22 : Int, y22 = σ3 12 x3 →
I32 (x3 - 1) ∧
∀ y24 : Int, y24 = max (x3 - 1) 0 →
f_X4_writeOut_u164 Q (f_X4_writeOut_u25 Q K183 p1 N) p1 σ3 y24 x4 y22)) ∧
((σ3 9 3) = 0 →
I32 (x3 + 1) ∧
∀ y26 : Int, y26 = min (x3 + 1) 6 →
(0 : Int) ≤ y26 ∧ (y26 : Int) < 7 ∧
∀ σ27, σ27 = ml_up σ3 12 y26 y6 →
f_X4_writeOut_u177 Q (f_X4_writeOut_u25 Q K183 p1 N) p1 σ27 y26 x4))))
def f_X4_writeOut_u183 (Q : ml_St → Prop) (p1 : Int) (σ : ml_St) : Prop :=
∀ σ1, σ1 = ml_up σ p1 7 1 →
Q σ1
def f_X4_writeOut_u0 (Q : ml_St → Prop) (p1 : Int) (σ : ml_St) : Prop :=
∀ σ1, σ1 = ml_up σ p1 6 0 →
∀ _ : I32 (σ1 p1 1),
f_X3_begin σ1 (p1 + 1) (σ1 p1 1) (fun σ3 =>
∃ N1, f_X4_writeOut_u25 Q (f_X4_writeOut_u183 Q p1) p1 N1 σ3 0 0)
def f_X4_writeOut (σ : ml_St) (p1 : Int) (Q : ml_St → Prop) : Prop := f_X4_writeOut_u0 Q p1 σ
def rm_X4_writeOut : Room := { frames := 3, cells := 0, slots := 0, locals := 108 }
set_option maxRecDepth 100000 in
set_option maxHeartbeats 4000000 in
theorem u_X4_writeOut_177 {p : Program} {e : Env} {s : State} {m : MethodId} {args : Array Value} {below : List Frame} {meth : Method} {c : Code} {base : Nat} {D : va_G} {cA : Nat → ClassId} {n : Nat} {l : Launch} {p1 : Int} {Q : ml_St → Prop} {K25 : ml_St → Int → Int → Prop} (X : ml_X p s m c meth args D cA cX4_writeOut 6 RX4 none) (hn : 214 ≤ n) (hp_p1 : ml_at n p1 (20, 8)) (hK25 : ∀ (σ : ml_St) (x3 : Int) (x4 : Int) (h_x3 : I32 x3) (h_x4 : I32 x4) (ls : Array Slot), lv_has ls 6 [(0, .ref (base + (8 : Int).toNat)), (1, .ref (base + (p1 : Int).toNat)), (2, .ref (base + (114 : Int).toNat)), (3, .int (Int32.ofInt x3)), (4, .int (Int32.ofInt x4))] → K25 σ x3 x4 → ml_V p l e rm_X4_writeOut s m args below meth c (MQ below (ml_Qv base D cA n Q) args s 0 0 (ml_A base)) base D cA 0 0 n n σ (F0 m 25 ls [])) (σ : ml_St) (x3 : Int) (x4 : Int) (h_x3 : I32 x3) (h_x4 : I32 x4) (ls : Array Slot) (hl : lv_has ls 6 [(0, .ref (base + (8 : Int).toNat)), (1, .ref (base + (p1 : Int).toNat)), (2, .ref (base + (114 : Int).toNat)), (3, .int (Int32.ofInt x3)), (4, .int (Int32.ofInt x4))]) (hw : f_X4_writeOut_u177 Q K25 p1 σ x3 x4) : ml_V p l e rm_X4_writeOut s m args below meth c (MQ below (ml_Qv base D cA n Q) args s 0 0 (ml_A base)) base D cA 0 0 n n σ (F0 m 177 ls []) := by
  unfold f_X4_writeOut_u177 at hw
  obtain ⟨v1, hw⟩ := hw
  obtain ⟨y1, e1⟩ : ∃ y : Int, y = x4 + 1 := ⟨_, rfl⟩
  have hw := hw y1 e1
  rw [← e1] at v1
  refine ml_iinc (pc := 177) X e1 hl 4 rfl (by decide) (lst' := [(4, .int (Int32.ofInt y1)), (0, .ref (base + (8 : Int).toNat)), (1, .ref (base + (p1 : Int).toNat)), (2, .ref (base + (114 : Int).toNat)), (3, .int (Int32.ofInt x3))]) rfl dX4_writeOut_177 (fun ls hl => ?_)
  refine ml_goto (pc := 180) (tgt := 25) X dX4_writeOut_180 (by decide) ?_
  exact hK25 σ x3 y1 h_x3 v1 _ (lv_sub hl [1, 2, 3, 4, 0] rfl) hw
set_option maxRecDepth 100000 in
set_option maxHeartbeats 4000000 in
theorem u_X4_writeOut_164 {p : Program} {e : Env} {s : State} {m : MethodId} {args : Array Value} {below : List Frame} {meth : Method} {c : Code} {base : Nat} {D : va_G} {cA : Nat → ClassId} {n : Nat} {l : Launch} {p1 : Int} {Q : ml_St → Prop} {K25 : ml_St → Int → Int → Prop} (X : ml_X p s m c meth args D cA cX4_writeOut 6 RX4 none) (hn : 214 ≤ n) (hp_p1 : ml_at n p1 (20, 8)) (hK25 : ∀ (σ : ml_St) (x3 : Int) (x4 : Int) (h_x3 : I32 x3) (h_x4 : I32 x4) (ls : Array Slot), lv_has ls 6 [(0, .ref (base + (8 : Int).toNat)), (1, .ref (base + (p1 : Int).toNat)), (2, .ref (base + (114 : Int).toNat)), (3, .int (Int32.ofInt x3)), (4, .int (Int32.ofInt x4))] → K25 σ x3 x4 → ml_V p l e rm_X4_writeOut s m args below meth c (MQ below (ml_Qv base D cA n Q) args s 0 0 (ml_A base)) base D cA 0 0 n n σ (F0 m 25 ls [])) (σ : ml_St) (x3 : Int) (x4 : Int) (x5 : Int) (h_x3 : I32 x3) (h_x4 : I32 x4) (h_x5 : I32 x5) (ls : Array Slot) (hl : lv_has ls 6 [(0, .ref (base + (8 : Int).toNat)), (1, .ref (base + (p1 : Int).toNat)), (2, .ref (base + (114 : Int).toNat)), (3, .int (Int32.ofInt x3)), (4, .int (Int32.ofInt x4)), (5, .int (Int32.ofInt x5))]) (hw : f_X4_writeOut_u164 Q K25 p1 σ x3 x4 x5) : ml_V p l e rm_X4_writeOut s m args below meth c (MQ below (ml_Qv base D cA n Q) args s 0 0 (ml_A base)) base D cA 0 0 n n σ (F0 m 164 ls []) := by
  unfold f_X4_writeOut_u164 at hw
  refine ml_aload_n (pc := 164) X hl 1 rfl rfl dX4_writeOut_164 ?_
  refine ml_iload (pc := 165) X hl 5 rfl dX4_writeOut_165 ?_
  refine ml_aload_n (pc := 167) X hl 0 rfl rfl dX4_writeOut_167 ?_
  refine gf_X4_12 (pc := 168) X (ml_c8 hn) dX4_writeOut_168 ?_
  refine gf_X4_83 (pc := 171) X (ml_c9 hn) dX4_writeOut_171 (fun r1 => ?_)
  have hw := hw r1
  refine ml_callvS (pc := 174) (rest := []) X [.ref (base + (p1 : Int).toNat), .int (Int32.ofInt x5), .int (Int32.ofInt (σ 9 5))] (c_X4_repeatRow l base D cA n hn σ p1 hp_p1 x5 (σ 9 5) h_x5 r1 _ hw) cv_X4_118 ⟨rfl, rfl⟩ ⟨by decide, by decide⟩ rfl rfl hl (Nat.le_of_ble_eq_true rfl) ⟨Nat.zero_le _, Nat.zero_le _⟩ dX4_writeOut_174 (fun σ2 hw => ?_)
  exact u_X4_writeOut_177 X hn hp_p1 hK25 σ2 x3 x4 h_x3 h_x4 _ (lv_sub hl [0, 1, 2, 3, 4] rfl) hw
set_option maxRecDepth 100000 in
set_option maxHeartbeats 4000000 in
theorem u_X4_writeOut_25 {p : Program} {e : Env} {s : State} {m : MethodId} {args : Array Value} {below : List Frame} {meth : Method} {c : Code} {base : Nat} {D : va_G} {cA : Nat → ClassId} {n : Nat} {l : Launch} {p1 : Int} {Q : ml_St → Prop} {K183 : ml_St → Prop} (X : ml_X p s m c meth args D cA cX4_writeOut 6 RX4 none) (hn : 214 ≤ n) (hp_p1 : ml_at n p1 (20, 8)) (hK183 : ∀ (σ : ml_St) (ls : Array Slot), lv_has ls 6 [(1, .ref (base + (p1 : Int).toNat))] → K183 σ → ml_V p l e rm_X4_writeOut s m args below meth c (MQ below (ml_Qv base D cA n Q) args s 0 0 (ml_A base)) base D cA 0 0 n n σ (F0 m 183 ls [])) : ∀ (N : Nat) (σ : ml_St) (x3 : Int) (x4 : Int) (h_x3 : I32 x3) (h_x4 : I32 x4) (ls : Array Slot), lv_has ls 6 [(0, .ref (base + (8 : Int).toNat)), (1, .ref (base + (p1 : Int).toNat)), (2, .ref (base + (114 : Int).toNat)), (3, .int (Int32.ofInt x3)), (4, .int (Int32.ofInt x4))] → f_X4_writeOut_u25 Q K183 p1 N σ x3 x4 → ml_V p l e rm_X4_writeOut s m args below meth c (MQ below (ml_Qv base D cA n Q) args s 0 0 (ml_A base)) base D cA 0 0 n n σ (F0 m 25 ls []) := by
  intro N
  induction N with
  | zero => intro σ x3 x4 h_x3 h_x4 ls hl hw; exact False.elim hw
  | succ N ih =>
    intro σ x3 x4 h_x3 h_x4 ls hl hw
    unfold f_X4_writeOut_u25 at hw
    refine ml_iload (pc := 25) X hl 4 rfl dX4_writeOut_25 ?_
    refine ml_aload_n (pc := 27) X hl 1 rfl rfl dX4_writeOut_27 ?_
    refine gf_X4_104 (pc := 28) X hp_p1 dX4_writeOut_28 (fun r1 => ?_)
    have hw := hw r1
    refine ml_icmp_ge (pc := 31) (tgt := 183) X h_x4 r1 dX4_writeOut_31 (by decide) (fun c2 => ?_) (fun c2 => ?_)
    · have hw := hw.1 c2
      exact hK183 σ   _ (lv_sub hl [1] rfl) hw
    · have hw := hw.2 c2
      refine ml_aload_n (pc := 34) X hl 0 rfl rfl dX4_writeOut_34 ?_
      refine gf_X4_12 (pc := 35) X (ml_c8 hn) dX4_writeOut_35 ?_
      refine ml_callzV (pc := 38) (rest := []) X [] (by decide) rfl (ml_c9 hn) (c_X3_step l base D cA n hn σ _ hw) cv_X4_50 ⟨rfl, rfl⟩ ⟨by decide, by decide⟩ rfl rfl hl (Nat.le_of_ble_eq_true rfl) ⟨Nat.zero_le _, Nat.zero_le _⟩ dX4_writeOut_38 (fun r3 σ3 t3 hw => ?_)
      have hw := hw t3
      refine ml_if_eq (pc := 41) (tgt := 183) X t3.i dX4_writeOut_41 (by decide) (fun c4 => ?_) (fun c4 => ?_)
      · have hw := hw.1 c4
        exact hK183 σ3   _ (lv_sub hl [1] rfl) hw
      · have hw := hw.2 c4
        refine ml_aload_n (pc := 44) X hl 1 rfl rfl dX4_writeOut_44 ?_
        refine gf_X4_97 (pc := 45) X hp_p1 dX4_writeOut_45 (fun r5 => ?_)
        have hw := hw r5
        refine ml_topI (pc := 48) (fun y6 e6 => ?_)
        have hw := hw y6 e6
        have q6 : I32 y6 := by rw [e6]; exact r5
        refine ml_istore (pc := 48) X hl (by decide) (lst' := [(5, .int (Int32.ofInt y6)), (0, .ref (base + (8 : Int).toNat)), (1, .ref (base + (p1 : Int).toNat)), (2, .ref (base + (114 : Int).toNat)), (3, .int (Int32.ofInt x3)), (4, .int (Int32.ofInt x4))]) rfl dX4_writeOut_48 (fun ls hl => ?_)
        refine ml_aload_n (pc := 50) X hl 1 rfl rfl dX4_writeOut_50 ?_
        refine gf_X4_12 (pc := 51) X (ml_c8 hn) dX4_writeOut_51 ?_
        refine gf_X4_54 (pc := 54) X (ml_c9 hn) dX4_writeOut_54 (fun r7 => ?_)
        have hw := hw r7
        refine ml_if_ne (pc := 57) (tgt := 80) X r7 dX4_writeOut_57 (by decide) (fun c8 => ?_) (fun c8 => ?_)
        · have hw := hw.1 c8
          refine ml_aload_n (pc := 80) X hl 1 rfl rfl dX4_writeOut_80 ?_
          refine gf_X4_12 (pc := 81) X (ml_c8 hn) dX4_writeOut_81 ?_
          refine gf_X4_54 (pc := 84) X (ml_c9 hn) dX4_writeOut_84 (fun r9 => ?_)
          have hw := hw r9
          refine ml_iconst (pc := 87) X dX4_writeOut_87 ?_
          refine ml_icmp_ne (pc := 88) (tgt := 110) X r9 ⟨by decide, by decide⟩ dX4_writeOut_88 (by decide) (fun c10 => ?_) (fun c10 => ?_)
          · have hw := hw.1 c10
            refine ml_aload_n (pc := 110) X hl 1 rfl rfl dX4_writeOut_110 ?_
            refine gf_X4_12 (pc := 111) X (ml_c8 hn) dX4_writeOut_111 ?_
            refine gf_X4_54 (pc := 114) X (ml_c9 hn) dX4_writeOut_114 (fun r11 => ?_)
            have hw := hw r11
            refine ml_iconst (pc := 117) X dX4_writeOut_117 ?_
            refine ml_icmp_ne (pc := 118) (tgt := 135) X r11 ⟨by decide, by decide⟩ dX4_writeOut_118 (by decide) (fun c12 => ?_) (fun c12 => ?_)
            · have hw := hw.1 c12
              refine ml_aload_n (pc := 135) X hl 2 rfl rfl dX4_writeOut_135 ?_
              refine ml_aload_n (pc := 136) X hl 3 rfl rfl dX4_writeOut_136 ?_
              refine ml_aload_n (pc := 137) X hl 1 rfl rfl dX4_writeOut_137 ?_
              refine gf_X4_12 (pc := 138) X (ml_c8 hn) dX4_writeOut_138 ?_
              refine gf_X4_71 (pc := 141) X (ml_c9 hn) dX4_writeOut_141 (fun r13 => ?_)
              have hw := hw r13
              obtain ⟨a14, b14, hw⟩ := hw
              refine ml_aald_words (pc := 144) X hn a14 b14 dX4_writeOut_144 ?_
              refine gf_X4_111 (pc := 145) X (ml_at_words hn a14 b14) dX4_writeOut_145 ?_
              refine ml_iconst (pc := 148) X dX4_writeOut_148 ?_
              refine ml_aload_n (pc := 149) X hl 3 rfl rfl dX4_writeOut_149 ?_
              refine ml_aload_n (pc := 150) X hl 1 rfl rfl dX4_writeOut_150 ?_
              refine gf_X4_12 (pc := 151) X (ml_c8 hn) dX4_writeOut_151 ?_
              refine gf_X4_71 (pc := 154) X (ml_c9 hn) dX4_writeOut_154 (fun r15 => ?_)
              have hw := hw r15
              obtain ⟨a16, b16, hw⟩ := hw
              refine ml_aald_words (pc := 157) X hn a16 b16 dX4_writeOut_157 ?_
              refine gf_X4_97 (pc := 158) X (ml_at_words hn a16 b16) dX4_writeOut_158 (fun r17 => ?_)
              have hw := hw r17
              refine ml_callvS (pc := 161) (rest := []) X [.ref (base + (p1 : Int).toNat), .ref (base + (((119 + 6 * (σ3 9 4)) + 5) : Int).toNat), .int (Int32.ofInt 0), .int (Int32.ofInt (σ3 (119 + 6 * (σ3 9 4)) 6))] (c_X4_writeRow l base D cA n hn σ3 p1 ((119 + 6 * (σ3 9 4)) + 5) hp_p1 (ml_r20_5 hn (ml_at_words hn a14 b14)) 0 (σ3 (119 + 6 * (σ3 9 4)) 6) ⟨by decide, by decide⟩ r17 _ hw) cv_X4_114 ⟨rfl, rfl⟩ ⟨by decide, by decide⟩ rfl rfl hl (Nat.le_of_ble_eq_true rfl) ⟨Nat.zero_le _, Nat.zero_le _⟩ dX4_writeOut_161 (fun σ18 hw => ?_)
              exact u_X4_writeOut_164 X hn hp_p1 ih σ18 x3 x4 y6 h_x3 h_x4 q6 _ (lv_sub hl [1, 2, 3, 4, 5, 0] rfl) hw
            · have hw := hw.2 c12
              refine ml_aload_n (pc := 121) X hl 2 rfl rfl dX4_writeOut_121 ?_
              refine ml_aload_n (pc := 122) X hl 1 rfl rfl dX4_writeOut_122 ?_
              refine gf_X4_12 (pc := 123) X (ml_c8 hn) dX4_writeOut_123 ?_
              refine gf_X4_71 (pc := 126) X (ml_c9 hn) dX4_writeOut_126 (fun r19 => ?_)
              have hw := hw r19
              refine ml_callvS (pc := 129) (rest := []) X [.ref (base + (p1 : Int).toNat), .int (Int32.ofInt (σ3 9 4))] (c_X4_writeSign l base D cA n hn σ3 p1 hp_p1 (σ3 9 4) r19 _ hw) cv_X4_107 ⟨rfl, rfl⟩ ⟨by decide, by decide⟩ rfl rfl hl (Nat.le_of_ble_eq_true rfl) ⟨Nat.zero_le _, Nat.zero_le _⟩ dX4_writeOut_129 (fun σ20 hw => ?_)
              refine ml_goto (pc := 132) (tgt := 164) X dX4_writeOut_132 (by decide) ?_
              exact u_X4_writeOut_164 X hn hp_p1 ih σ20 x3 x4 y6 h_x3 h_x4 q6 _ (lv_sub hl [1, 2, 3, 4, 5, 0] rfl) hw
          · have hw := hw.2 c10
            refine ml_aload_n (pc := 91) X hl 1 rfl rfl dX4_writeOut_91 ?_
            refine gf_X4_24 (pc := 92) X (ml_c8 hn) dX4_writeOut_92 ?_
            refine ml_iload_n (pc := 95) X hl 4 rfl rfl dX4_writeOut_95 ?_
            obtain ⟨a21, b21, hw⟩ := hw
            refine ml_iald (pc := 96) (N := 7) X (ml_c12 hn) a21 b21 dX4_writeOut_96 (fun r21 => ?_)
            have hw := hw r21
            refine ml_topI (pc := 97) (fun y22 e22 => ?_)
            have hw := hw y22 e22
            have q22 : I32 y22 := by rw [e22]; exact r21
            refine ml_istore (pc := 97) X hl (by decide) (lst' := [(5, .int (Int32.ofInt y22)), (0, .ref (base + (8 : Int).toNat)), (1, .ref (base + (p1 : Int).toNat)), (2, .ref (base + (114 : Int).toNat)), (3, .int (Int32.ofInt x3)), (4, .int (Int32.ofInt x4))]) rfl dX4_writeOut_97 (fun ls hl => ?_)
            refine ml_iload_n (pc := 99) X hl 4 rfl rfl dX4_writeOut_99 ?_
            refine ml_iconst (pc := 100) X dX4_writeOut_100 ?_
            obtain ⟨v23, hw⟩ := hw
            refine ml_isub (pc := 101) X dX4_writeOut_101 ?_
            refine ml_iconst (pc := 102) X dX4_writeOut_102 ?_
            refine ml_mmax (pc := 103) X ⟨tw_3_44, tw_3_45, tw_1_14, tw_3_46⟩ v23 ⟨by decide, by decide⟩ ⟨Nat.zero_le _, Nat.zero_le _⟩ hl (Nat.le_of_ble_eq_true rfl) ⟨by decide, by decide⟩ dX4_writeOut_103 ?_
            refine ml_topI (pc := 106) (fun y24 e24 => ?_)
            have hw := hw y24 e24
            have q24 : I32 y24 := by rw [e24]; exact (ml_max_r v23 ⟨by decide, by decide⟩)
            refine ml_istore_n (pc := 106) X rfl hl (by decide) (lst' := [(3, .int (Int32.ofInt y24)), (5, .int (Int32.ofInt y22)), (0, .ref (base + (8 : Int).toNat)), (1, .ref (base + (p1 : Int).toNat)), (2, .ref (base + (114 : Int).toNat)), (4, .int (Int32.ofInt x4))]) rfl dX4_writeOut_106 (fun ls hl => ?_)
            refine ml_goto (pc := 107) (tgt := 164) X dX4_writeOut_107 (by decide) ?_
            exact u_X4_writeOut_164 X hn hp_p1 ih σ3 y24 x4 y22 q24 h_x4 q22 _ (lv_sub hl [2, 3, 4, 0, 5, 1] rfl) hw
        · have hw := hw.2 c8
          refine ml_iload_n (pc := 60) X hl 4 rfl rfl dX4_writeOut_60 ?_
          refine ml_iconst (pc := 61) X dX4_writeOut_61 ?_
          obtain ⟨v25, hw⟩ := hw
          refine ml_iadd (pc := 62) X dX4_writeOut_62 ?_
          refine ml_bipush (pc := 63) X dX4_writeOut_63 (by decide) ?_
          refine ml_mmin (pc := 65) X ⟨tw_3_34, tw_3_35, tw_1_14, tw_3_36⟩ v25 ⟨by decide, by decide⟩ ⟨Nat.zero_le _, Nat.zero_le _⟩ hl (Nat.le_of_ble_eq_true rfl) ⟨by decide, by decide⟩ dX4_writeOut_65 ?_
          refine ml_topI (pc := 68) (fun y26 e26 => ?_)
          have hw := hw y26 e26
          have q26 : I32 y26 := by rw [e26]; exact (ml_min_r v25 ⟨by decide, by decide⟩)
          refine ml_istore_n (pc := 68) X rfl hl (by decide) (lst' := [(3, .int (Int32.ofInt y26)), (5, .int (Int32.ofInt y6)), (0, .ref (base + (8 : Int).toNat)), (1, .ref (base + (p1 : Int).toNat)), (2, .ref (base + (114 : Int).toNat)), (4, .int (Int32.ofInt x4))]) rfl dX4_writeOut_68 (fun ls hl => ?_)
          refine ml_aload_n (pc := 69) X hl 2 rfl rfl dX4_writeOut_69 ?_
          refine gf_X4_24 (pc := 70) X (ml_c8 hn) dX4_writeOut_70 ?_
          refine ml_iload_n (pc := 73) X hl 0 rfl rfl dX4_writeOut_73 ?_
          refine ml_iload (pc := 74) X hl 1 rfl dX4_writeOut_74 ?_
          obtain ⟨a27, b27, hw⟩ := hw
          refine ml_iast (pc := 76) (N := 7) X (ml_c12 hn) a27 b27 q6 dX4_writeOut_76 (fun σ27 g27 => ?_)
          have hw := hw σ27 g27
          refine ml_goto (pc := 77) (tgt := 177) X dX4_writeOut_77 (by decide) ?_
          exact u_X4_writeOut_177 X hn hp_p1 ih σ27 y26 x4 q26 h_x4 _ (lv_sub hl [2, 3, 4, 0, 5] rfl) hw
set_option maxRecDepth 100000 in
set_option maxHeartbeats 4000000 in
theorem u_X4_writeOut_183 {p : Program} {e : Env} {s : State} {m : MethodId} {args : Array Value} {below : List Frame} {meth : Method} {c : Code} {base : Nat} {D : va_G} {cA : Nat → ClassId} {n : Nat} {l : Launch} {p1 : Int} {Q : ml_St → Prop} (X : ml_X p s m c meth args D cA cX4_writeOut 6 RX4 none) (hn : 214 ≤ n) (hp_p1 : ml_at n p1 (20, 8)) (σ : ml_St) (ls : Array Slot) (hl : lv_has ls 6 [(1, .ref (base + (p1 : Int).toNat))]) (hw : f_X4_writeOut_u183 Q p1 σ) : ml_V p l e rm_X4_writeOut s m args below meth c (MQ below (ml_Qv base D cA n Q) args s 0 0 (ml_A base)) base D cA 0 0 n n σ (F0 m 183 ls []) := by
  unfold f_X4_writeOut_u183 at hw
  refine ml_aload_n (pc := 183) X hl 0 rfl rfl dX4_writeOut_183 ?_
  refine ml_iconst (pc := 184) X dX4_writeOut_184 ?_
  refine pf_X4_122 (pc := 185) X hp_p1 ⟨by decide, by decide⟩ dX4_writeOut_185 (fun σ1 g1 => ?_)
  have hw := hw σ1 g1
  exact ml_vret (pc := 188) X hw dX4_writeOut_188
set_option maxRecDepth 100000 in
set_option maxHeartbeats 4000000 in
theorem u_X4_writeOut_0 {p : Program} {e : Env} {s : State} {m : MethodId} {args : Array Value} {below : List Frame} {meth : Method} {c : Code} {base : Nat} {D : va_G} {cA : Nat → ClassId} {n : Nat} {l : Launch} {p1 : Int} {Q : ml_St → Prop} (X : ml_X p s m c meth args D cA cX4_writeOut 6 RX4 none) (hn : 214 ≤ n) (hp_p1 : ml_at n p1 (20, 8)) (σ : ml_St) (ls : Array Slot) (hl : lv_has ls 6 [(0, .ref (base + (8 : Int).toNat)), (1, .ref (base + (p1 : Int).toNat)), (2, .ref (base + (114 : Int).toNat))]) (hw : f_X4_writeOut_u0 Q p1 σ) : ml_V p l e rm_X4_writeOut s m args below meth c (MQ below (ml_Qv base D cA n Q) args s 0 0 (ml_A base)) base D cA 0 0 n n σ (F0 m 0 ls []) := by
  unfold f_X4_writeOut_u0 at hw
  refine ml_iconst (pc := 0) X dX4_writeOut_0 ?_
  refine ml_istore_n (pc := 1) X rfl hl (by decide) (lst' := [(3, .int (Int32.ofInt 0)), (0, .ref (base + (8 : Int).toNat)), (1, .ref (base + (p1 : Int).toNat)), (2, .ref (base + (114 : Int).toNat))]) rfl dX4_writeOut_1 (fun ls hl => ?_)
  refine ml_aload_n (pc := 2) X hl 2 rfl rfl dX4_writeOut_2 ?_
  refine ml_iconst (pc := 3) X dX4_writeOut_3 ?_
  refine pf_X4_97 (pc := 4) X hp_p1 ⟨by decide, by decide⟩ dX4_writeOut_4 (fun σ1 g1 => ?_)
  have hw := hw σ1 g1
  refine ml_aload_n (pc := 7) X hl 1 rfl rfl dX4_writeOut_7 ?_
  refine gf_X4_12 (pc := 8) X (ml_c8 hn) dX4_writeOut_8 ?_
  refine ml_aload_n (pc := 11) X hl 2 rfl rfl dX4_writeOut_11 ?_
  refine gf_X4_100 (pc := 12) X hp_p1 dX4_writeOut_12 ?_
  refine ml_aload_n (pc := 15) X hl 2 rfl rfl dX4_writeOut_15 ?_
  refine gf_X4_104 (pc := 16) X hp_p1 dX4_writeOut_16 (fun r2 => ?_)
  have hw := hw r2
  refine ml_callvV (pc := 19) (rest := []) X [.ref (base + ((p1 + 1) : Int).toNat), .int (Int32.ofInt (σ1 p1 1))] (by decide) rfl (ml_c9 hn) (c_X3_begin l base D cA n hn σ1 (p1 + 1) (ml_r20_1 hn hp_p1) (σ1 p1 1) r2 _ hw) cv_X4_46 ⟨rfl, rfl⟩ ⟨by decide, by decide⟩ rfl rfl hl (Nat.le_of_ble_eq_true rfl) ⟨Nat.zero_le _, Nat.zero_le _⟩ dX4_writeOut_19 (fun σ3 hw => ?_)
  refine ml_iconst (pc := 22) X dX4_writeOut_22 ?_
  refine ml_istore (pc := 23) X hl (by decide) (lst' := [(4, .int (Int32.ofInt 0)), (3, .int (Int32.ofInt 0)), (0, .ref (base + (8 : Int).toNat)), (1, .ref (base + (p1 : Int).toNat)), (2, .ref (base + (114 : Int).toNat))]) rfl dX4_writeOut_23 (fun ls hl => ?_)
  obtain ⟨N0, hw⟩ := hw
  exact u_X4_writeOut_25 X hn hp_p1 (fun σ   ls hl hw => u_X4_writeOut_183 X hn hp_p1 σ   ls hl hw) N0 σ3 0 0 ⟨by decide, by decide⟩ ⟨by decide, by decide⟩ _ (lv_sub hl [2, 3, 4, 1, 0] rfl) hw
set_option maxRecDepth 100000 in
theorem c_X4_writeOut (l : Launch) (base : Nat) (D : va_G) (cA : Nat → ClassId) (n : Nat) (hn : 214 ≤ n) (σ : ml_St) (p1 : Int) (hp_p1 : ml_at n p1 (20, 8)) (Q : ml_St → Prop) (hw : f_X4_writeOut σ p1 Q) : Met l yX4_writeOut (Cond.code yX4_writeOut cX4_writeOut 6 none :: ml_T) rm_X4_writeOut (va_Pc [.ref (base + (8 : Int).toNat), .ref (base + (p1 : Int).toNat), .ref (base + (114 : Int).toNat)] (ml_U base D cA n σ)) (ml_Qv base D cA n Q) 0 0 (ml_A base) := by
  refine Met.ofW (cc := cX4_writeOut) (maxL := 6) (ret := none) (by decide) rfl ?_
  intro p e s m args below meth c s₁ B hml hv
  obtain ⟨rfl, hP, hK, hok, hro⟩ := hv
  have X : ml_X p s m c meth _ D cA cX4_writeOut 6 RX4 none := ⟨B.exec, B.bytes, hml, findClass_of_methodNamed B.named, fun w hw => atoms_spec (ws := Cond.code yX4_writeOut cX4_writeOut 6 none :: ml_T) B.pre w (List.mem_cons_of_mem _ hw), hK, B.notSynchronized, B.returns⟩
  have hl := lv_entry [.ref (base + (8 : Int).toNat), .ref (base + (p1 : Int).toNat), .ref (base + (114 : Int).toNat)] (n := 6) (Nat.le_of_ble_eq_true rfl)
  rw [lg_entry_eq]
  generalize (lg_sl [.ref (base + (8 : Int).toNat), .ref (base + (p1 : Int).toNat), .ref (base + (114 : Int).toNat)] ++ List.replicate (6 - (lg_sl [.ref (base + (8 : Int).toNat), .ref (base + (p1 : Int).toNat), .ref (base + (114 : Int).toNat)]).length) Slot.unset).toArray = ls at hl ⊢
  have hl : lv_has ls 6 [(0, .ref (base + (8 : Int).toNat)), (1, .ref (base + (p1 : Int).toNat)), (2, .ref (base + (114 : Int).toNat))] := hl
  unfold f_X4_writeOut at hw
  exact u_X4_writeOut_0 X hn hp_p1 σ  _ (lv_sub hl [0, 1, 2] rfl) hw s.heap [] hP va_S.rf hok hro
theorem dX11_walk_0 : decode cX11_walk 0 = .ok (.aload_n 0, 1) := by decide +kernel
theorem dX11_walk_1 : decode cX11_walk 1 = .ok (.iload_n 1, 1) := by decide +kernel
theorem dX11_walk_2 : decode cX11_walk 2 = .ok (.invokevirtual 104, 3) := by decide +kernel
theorem dX11_walk_5 : decode cX11_walk 5 = .ok (.ifCond .eq 35, 3) := by decide +kernel
theorem dX11_walk_8 : decode cX11_walk 8 = .ok (.aload_n 0, 1) := by decide +kernel
theorem dX11_walk_9 : decode cX11_walk 9 = .ok (.getfield 67, 3) := by decide +kernel
theorem dX11_walk_12 : decode cX11_walk 12 = .ok (.iload_n 1, 1) := by decide +kernel
theorem dX11_walk_13 : decode cX11_walk 13 = .ok (.aaload, 1) := by decide +kernel
theorem dX11_walk_14 : decode cX11_walk 14 = .ok (.getfield 112, 3) := by decide +kernel
theorem dX11_walk_17 : decode cX11_walk 17 = .ok (.getfield 115, 3) := by decide +kernel
theorem dX11_walk_20 : decode cX11_walk 20 = .ok (.ldc2_w 262, 3) := by decide +kernel
theorem dX11_walk_23 : decode cX11_walk 23 = .ok (.lcmp, 1) := by decide +kernel
theorem dX11_walk_24 : decode cX11_walk 24 = .ok (.ifCond .gt 16, 3) := by decide +kernel
theorem dX11_walk_27 : decode cX11_walk 27 = .ok (.aload_n 0, 1) := by decide +kernel
theorem dX11_walk_28 : decode cX11_walk 28 = .ok (.iload_n 2, 1) := by decide +kernel
theorem dX11_walk_29 : decode cX11_walk 29 = .ok (.invokevirtual 124, 3) := by decide +kernel
theorem dX11_walk_32 : decode cX11_walk 32 = .ok (.ifCond .eq 8, 3) := by decide +kernel
theorem dX11_walk_35 : decode cX11_walk 35 = .ok (.iload_n 3, 1) := by decide +kernel
theorem dX11_walk_36 : decode cX11_walk 36 = .ok (.iconst (-1), 1) := by decide +kernel
theorem dX11_walk_37 : decode cX11_walk 37 = .ok (.if_icmp .ge 5, 3) := by decide +kernel
theorem dX11_walk_40 : decode cX11_walk 40 = .ok (.iconst (-1), 1) := by decide +kernel
theorem dX11_walk_41 : decode cX11_walk 41 = .ok (.ireturn, 1) := by decide +kernel
theorem dX11_walk_42 : decode cX11_walk 42 = .ok (.iconst 0, 1) := by decide +kernel
theorem dX11_walk_43 : decode cX11_walk 43 = .ok (.istore 4, 2) := by decide +kernel
theorem dX11_walk_45 : decode cX11_walk 45 = .ok (.iload 4, 2) := by decide +kernel
theorem dX11_walk_47 : decode cX11_walk 47 = .ok (.iload_n 1, 1) := by decide +kernel
theorem dX11_walk_48 : decode cX11_walk 48 = .ok (.if_icmp .gt 40, 3) := by decide +kernel
theorem dX11_walk_51 : decode cX11_walk 51 = .ok (.aload_n 0, 1) := by decide +kernel
theorem dX11_walk_52 : decode cX11_walk 52 = .ok (.getfield 67, 3) := by decide +kernel
theorem dX11_walk_55 : decode cX11_walk 55 = .ok (.iload 4, 2) := by decide +kernel
theorem dX11_walk_57 : decode cX11_walk 57 = .ok (.aaload, 1) := by decide +kernel
theorem dX11_walk_58 : decode cX11_walk 58 = .ok (.getfield 264, 3) := by decide +kernel
theorem dX11_walk_61 : decode cX11_walk 61 = .ok (.ifCond .ne 21, 3) := by decide +kernel
theorem dX11_walk_64 : decode cX11_walk 64 = .ok (.aload_n 0, 1) := by decide +kernel
theorem dX11_walk_65 : decode cX11_walk 65 = .ok (.getfield 33, 3) := by decide +kernel
theorem dX11_walk_68 : decode cX11_walk 68 = .ok (.aload_n 0, 1) := by decide +kernel
theorem dX11_walk_69 : decode cX11_walk 69 = .ok (.getfield 67, 3) := by decide +kernel
theorem dX11_walk_72 : decode cX11_walk 72 = .ok (.iload 4, 2) := by decide +kernel
theorem dX11_walk_74 : decode cX11_walk 74 = .ok (.aaload, 1) := by decide +kernel
theorem dX11_walk_75 : decode cX11_walk 75 = .ok (.aload_n 0, 1) := by decide +kernel
theorem dX11_walk_76 : decode cX11_walk 76 = .ok (.getfield 67, 3) := by decide +kernel
theorem dX11_walk_79 : decode cX11_walk 79 = .ok (.invokevirtual 267, 3) := by decide +kernel
theorem dX11_walk_82 : decode cX11_walk 82 = .ok (.iinc 4 1, 3) := by decide +kernel
theorem dX11_walk_85 : decode cX11_walk 85 = .ok (.goto (-40), 3) := by decide +kernel
theorem dX11_walk_88 : decode cX11_walk 88 = .ok (.aload_n 0, 1) := by decide +kernel
theorem dX11_walk_89 : decode cX11_walk 89 = .ok (.getfield 67, 3) := by decide +kernel
theorem dX11_walk_92 : decode cX11_walk 92 = .ok (.iload_n 1, 1) := by decide +kernel
theorem dX11_walk_93 : decode cX11_walk 93 = .ok (.aaload, 1) := by decide +kernel
theorem dX11_walk_94 : decode cX11_walk 94 = .ok (.iload_n 2, 1) := by decide +kernel
theorem dX11_walk_95 : decode cX11_walk 95 = .ok (.iload_n 3, 1) := by decide +kernel
theorem dX11_walk_96 : decode cX11_walk 96 = .ok (.aload_n 0, 1) := by decide +kernel
theorem dX11_walk_97 : decode cX11_walk 97 = .ok (.getfield 82, 3) := by decide +kernel
theorem dX11_walk_100 : decode cX11_walk 100 = .ok (.invokevirtual 271, 3) := by decide +kernel
theorem dX11_walk_103 : decode cX11_walk 103 = .ok (.ireturn, 1) := by decide +kernel
def f_X11_walk_u40 (Q : Int → ml_St → Prop) (σ : ml_St) : Prop :=
Q (-1) σ
def f_X11_walk_u82 (Q : Int → ml_St → Prop) (K45 : ml_St → Int → Int → Int → Int → Prop) (σ : ml_St) (x1 : Int) (x2 : Int) (x3 : Int) (x4 : Int) : Prop :=
I32 (x4 + 1) ∧
∀ y1 : Int, y1 = x4 + 1 →
K45 σ x1 x2 x3 y1
def f_X11_walk_u45 (Q : Int → ml_St → Prop) (K88 : ml_St → Int → Int → Int → Prop) : Nat → ml_St → Int → Int → Int → Int → Prop
| 0, _, _, _, _, _ => False
| N + 1, σ, x1, x2, x3, x4 =>
(x1 < x4 →
K88 σ x1 x2 x3) ∧
(¬ (x1 < x4) →
(0 : Int) ≤ x4 ∧ (x4 : Int) < 16 ∧
∀ _ : ml_B (σ (119 + 6 * x4) 7),
(((σ (119 + 6 * x4) 7) : Int) ≠ 0 →
f_X11_walk_u82 Q (f_X11_walk_u45 Q K88 N) σ x1 x2 x3 x4) ∧
((σ (119 + 6 * x4) 7) = 0 →
(0 : Int) ≤ x4 ∧ (x4 : Int) < 16 ∧
f_X4_writeOut σ (119 + 6 * x4) (fun σ6 =>
f_X11_walk_u82 Q (f_X11_walk_u45 Q K88 N) σ6 x1 x2 x3 x4)))
def f_X11_walk_u88 (Q : Int → ml_St → Prop) (σ : ml_St) (x1 : Int) (x2 : Int) (x3 : Int) : Prop :=
(0 : Int) ≤ x1 ∧ (x1 : Int) < 16 ∧
∀ _ : I32 (σ 1 11),
f_X10_follow σ (119 + 6 * x1) x2 x3 (σ 1 11) (fun r3 σ3 => ∀ _ : I32 r3,
Q r3 σ3)
def f_X11_walk_u0 (Q : Int → ml_St → Prop) (σ : ml_St) (x1 : Int) (x2 : Int) (x3 : Int) : Prop :=
f_X11_isTold σ x1 (fun r1 σ1 => ∀ _ : ml_B r1,
(r1 = 0 →
f_X11_walk_u40 Q σ1) ∧
(r1 ≠ 0 →
(0 : Int) ≤ x1 ∧ (x1 : Int) < 16 ∧
∀ _ : I64 (σ1 ((119 + 6 * x1) + 2) 5),
(2000 < ((σ1 ((119 + 6 * x1) + 2) 5) : Int) →
f_X11_walk_u40 Q σ1) ∧
(¬ (2000 < ((σ1 ((119 + 6 * x1) + 2) 5) : Int)) →
f_X11_isEnd σ1 x2 (fun r6 σ6 => ∀ _ : ml_B r6,
(r6 = 0 →
f_X11_walk_u40 Q σ6) ∧
(r6 ≠ 0 →
((-1) ≤ x3 →
∃ N1, f_X11_walk_u45 Q (f_X11_walk_u88 Q) N1 σ6 x1 x2 x3 0) ∧
(¬ ((-1) ≤ x3) →
f_X11_walk_u40 Q σ6))))))
def f_X11_walk (σ : ml_St) (x1 : Int) (x2 : Int) (x3 : Int) (Q : Int → ml_St → Prop) : Prop := f_X11_walk_u0 Q σ x1 x2 x3
def rm_X11_walk : Room := { frames := 4, cells := 0, slots := 0, locals := 133 }
set_option maxRecDepth 100000 in
set_option maxHeartbeats 4000000 in
theorem u_X11_walk_40 {p : Program} {e : Env} {s : State} {m : MethodId} {args : Array Value} {below : List Frame} {meth : Method} {c : Code} {base : Nat} {D : va_G} {cA : Nat → ClassId} {n : Nat} {l : Launch} {Q : Int → ml_St → Prop} (X : ml_X p s m c meth args D cA cX11_walk 5 RX11 (some .int)) (hn : 214 ≤ n) (σ : ml_St) (ls : Array Slot) (hl : lv_has ls 5 []) (hw : f_X11_walk_u40 Q σ) : ml_V p l e rm_X11_walk s m args below meth c (MQ below (ml_Qi I32 base D cA n Q) args s 0 0 (ml_A base)) base D cA 0 0 n n σ (F0 m 40 ls []) := by
  unfold f_X11_walk_u40 at hw
  refine ml_iconst (pc := 40) X dX11_walk_40 ?_
  exact ml_iret (pc := 41) X ⟨by decide, by decide⟩ hw dX11_walk_41
set_option maxRecDepth 100000 in
set_option maxHeartbeats 4000000 in
theorem u_X11_walk_82 {p : Program} {e : Env} {s : State} {m : MethodId} {args : Array Value} {below : List Frame} {meth : Method} {c : Code} {base : Nat} {D : va_G} {cA : Nat → ClassId} {n : Nat} {l : Launch} {Q : Int → ml_St → Prop} {K45 : ml_St → Int → Int → Int → Int → Prop} (X : ml_X p s m c meth args D cA cX11_walk 5 RX11 (some .int)) (hn : 214 ≤ n) (hK45 : ∀ (σ : ml_St) (x1 : Int) (x2 : Int) (x3 : Int) (x4 : Int) (h_x1 : I32 x1) (h_x2 : I32 x2) (h_x3 : I32 x3) (h_x4 : I32 x4) (ls : Array Slot), lv_has ls 5 [(0, .ref (base + (1 : Int).toNat)), (1, .int (Int32.ofInt x1)), (2, .int (Int32.ofInt x2)), (3, .int (Int32.ofInt x3)), (4, .int (Int32.ofInt x4))] → K45 σ x1 x2 x3 x4 → ml_V p l e rm_X11_walk s m args below meth c (MQ below (ml_Qi I32 base D cA n Q) args s 0 0 (ml_A base)) base D cA 0 0 n n σ (F0 m 45 ls [])) (σ : ml_St) (x1 : Int) (x2 : Int) (x3 : Int) (x4 : Int) (h_x1 : I32 x1) (h_x2 : I32 x2) (h_x3 : I32 x3) (h_x4 : I32 x4) (ls : Array Slot) (hl : lv_has ls 5 [(0, .ref (base + (1 : Int).toNat)), (1, .int (Int32.ofInt x1)), (2, .int (Int32.ofInt x2)), (3, .int (Int32.ofInt x3)), (4, .int (Int32.ofInt x4))]) (hw : f_X11_walk_u82 Q K45 σ x1 x2 x3 x4) : ml_V p l e rm_X11_walk s m args below meth c (MQ below (ml_Qi I32 base D cA n Q) args s 0 0 (ml_A base)) base D cA 0 0 n n σ (F0 m 82 ls []) := by
  unfold f_X11_walk_u82 at hw
  obtain ⟨v1, hw⟩ := hw
  obtain ⟨y1, e1⟩ : ∃ y : Int, y = x4 + 1 := ⟨_, rfl⟩
  have hw := hw y1 e1
  rw [← e1] at v1
  refine ml_iinc (pc := 82) X e1 hl 4 rfl (by decide) (lst' := [(4, .int (Int32.ofInt y1)), (0, .ref (base + (1 : Int).toNat)), (1, .int (Int32.ofInt x1)), (2, .int (Int32.ofInt x2)), (3, .int (Int32.ofInt x3))]) rfl dX11_walk_82 (fun ls hl => ?_)
  refine ml_goto (pc := 85) (tgt := 45) X dX11_walk_85 (by decide) ?_
  exact hK45 σ x1 x2 x3 y1 h_x1 h_x2 h_x3 v1 _ (lv_sub hl [1, 2, 3, 4, 0] rfl) hw
set_option maxRecDepth 100000 in
set_option maxHeartbeats 4000000 in
theorem u_X11_walk_45 {p : Program} {e : Env} {s : State} {m : MethodId} {args : Array Value} {below : List Frame} {meth : Method} {c : Code} {base : Nat} {D : va_G} {cA : Nat → ClassId} {n : Nat} {l : Launch} {Q : Int → ml_St → Prop} {K88 : ml_St → Int → Int → Int → Prop} (X : ml_X p s m c meth args D cA cX11_walk 5 RX11 (some .int)) (hn : 214 ≤ n) (hK88 : ∀ (σ : ml_St) (x1 : Int) (x2 : Int) (x3 : Int) (h_x1 : I32 x1) (h_x2 : I32 x2) (h_x3 : I32 x3) (ls : Array Slot), lv_has ls 5 [(0, .ref (base + (1 : Int).toNat)), (1, .int (Int32.ofInt x1)), (2, .int (Int32.ofInt x2)), (3, .int (Int32.ofInt x3))] → K88 σ x1 x2 x3 → ml_V p l e rm_X11_walk s m args below meth c (MQ below (ml_Qi I32 base D cA n Q) args s 0 0 (ml_A base)) base D cA 0 0 n n σ (F0 m 88 ls [])) : ∀ (N : Nat) (σ : ml_St) (x1 : Int) (x2 : Int) (x3 : Int) (x4 : Int) (h_x1 : I32 x1) (h_x2 : I32 x2) (h_x3 : I32 x3) (h_x4 : I32 x4) (ls : Array Slot), lv_has ls 5 [(0, .ref (base + (1 : Int).toNat)), (1, .int (Int32.ofInt x1)), (2, .int (Int32.ofInt x2)), (3, .int (Int32.ofInt x3)), (4, .int (Int32.ofInt x4))] → f_X11_walk_u45 Q K88 N σ x1 x2 x3 x4 → ml_V p l e rm_X11_walk s m args below meth c (MQ below (ml_Qi I32 base D cA n Q) args s 0 0 (ml_A base)) base D cA 0 0 n n σ (F0 m 45 ls []) := by
  intro N
  induction N with
  | zero => intro σ x1 x2 x3 x4 h_x1 h_x2 h_x3 h_x4 ls hl hw; exact False.elim hw
  | succ N ih =>
    intro σ x1 x2 x3 x4 h_x1 h_x2 h_x3 h_x4 ls hl hw
    unfold f_X11_walk_u45 at hw
    refine ml_iload (pc := 45) X hl 4 rfl dX11_walk_45 ?_
    refine ml_iload_n (pc := 47) X hl 1 rfl rfl dX11_walk_47 ?_
    refine ml_icmp_gt (pc := 48) (tgt := 88) X h_x4 h_x1 dX11_walk_48 (by decide) (fun c1 => ?_) (fun c1 => ?_)
    · have hw := hw.1 c1
      exact hK88 σ x1 x2 x3 h_x1 h_x2 h_x3 _ (lv_sub hl [0, 1, 2, 3] rfl) hw
    · have hw := hw.2 c1
      refine ml_aload_n (pc := 51) X hl 0 rfl rfl dX11_walk_51 ?_
      refine gf_X11_67 (pc := 52) X (ml_c1 hn) dX11_walk_52 ?_
      refine ml_iload (pc := 55) X hl 4 rfl dX11_walk_55 ?_
      obtain ⟨a2, b2, hw⟩ := hw
      refine ml_aald_words (pc := 57) X hn a2 b2 dX11_walk_57 ?_
      refine gf_X11_264 (pc := 58) X (ml_at_words hn a2 b2) dX11_walk_58 (fun r3 => ?_)
      have hw := hw r3
      refine ml_if_ne (pc := 61) (tgt := 82) X r3.i dX11_walk_61 (by decide) (fun c4 => ?_) (fun c4 => ?_)
      · have hw := hw.1 c4
        exact u_X11_walk_82 X hn ih σ x1 x2 x3 x4 h_x1 h_x2 h_x3 h_x4 _ (lv_sub hl [0, 1, 2, 3, 4] rfl) hw
      · have hw := hw.2 c4
        refine ml_aload_n (pc := 64) X hl 0 rfl rfl dX11_walk_64 ?_
        refine gf_X11_33 (pc := 65) X (ml_c1 hn) dX11_walk_65 ?_
        refine ml_aload_n (pc := 68) X hl 0 rfl rfl dX11_walk_68 ?_
        refine gf_X11_67 (pc := 69) X (ml_c1 hn) dX11_walk_69 ?_
        refine ml_iload (pc := 72) X hl 4 rfl dX11_walk_72 ?_
        obtain ⟨a5, b5, hw⟩ := hw
        refine ml_aald_words (pc := 74) X hn a5 b5 dX11_walk_74 ?_
        refine ml_aload_n (pc := 75) X hl 0 rfl rfl dX11_walk_75 ?_
        refine gf_X11_67 (pc := 76) X (ml_c1 hn) dX11_walk_76 ?_
        refine ml_callvV (pc := 79) (rest := []) X [.ref (base + ((119 + 6 * x4) : Int).toNat), .ref (base + (114 : Int).toNat)] (by decide) rfl (ml_c8 hn) (c_X4_writeOut l base D cA n hn σ (119 + 6 * x4) (ml_at_words hn a5 b5) _ hw) cv_X11_267 ⟨rfl, rfl⟩ ⟨by decide, by decide⟩ rfl rfl hl (Nat.le_of_ble_eq_true rfl) ⟨Nat.zero_le _, Nat.zero_le _⟩ dX11_walk_79 (fun σ6 hw => ?_)
        exact u_X11_walk_82 X hn ih σ6 x1 x2 x3 x4 h_x1 h_x2 h_x3 h_x4 _ (lv_sub hl [0, 1, 2, 3, 4] rfl) hw
set_option maxRecDepth 100000 in
set_option maxHeartbeats 4000000 in
theorem u_X11_walk_88 {p : Program} {e : Env} {s : State} {m : MethodId} {args : Array Value} {below : List Frame} {meth : Method} {c : Code} {base : Nat} {D : va_G} {cA : Nat → ClassId} {n : Nat} {l : Launch} {Q : Int → ml_St → Prop} (X : ml_X p s m c meth args D cA cX11_walk 5 RX11 (some .int)) (hn : 214 ≤ n) (σ : ml_St) (x1 : Int) (x2 : Int) (x3 : Int) (h_x1 : I32 x1) (h_x2 : I32 x2) (h_x3 : I32 x3) (ls : Array Slot) (hl : lv_has ls 5 [(0, .ref (base + (1 : Int).toNat)), (1, .int (Int32.ofInt x1)), (2, .int (Int32.ofInt x2)), (3, .int (Int32.ofInt x3))]) (hw : f_X11_walk_u88 Q σ x1 x2 x3) : ml_V p l e rm_X11_walk s m args below meth c (MQ below (ml_Qi I32 base D cA n Q) args s 0 0 (ml_A base)) base D cA 0 0 n n σ (F0 m 88 ls []) := by
  unfold f_X11_walk_u88 at hw
  refine ml_aload_n (pc := 88) X hl 0 rfl rfl dX11_walk_88 ?_
  refine gf_X11_67 (pc := 89) X (ml_c1 hn) dX11_walk_89 ?_
  refine ml_iload_n (pc := 92) X hl 1 rfl rfl dX11_walk_92 ?_
  obtain ⟨a1, b1, hw⟩ := hw
  refine ml_aald_words (pc := 93) X hn a1 b1 dX11_walk_93 ?_
  refine ml_iload_n (pc := 94) X hl 2 rfl rfl dX11_walk_94 ?_
  refine ml_iload_n (pc := 95) X hl 3 rfl rfl dX11_walk_95 ?_
  refine ml_aload_n (pc := 96) X hl 0 rfl rfl dX11_walk_96 ?_
  refine gf_X11_82 (pc := 97) X (ml_c1 hn) dX11_walk_97 (fun r2 => ?_)
  have hw := hw r2
  refine ml_calliV (pc := 100) (rest := []) X [.int (Int32.ofInt x2), .int (Int32.ofInt x3), .int (Int32.ofInt (σ 1 11))] (by decide) rfl (ml_at_words hn a1 b1) (c_X10_follow l base D cA n hn σ (119 + 6 * x1) (ml_at_words hn a1 b1) x2 x3 (σ 1 11) h_x2 h_x3 r2 _ hw) cv_X11_271 ⟨rfl, rfl⟩ ⟨by decide, by decide⟩ rfl rfl hl (Nat.le_of_ble_eq_true rfl) ⟨Nat.zero_le _, Nat.zero_le _⟩ dX11_walk_100 (fun r3 σ3 t3 hw => ?_)
  have hw := hw t3
  exact ml_iret (pc := 103) X t3 hw dX11_walk_103
set_option maxRecDepth 100000 in
set_option maxHeartbeats 4000000 in
theorem u_X11_walk_0 {p : Program} {e : Env} {s : State} {m : MethodId} {args : Array Value} {below : List Frame} {meth : Method} {c : Code} {base : Nat} {D : va_G} {cA : Nat → ClassId} {n : Nat} {l : Launch} {Q : Int → ml_St → Prop} (X : ml_X p s m c meth args D cA cX11_walk 5 RX11 (some .int)) (hn : 214 ≤ n) (σ : ml_St) (x1 : Int) (x2 : Int) (x3 : Int) (h_x1 : I32 x1) (h_x2 : I32 x2) (h_x3 : I32 x3) (ls : Array Slot) (hl : lv_has ls 5 [(0, .ref (base + (1 : Int).toNat)), (1, .int (Int32.ofInt x1)), (2, .int (Int32.ofInt x2)), (3, .int (Int32.ofInt x3))]) (hw : f_X11_walk_u0 Q σ x1 x2 x3) : ml_V p l e rm_X11_walk s m args below meth c (MQ below (ml_Qi I32 base D cA n Q) args s 0 0 (ml_A base)) base D cA 0 0 n n σ (F0 m 0 ls []) := by
  unfold f_X11_walk_u0 at hw
  refine ml_aload_n (pc := 0) X hl 0 rfl rfl dX11_walk_0 ?_
  refine ml_iload_n (pc := 1) X hl 1 rfl rfl dX11_walk_1 ?_
  refine ml_callzV (pc := 2) (rest := []) X [.int (Int32.ofInt x1)] (by decide) rfl (ml_c1 hn) (c_X11_isTold l base D cA n hn σ x1 h_x1 _ hw) cv_X11_104 ⟨rfl, rfl⟩ ⟨by decide, by decide⟩ rfl rfl hl (Nat.le_of_ble_eq_true rfl) ⟨Nat.zero_le _, Nat.zero_le _⟩ dX11_walk_2 (fun r1 σ1 t1 hw => ?_)
  have hw := hw t1
  refine ml_if_eq (pc := 5) (tgt := 40) X t1.i dX11_walk_5 (by decide) (fun c2 => ?_) (fun c2 => ?_)
  · have hw := hw.1 c2
    exact u_X11_walk_40 X hn σ1   _ (lv_sub hl [] rfl) hw
  · have hw := hw.2 c2
    refine ml_aload_n (pc := 8) X hl 0 rfl rfl dX11_walk_8 ?_
    refine gf_X11_67 (pc := 9) X (ml_c1 hn) dX11_walk_9 ?_
    refine ml_iload_n (pc := 12) X hl 1 rfl rfl dX11_walk_12 ?_
    obtain ⟨a3, b3, hw⟩ := hw
    refine ml_aald_words (pc := 13) X hn a3 b3 dX11_walk_13 ?_
    refine gf_X11_112 (pc := 14) X (ml_at_words hn a3 b3) dX11_walk_14 ?_
    refine gf_X11_115 (pc := 17) X (ml_r20_2 hn (ml_at_words hn a3 b3)) dX11_walk_17 (fun r4 => ?_)
    have hw := hw r4
    refine ml_ldc2 (pc := 20) (v := 2000) X dX11_walk_20 tc_4_158 ?_
    refine ml_lcmp_gt (pc := 23) (tgt := 40) X r4 ⟨by decide, by decide⟩ dX11_walk_23 dX11_walk_24 (by decide) (fun c5 => ?_) (fun c5 => ?_)
    · have hw := hw.1 c5
      exact u_X11_walk_40 X hn σ1   _ (lv_sub hl [] rfl) hw
    · have hw := hw.2 c5
      refine ml_aload_n (pc := 27) X hl 0 rfl rfl dX11_walk_27 ?_
      refine ml_iload_n (pc := 28) X hl 2 rfl rfl dX11_walk_28 ?_
      refine ml_callzV (pc := 29) (rest := []) X [.int (Int32.ofInt x2)] (by decide) rfl (ml_c1 hn) (c_X11_isEnd l base D cA n hn σ1 x2 h_x2 _ hw) cv_X11_124 ⟨rfl, rfl⟩ ⟨by decide, by decide⟩ rfl rfl hl (Nat.le_of_ble_eq_true rfl) ⟨Nat.zero_le _, Nat.zero_le _⟩ dX11_walk_29 (fun r6 σ6 t6 hw => ?_)
      have hw := hw t6
      refine ml_if_eq (pc := 32) (tgt := 40) X t6.i dX11_walk_32 (by decide) (fun c7 => ?_) (fun c7 => ?_)
      · have hw := hw.1 c7
        exact u_X11_walk_40 X hn σ6   _ (lv_sub hl [] rfl) hw
      · have hw := hw.2 c7
        refine ml_iload_n (pc := 35) X hl 3 rfl rfl dX11_walk_35 ?_
        refine ml_iconst (pc := 36) X dX11_walk_36 ?_
        refine ml_icmp_ge (pc := 37) (tgt := 42) X h_x3 ⟨by decide, by decide⟩ dX11_walk_37 (by decide) (fun c8 => ?_) (fun c8 => ?_)
        · have hw := hw.1 c8
          refine ml_iconst (pc := 42) X dX11_walk_42 ?_
          refine ml_istore (pc := 43) X hl (by decide) (lst' := [(4, .int (Int32.ofInt 0)), (0, .ref (base + (1 : Int).toNat)), (1, .int (Int32.ofInt x1)), (2, .int (Int32.ofInt x2)), (3, .int (Int32.ofInt x3))]) rfl dX11_walk_43 (fun ls hl => ?_)
          obtain ⟨N0, hw⟩ := hw
          exact u_X11_walk_45 X hn (fun σ x1 x2 x3 h_x1 h_x2 h_x3 ls hl hw => u_X11_walk_88 X hn σ x1 x2 x3 h_x1 h_x2 h_x3 ls hl hw) N0 σ6 x1 x2 x3 0 h_x1 h_x2 h_x3 ⟨by decide, by decide⟩ _ (lv_sub hl [1, 2, 3, 4, 0] rfl) hw
        · have hw := hw.2 c8
          exact u_X11_walk_40 X hn σ6   _ (lv_sub hl [] rfl) hw
set_option maxRecDepth 100000 in
theorem c_X11_walk (l : Launch) (base : Nat) (D : va_G) (cA : Nat → ClassId) (n : Nat) (hn : 214 ≤ n) (σ : ml_St) (x1 : Int) (x2 : Int) (x3 : Int) (h_x1 : I32 x1) (h_x2 : I32 x2) (h_x3 : I32 x3) (Q : Int → ml_St → Prop) (hw : f_X11_walk σ x1 x2 x3 Q) : Met l yX11_walk (Cond.code yX11_walk cX11_walk 5 (some .int) :: ml_T) rm_X11_walk (va_Pc [.ref (base + (1 : Int).toNat), .int (Int32.ofInt x1), .int (Int32.ofInt x2), .int (Int32.ofInt x3)] (ml_U base D cA n σ)) (ml_Qi I32 base D cA n Q) 0 0 (ml_A base) := by
  refine Met.ofW (cc := cX11_walk) (maxL := 5) (ret := (some .int)) (by decide) rfl ?_
  intro p e s m args below meth c s₁ B hml hv
  obtain ⟨rfl, hP, hK, hok, hro⟩ := hv
  have X : ml_X p s m c meth _ D cA cX11_walk 5 RX11 (some .int) := ⟨B.exec, B.bytes, hml, findClass_of_methodNamed B.named, fun w hw => atoms_spec (ws := Cond.code yX11_walk cX11_walk 5 (some .int) :: ml_T) B.pre w (List.mem_cons_of_mem _ hw), hK, B.notSynchronized, B.returns⟩
  have hl := lv_entry [.ref (base + (1 : Int).toNat), .int (Int32.ofInt x1), .int (Int32.ofInt x2), .int (Int32.ofInt x3)] (n := 5) (Nat.le_of_ble_eq_true rfl)
  rw [lg_entry_eq]
  generalize (lg_sl [.ref (base + (1 : Int).toNat), .int (Int32.ofInt x1), .int (Int32.ofInt x2), .int (Int32.ofInt x3)] ++ List.replicate (5 - (lg_sl [.ref (base + (1 : Int).toNat), .int (Int32.ofInt x1), .int (Int32.ofInt x2), .int (Int32.ofInt x3)]).length) Slot.unset).toArray = ls at hl ⊢
  have hl : lv_has ls 5 [(0, .ref (base + (1 : Int).toNat)), (1, .int (Int32.ofInt x1)), (2, .int (Int32.ofInt x2)), (3, .int (Int32.ofInt x3))] := hl
  unfold f_X11_walk at hw
  exact u_X11_walk_0 X hn σ x1 x2 x3 h_x1 h_x2 h_x3 _ (lv_sub hl [0, 1, 2, 3] rfl) hw s.heap [] hP va_S.rf hok hro
theorem dX11_check_0 : decode cX11_check 0 = .ok (.aload_n 0, 1) := by decide +kernel
theorem dX11_check_1 : decode cX11_check 1 = .ok (.iload_n 1, 1) := by decide +kernel
theorem dX11_check_2 : decode cX11_check 2 = .ok (.invokevirtual 121, 3) := by decide +kernel
theorem dX11_check_5 : decode cX11_check 5 = .ok (.ifCond .eq 19, 3) := by decide +kernel
theorem dX11_check_8 : decode cX11_check 8 = .ok (.aload_n 0, 1) := by decide +kernel
theorem dX11_check_9 : decode cX11_check 9 = .ok (.getfield 10, 3) := by decide +kernel
theorem dX11_check_12 : decode cX11_check 12 = .ok (.getfield 94, 3) := by decide +kernel
theorem dX11_check_15 : decode cX11_check 15 = .ok (.iconst 2, 1) := by decide +kernel
theorem dX11_check_16 : decode cX11_check 16 = .ok (.aload_n 0, 1) := by decide +kernel
theorem dX11_check_17 : decode cX11_check 17 = .ok (.getfield 82, 3) := by decide +kernel
theorem dX11_check_20 : decode cX11_check 20 = .ok (.imul, 1) := by decide +kernel
theorem dX11_check_21 : decode cX11_check 21 = .ok (.if_icmp .ge 6, 3) := by decide +kernel
theorem dX11_check_24 : decode cX11_check 24 = .ok (.bipush (-2), 2) := by decide +kernel
theorem dX11_check_26 : decode cX11_check 26 = .ok (.ireturn, 1) := by decide +kernel
theorem dX11_check_27 : decode cX11_check 27 = .ok (.iconst (-1), 1) := by decide +kernel
theorem dX11_check_28 : decode cX11_check 28 = .ok (.istore_n 2, 1) := by decide +kernel
theorem dX11_check_29 : decode cX11_check 29 = .ok (.iconst 0, 1) := by decide +kernel
theorem dX11_check_30 : decode cX11_check 30 = .ok (.istore_n 3, 1) := by decide +kernel
theorem dX11_check_31 : decode cX11_check 31 = .ok (.iload_n 3, 1) := by decide +kernel
theorem dX11_check_32 : decode cX11_check 32 = .ok (.iconst 2, 1) := by decide +kernel
theorem dX11_check_33 : decode cX11_check 33 = .ok (.aload_n 0, 1) := by decide +kernel
theorem dX11_check_34 : decode cX11_check 34 = .ok (.getfield 82, 3) := by decide +kernel
theorem dX11_check_37 : decode cX11_check 37 = .ok (.imul, 1) := by decide +kernel
theorem dX11_check_38 : decode cX11_check 38 = .ok (.if_icmp .ge 42, 3) := by decide +kernel
theorem dX11_check_41 : decode cX11_check 41 = .ok (.iload_n 2, 1) := by decide +kernel
theorem dX11_check_42 : decode cX11_check 42 = .ok (.iconst (-1), 1) := by decide +kernel
theorem dX11_check_43 : decode cX11_check 43 = .ok (.if_icmp .ne 37, 3) := by decide +kernel
theorem dX11_check_46 : decode cX11_check 46 = .ok (.aload_n 0, 1) := by decide +kernel
theorem dX11_check_47 : decode cX11_check 47 = .ok (.getfield 10, 3) := by decide +kernel
theorem dX11_check_50 : decode cX11_check 50 = .ok (.getfield 275, 3) := by decide +kernel
theorem dX11_check_53 : decode cX11_check 53 = .ok (.iload_n 3, 1) := by decide +kernel
theorem dX11_check_54 : decode cX11_check 54 = .ok (.iaload, 1) := by decide +kernel
theorem dX11_check_55 : decode cX11_check 55 = .ok (.aload_n 0, 1) := by decide +kernel
theorem dX11_check_56 : decode cX11_check 56 = .ok (.getfield 67, 3) := by decide +kernel
theorem dX11_check_59 : decode cX11_check 59 = .ok (.iload_n 1, 1) := by decide +kernel
theorem dX11_check_60 : decode cX11_check 60 = .ok (.aaload, 1) := by decide +kernel
theorem dX11_check_61 : decode cX11_check 61 = .ok (.getfield 112, 3) := by decide +kernel
theorem dX11_check_64 : decode cX11_check 64 = .ok (.getfield 127, 3) := by decide +kernel
theorem dX11_check_67 : decode cX11_check 67 = .ok (.iload_n 3, 1) := by decide +kernel
theorem dX11_check_68 : decode cX11_check 68 = .ok (.iaload, 1) := by decide +kernel
theorem dX11_check_69 : decode cX11_check 69 = .ok (.if_icmp .eq 5, 3) := by decide +kernel
theorem dX11_check_72 : decode cX11_check 72 = .ok (.iload_n 3, 1) := by decide +kernel
theorem dX11_check_73 : decode cX11_check 73 = .ok (.istore_n 2, 1) := by decide +kernel
theorem dX11_check_74 : decode cX11_check 74 = .ok (.iinc 3 1, 3) := by decide +kernel
theorem dX11_check_77 : decode cX11_check 77 = .ok (.goto (-46), 3) := by decide +kernel
theorem dX11_check_80 : decode cX11_check 80 = .ok (.aload_n 0, 1) := by decide +kernel
theorem dX11_check_81 : decode cX11_check 81 = .ok (.getfield 10, 3) := by decide +kernel
theorem dX11_check_84 : decode cX11_check 84 = .ok (.iconst 0, 1) := by decide +kernel
theorem dX11_check_85 : decode cX11_check 85 = .ok (.putfield 94, 3) := by decide +kernel
theorem dX11_check_88 : decode cX11_check 88 = .ok (.iload_n 2, 1) := by decide +kernel
theorem dX11_check_89 : decode cX11_check 89 = .ok (.ireturn, 1) := by decide +kernel
def f_X11_check_u24 (Q : Int → ml_St → Prop) (σ : ml_St) : Prop :=
Q (-2) σ
def f_X11_check_u74 (Q : Int → ml_St → Prop) (K31 : ml_St → Int → Int → Int → Prop) (σ : ml_St) (x1 : Int) (x2 : Int) (x3 : Int) : Prop :=
I32 (x3 + 1) ∧
∀ y1 : Int, y1 = x3 + 1 →
K31 σ x1 x2 y1
def f_X11_check_u31 (Q : Int → ml_St → Prop) (K80 : ml_St → Int → Prop) : Nat → ml_St → Int → Int → Int → Prop
| 0, _, _, _, _ => False
| N + 1, σ, x1, x2, x3 =>
∀ _ : I32 (σ 1 11),
I32 (2 * (σ 1 11)) ∧
((2 * (σ 1 11)) ≤ x3 →
K80 σ x2) ∧
(¬ ((2 * (σ 1 11)) ≤ x3) →
(x2 ≠ (-1) →
K80 σ x2) ∧
(x2 = (-1) →
(0 : Int) ≤ x3 ∧ (x3 : Int) < 200 ∧
∀ _ : I32 (σ 3 x3),
(0 : Int) ≤ x1 ∧ (x1 : Int) < 16 ∧
(0 : Int) ≤ x3 ∧ (x3 : Int) < 10 ∧
∀ _ : I32 (σ (((119 + 6 * x1) + 2) + 1) x3),
(((σ 3 x3) : Int) = (σ (((119 + 6 * x1) + 2) + 1) x3) →
f_X11_check_u74 Q (f_X11_check_u31 Q K80 N) σ x1 x2 x3) ∧
((σ 3 x3) ≠ (σ (((119 + 6 * x1) + 2) + 1) x3) →
f_X11_check_u74 Q (f_X11_check_u31 Q K80 N) σ x1 x3 x3)))
def f_X11_check_u80 (Q : Int → ml_St → Prop) (σ : ml_St) (x2 : Int) : Prop :=
∀ σ1, σ1 = ml_up σ 2 1 0 →
Q x2 σ1
def f_X11_check_u0 (Q : Int → ml_St → Prop) (σ : ml_St) (x1 : Int) : Prop :=
f_X11_isMade σ x1 (fun r1 σ1 => ∀ _ : ml_B r1,
(r1 = 0 →
f_X11_check_u24 Q σ1) ∧
(r1 ≠ 0 →
∀ _ : I32 (σ1 2 1),
∀ _ : I32 (σ1 1 11),
I32 (2 * (σ1 1 11)) ∧
((2 * (σ1 1 11)) ≤ ((σ1 2 1) : Int) →
∃ N1, f_X11_check_u31 Q (f_X11_check_u80 Q) N1 σ1 x1 (-1) 0) ∧
(¬ ((2 * (σ1 1 11)) ≤ ((σ1 2 1) : Int)) →
f_X11_check_u24 Q σ1)))
def f_X11_check (σ : ml_St) (x1 : Int) (Q : Int → ml_St → Prop) : Prop := f_X11_check_u0 Q σ x1
def rm_X11_check : Room := { frames := 2, cells := 0, slots := 0, locals := 42 }
set_option maxRecDepth 100000 in
set_option maxHeartbeats 4000000 in
theorem u_X11_check_24 {p : Program} {e : Env} {s : State} {m : MethodId} {args : Array Value} {below : List Frame} {meth : Method} {c : Code} {base : Nat} {D : va_G} {cA : Nat → ClassId} {n : Nat} {l : Launch} {Q : Int → ml_St → Prop} (X : ml_X p s m c meth args D cA cX11_check 4 RX11 (some .int)) (hn : 214 ≤ n) (σ : ml_St) (ls : Array Slot) (hl : lv_has ls 4 []) (hw : f_X11_check_u24 Q σ) : ml_V p l e rm_X11_check s m args below meth c (MQ below (ml_Qi I32 base D cA n Q) args s 0 0 (ml_A base)) base D cA 0 0 n n σ (F0 m 24 ls []) := by
  unfold f_X11_check_u24 at hw
  refine ml_bipush (pc := 24) X dX11_check_24 (by decide) ?_
  exact ml_iret (pc := 26) X ⟨by decide, by decide⟩ hw dX11_check_26
set_option maxRecDepth 100000 in
set_option maxHeartbeats 4000000 in
theorem u_X11_check_74 {p : Program} {e : Env} {s : State} {m : MethodId} {args : Array Value} {below : List Frame} {meth : Method} {c : Code} {base : Nat} {D : va_G} {cA : Nat → ClassId} {n : Nat} {l : Launch} {Q : Int → ml_St → Prop} {K31 : ml_St → Int → Int → Int → Prop} (X : ml_X p s m c meth args D cA cX11_check 4 RX11 (some .int)) (hn : 214 ≤ n) (hK31 : ∀ (σ : ml_St) (x1 : Int) (x2 : Int) (x3 : Int) (h_x1 : I32 x1) (h_x2 : I32 x2) (h_x3 : I32 x3) (ls : Array Slot), lv_has ls 4 [(0, .ref (base + (1 : Int).toNat)), (1, .int (Int32.ofInt x1)), (2, .int (Int32.ofInt x2)), (3, .int (Int32.ofInt x3))] → K31 σ x1 x2 x3 → ml_V p l e rm_X11_check s m args below meth c (MQ below (ml_Qi I32 base D cA n Q) args s 0 0 (ml_A base)) base D cA 0 0 n n σ (F0 m 31 ls [])) (σ : ml_St) (x1 : Int) (x2 : Int) (x3 : Int) (h_x1 : I32 x1) (h_x2 : I32 x2) (h_x3 : I32 x3) (ls : Array Slot) (hl : lv_has ls 4 [(0, .ref (base + (1 : Int).toNat)), (1, .int (Int32.ofInt x1)), (2, .int (Int32.ofInt x2)), (3, .int (Int32.ofInt x3))]) (hw : f_X11_check_u74 Q K31 σ x1 x2 x3) : ml_V p l e rm_X11_check s m args below meth c (MQ below (ml_Qi I32 base D cA n Q) args s 0 0 (ml_A base)) base D cA 0 0 n n σ (F0 m 74 ls []) := by
  unfold f_X11_check_u74 at hw
  obtain ⟨v1, hw⟩ := hw
  obtain ⟨y1, e1⟩ : ∃ y : Int, y = x3 + 1 := ⟨_, rfl⟩
  have hw := hw y1 e1
  rw [← e1] at v1
  refine ml_iinc (pc := 74) X e1 hl 3 rfl (by decide) (lst' := [(3, .int (Int32.ofInt y1)), (0, .ref (base + (1 : Int).toNat)), (1, .int (Int32.ofInt x1)), (2, .int (Int32.ofInt x2))]) rfl dX11_check_74 (fun ls hl => ?_)
  refine ml_goto (pc := 77) (tgt := 31) X dX11_check_77 (by decide) ?_
  exact hK31 σ x1 x2 y1 h_x1 h_x2 v1 _ (lv_sub hl [1, 2, 3, 0] rfl) hw
set_option maxRecDepth 100000 in
set_option maxHeartbeats 4000000 in
theorem u_X11_check_31 {p : Program} {e : Env} {s : State} {m : MethodId} {args : Array Value} {below : List Frame} {meth : Method} {c : Code} {base : Nat} {D : va_G} {cA : Nat → ClassId} {n : Nat} {l : Launch} {Q : Int → ml_St → Prop} {K80 : ml_St → Int → Prop} (X : ml_X p s m c meth args D cA cX11_check 4 RX11 (some .int)) (hn : 214 ≤ n) (hK80 : ∀ (σ : ml_St) (x2 : Int) (h_x2 : I32 x2) (ls : Array Slot), lv_has ls 4 [(0, .ref (base + (1 : Int).toNat)), (2, .int (Int32.ofInt x2))] → K80 σ x2 → ml_V p l e rm_X11_check s m args below meth c (MQ below (ml_Qi I32 base D cA n Q) args s 0 0 (ml_A base)) base D cA 0 0 n n σ (F0 m 80 ls [])) : ∀ (N : Nat) (σ : ml_St) (x1 : Int) (x2 : Int) (x3 : Int) (h_x1 : I32 x1) (h_x2 : I32 x2) (h_x3 : I32 x3) (ls : Array Slot), lv_has ls 4 [(0, .ref (base + (1 : Int).toNat)), (1, .int (Int32.ofInt x1)), (2, .int (Int32.ofInt x2)), (3, .int (Int32.ofInt x3))] → f_X11_check_u31 Q K80 N σ x1 x2 x3 → ml_V p l e rm_X11_check s m args below meth c (MQ below (ml_Qi I32 base D cA n Q) args s 0 0 (ml_A base)) base D cA 0 0 n n σ (F0 m 31 ls []) := by
  intro N
  induction N with
  | zero => intro σ x1 x2 x3 h_x1 h_x2 h_x3 ls hl hw; exact False.elim hw
  | succ N ih =>
    intro σ x1 x2 x3 h_x1 h_x2 h_x3 ls hl hw
    unfold f_X11_check_u31 at hw
    refine ml_iload_n (pc := 31) X hl 3 rfl rfl dX11_check_31 ?_
    refine ml_iconst (pc := 32) X dX11_check_32 ?_
    refine ml_aload_n (pc := 33) X hl 0 rfl rfl dX11_check_33 ?_
    refine gf_X11_82 (pc := 34) X (ml_c1 hn) dX11_check_34 (fun r1 => ?_)
    have hw := hw r1
    obtain ⟨v2, hw⟩ := hw
    refine ml_imul (pc := 37) X dX11_check_37 ?_
    refine ml_icmp_ge (pc := 38) (tgt := 80) X h_x3 v2 dX11_check_38 (by decide) (fun c3 => ?_) (fun c3 => ?_)
    · have hw := hw.1 c3
      exact hK80 σ x2 h_x2 _ (lv_sub hl [0, 2] rfl) hw
    · have hw := hw.2 c3
      refine ml_iload_n (pc := 41) X hl 2 rfl rfl dX11_check_41 ?_
      refine ml_iconst (pc := 42) X dX11_check_42 ?_
      refine ml_icmp_ne (pc := 43) (tgt := 80) X h_x2 ⟨by decide, by decide⟩ dX11_check_43 (by decide) (fun c4 => ?_) (fun c4 => ?_)
      · have hw := hw.1 c4
        exact hK80 σ x2 h_x2 _ (lv_sub hl [0, 2] rfl) hw
      · have hw := hw.2 c4
        refine ml_aload_n (pc := 46) X hl 0 rfl rfl dX11_check_46 ?_
        refine gf_X11_10 (pc := 47) X (ml_c1 hn) dX11_check_47 ?_
        refine gf_X11_275 (pc := 50) X (ml_c2 hn) dX11_check_50 ?_
        refine ml_iload_n (pc := 53) X hl 3 rfl rfl dX11_check_53 ?_
        obtain ⟨a5, b5, hw⟩ := hw
        refine ml_iald (pc := 54) (N := 200) X (ml_c3 hn) a5 b5 dX11_check_54 (fun r5 => ?_)
        have hw := hw r5
        refine ml_aload_n (pc := 55) X hl 0 rfl rfl dX11_check_55 ?_
        refine gf_X11_67 (pc := 56) X (ml_c1 hn) dX11_check_56 ?_
        refine ml_iload_n (pc := 59) X hl 1 rfl rfl dX11_check_59 ?_
        obtain ⟨a6, b6, hw⟩ := hw
        refine ml_aald_words (pc := 60) X hn a6 b6 dX11_check_60 ?_
        refine gf_X11_112 (pc := 61) X (ml_at_words hn a6 b6) dX11_check_61 ?_
        refine gf_X11_127 (pc := 64) X (ml_r20_2 hn (ml_at_words hn a6 b6)) dX11_check_64 ?_
        refine ml_iload_n (pc := 67) X hl 3 rfl rfl dX11_check_67 ?_
        obtain ⟨a7, b7, hw⟩ := hw
        refine ml_iald (pc := 68) (N := 10) X (ml_r19_1 hn (ml_r20_2 hn (ml_at_words hn a6 b6))) a7 b7 dX11_check_68 (fun r7 => ?_)
        have hw := hw r7
        refine ml_icmp_eq (pc := 69) (tgt := 74) X r5 r7 dX11_check_69 (by decide) (fun c8 => ?_) (fun c8 => ?_)
        · have hw := hw.1 c8
          exact u_X11_check_74 X hn ih σ x1 x2 x3 h_x1 h_x2 h_x3 _ (lv_sub hl [0, 1, 2, 3] rfl) hw
        · have hw := hw.2 c8
          refine ml_iload_n (pc := 72) X hl 3 rfl rfl dX11_check_72 ?_
          refine ml_istore_n (pc := 73) X rfl hl (by decide) (lst' := [(2, .int (Int32.ofInt x3)), (0, .ref (base + (1 : Int).toNat)), (1, .int (Int32.ofInt x1)), (3, .int (Int32.ofInt x3))]) rfl dX11_check_73 (fun ls hl => ?_)
          exact u_X11_check_74 X hn ih σ x1 x3 x3 h_x1 h_x3 h_x3 _ (lv_sub hl [1, 2, 0, 3] rfl) hw
set_option maxRecDepth 100000 in
set_option maxHeartbeats 4000000 in
theorem u_X11_check_80 {p : Program} {e : Env} {s : State} {m : MethodId} {args : Array Value} {below : List Frame} {meth : Method} {c : Code} {base : Nat} {D : va_G} {cA : Nat → ClassId} {n : Nat} {l : Launch} {Q : Int → ml_St → Prop} (X : ml_X p s m c meth args D cA cX11_check 4 RX11 (some .int)) (hn : 214 ≤ n) (σ : ml_St) (x2 : Int) (h_x2 : I32 x2) (ls : Array Slot) (hl : lv_has ls 4 [(0, .ref (base + (1 : Int).toNat)), (2, .int (Int32.ofInt x2))]) (hw : f_X11_check_u80 Q σ x2) : ml_V p l e rm_X11_check s m args below meth c (MQ below (ml_Qi I32 base D cA n Q) args s 0 0 (ml_A base)) base D cA 0 0 n n σ (F0 m 80 ls []) := by
  unfold f_X11_check_u80 at hw
  refine ml_aload_n (pc := 80) X hl 0 rfl rfl dX11_check_80 ?_
  refine gf_X11_10 (pc := 81) X (ml_c1 hn) dX11_check_81 ?_
  refine ml_iconst (pc := 84) X dX11_check_84 ?_
  refine pf_X11_94 (pc := 85) X (ml_c2 hn) ⟨by decide, by decide⟩ dX11_check_85 (fun σ1 g1 => ?_)
  have hw := hw σ1 g1
  refine ml_iload_n (pc := 88) X hl 1 rfl rfl dX11_check_88 ?_
  exact ml_iret (pc := 89) X h_x2 hw dX11_check_89
set_option maxRecDepth 100000 in
set_option maxHeartbeats 4000000 in
theorem u_X11_check_0 {p : Program} {e : Env} {s : State} {m : MethodId} {args : Array Value} {below : List Frame} {meth : Method} {c : Code} {base : Nat} {D : va_G} {cA : Nat → ClassId} {n : Nat} {l : Launch} {Q : Int → ml_St → Prop} (X : ml_X p s m c meth args D cA cX11_check 4 RX11 (some .int)) (hn : 214 ≤ n) (σ : ml_St) (x1 : Int) (h_x1 : I32 x1) (ls : Array Slot) (hl : lv_has ls 4 [(0, .ref (base + (1 : Int).toNat)), (1, .int (Int32.ofInt x1))]) (hw : f_X11_check_u0 Q σ x1) : ml_V p l e rm_X11_check s m args below meth c (MQ below (ml_Qi I32 base D cA n Q) args s 0 0 (ml_A base)) base D cA 0 0 n n σ (F0 m 0 ls []) := by
  unfold f_X11_check_u0 at hw
  refine ml_aload_n (pc := 0) X hl 0 rfl rfl dX11_check_0 ?_
  refine ml_iload_n (pc := 1) X hl 1 rfl rfl dX11_check_1 ?_
  refine ml_callzV (pc := 2) (rest := []) X [.int (Int32.ofInt x1)] (by decide) rfl (ml_c1 hn) (c_X11_isMade l base D cA n hn σ x1 h_x1 _ hw) cv_X11_121 ⟨rfl, rfl⟩ ⟨by decide, by decide⟩ rfl rfl hl (Nat.le_of_ble_eq_true rfl) ⟨Nat.zero_le _, Nat.zero_le _⟩ dX11_check_2 (fun r1 σ1 t1 hw => ?_)
  have hw := hw t1
  refine ml_if_eq (pc := 5) (tgt := 24) X t1.i dX11_check_5 (by decide) (fun c2 => ?_) (fun c2 => ?_)
  · have hw := hw.1 c2
    exact u_X11_check_24 X hn σ1   _ (lv_sub hl [] rfl) hw
  · have hw := hw.2 c2
    refine ml_aload_n (pc := 8) X hl 0 rfl rfl dX11_check_8 ?_
    refine gf_X11_10 (pc := 9) X (ml_c1 hn) dX11_check_9 ?_
    refine gf_X11_94 (pc := 12) X (ml_c2 hn) dX11_check_12 (fun r3 => ?_)
    have hw := hw r3
    refine ml_iconst (pc := 15) X dX11_check_15 ?_
    refine ml_aload_n (pc := 16) X hl 0 rfl rfl dX11_check_16 ?_
    refine gf_X11_82 (pc := 17) X (ml_c1 hn) dX11_check_17 (fun r4 => ?_)
    have hw := hw r4
    obtain ⟨v5, hw⟩ := hw
    refine ml_imul (pc := 20) X dX11_check_20 ?_
    refine ml_icmp_ge (pc := 21) (tgt := 27) X r3 v5 dX11_check_21 (by decide) (fun c6 => ?_) (fun c6 => ?_)
    · have hw := hw.1 c6
      refine ml_iconst (pc := 27) X dX11_check_27 ?_
      refine ml_istore_n (pc := 28) X rfl hl (by decide) (lst' := [(2, .int (Int32.ofInt (-1))), (0, .ref (base + (1 : Int).toNat)), (1, .int (Int32.ofInt x1))]) rfl dX11_check_28 (fun ls hl => ?_)
      refine ml_iconst (pc := 29) X dX11_check_29 ?_
      refine ml_istore_n (pc := 30) X rfl hl (by decide) (lst' := [(3, .int (Int32.ofInt 0)), (2, .int (Int32.ofInt (-1))), (0, .ref (base + (1 : Int).toNat)), (1, .int (Int32.ofInt x1))]) rfl dX11_check_30 (fun ls hl => ?_)
      obtain ⟨N0, hw⟩ := hw
      exact u_X11_check_31 X hn (fun σ x2 h_x2 ls hl hw => u_X11_check_80 X hn σ x2 h_x2 ls hl hw) N0 σ1 x1 (-1) 0 h_x1 ⟨by decide, by decide⟩ ⟨by decide, by decide⟩ _ (lv_sub hl [2, 3, 1, 0] rfl) hw
    · have hw := hw.2 c6
      exact u_X11_check_24 X hn σ1   _ (lv_sub hl [] rfl) hw
set_option maxRecDepth 100000 in
theorem c_X11_check (l : Launch) (base : Nat) (D : va_G) (cA : Nat → ClassId) (n : Nat) (hn : 214 ≤ n) (σ : ml_St) (x1 : Int) (h_x1 : I32 x1) (Q : Int → ml_St → Prop) (hw : f_X11_check σ x1 Q) : Met l yX11_check (Cond.code yX11_check cX11_check 4 (some .int) :: ml_T) rm_X11_check (va_Pc [.ref (base + (1 : Int).toNat), .int (Int32.ofInt x1)] (ml_U base D cA n σ)) (ml_Qi I32 base D cA n Q) 0 0 (ml_A base) := by
  refine Met.ofW (cc := cX11_check) (maxL := 4) (ret := (some .int)) (by decide) rfl ?_
  intro p e s m args below meth c s₁ B hml hv
  obtain ⟨rfl, hP, hK, hok, hro⟩ := hv
  have X : ml_X p s m c meth _ D cA cX11_check 4 RX11 (some .int) := ⟨B.exec, B.bytes, hml, findClass_of_methodNamed B.named, fun w hw => atoms_spec (ws := Cond.code yX11_check cX11_check 4 (some .int) :: ml_T) B.pre w (List.mem_cons_of_mem _ hw), hK, B.notSynchronized, B.returns⟩
  have hl := lv_entry [.ref (base + (1 : Int).toNat), .int (Int32.ofInt x1)] (n := 4) (Nat.le_of_ble_eq_true rfl)
  rw [lg_entry_eq]
  generalize (lg_sl [.ref (base + (1 : Int).toNat), .int (Int32.ofInt x1)] ++ List.replicate (4 - (lg_sl [.ref (base + (1 : Int).toNat), .int (Int32.ofInt x1)]).length) Slot.unset).toArray = ls at hl ⊢
  have hl : lv_has ls 4 [(0, .ref (base + (1 : Int).toNat)), (1, .int (Int32.ofInt x1))] := hl
  unfold f_X11_check at hw
  exact u_X11_check_0 X hn σ x1 h_x1 _ (lv_sub hl [0, 1] rfl) hw s.heap [] hP va_S.rf hok hro
theorem dX11_count_0 : decode cX11_count 0 = .ok (.iload_n 1, 1) := by decide +kernel
theorem dX11_count_1 : decode cX11_count 1 = .ok (.tableswitch 65 0 3 #[31, 36, 41, 49], 31) := by decide +kernel
theorem dX11_count_32 : decode cX11_count 32 = .ok (.aload_n 0, 1) := by decide +kernel
theorem dX11_count_33 : decode cX11_count 33 = .ok (.getfield 82, 3) := by decide +kernel
theorem dX11_count_36 : decode cX11_count 36 = .ok (.ireturn, 1) := by decide +kernel
theorem dX11_count_37 : decode cX11_count 37 = .ok (.aload_n 0, 1) := by decide +kernel
theorem dX11_count_38 : decode cX11_count 38 = .ok (.getfield 86, 3) := by decide +kernel
theorem dX11_count_41 : decode cX11_count 41 = .ok (.ireturn, 1) := by decide +kernel
theorem dX11_count_42 : decode cX11_count 42 = .ok (.aload_n 0, 1) := by decide +kernel
theorem dX11_count_43 : decode cX11_count 43 = .ok (.getfield 10, 3) := by decide +kernel
theorem dX11_count_46 : decode cX11_count 46 = .ok (.getfield 94, 3) := by decide +kernel
theorem dX11_count_49 : decode cX11_count 49 = .ok (.ireturn, 1) := by decide +kernel
theorem dX11_count_50 : decode cX11_count 50 = .ok (.aload_n 0, 1) := by decide +kernel
theorem dX11_count_51 : decode cX11_count 51 = .ok (.getfield 19, 3) := by decide +kernel
theorem dX11_count_54 : decode cX11_count 54 = .ok (.getfield 278, 3) := by decide +kernel
theorem dX11_count_57 : decode cX11_count 57 = .ok (.ifCond .eq 7, 3) := by decide +kernel
theorem dX11_count_60 : decode cX11_count 60 = .ok (.iconst 1, 1) := by decide +kernel
theorem dX11_count_61 : decode cX11_count 61 = .ok (.goto 4, 3) := by decide +kernel
theorem dX11_count_64 : decode cX11_count 64 = .ok (.iconst 0, 1) := by decide +kernel
theorem dX11_count_65 : decode cX11_count 65 = .ok (.ireturn, 1) := by decide +kernel
theorem dX11_count_66 : decode cX11_count 66 = .ok (.iload_n 1, 1) := by decide +kernel
theorem dX11_count_67 : decode cX11_count 67 = .ok (.bipush 10, 2) := by decide +kernel
theorem dX11_count_69 : decode cX11_count 69 = .ok (.if_icmp .lt 27, 3) := by decide +kernel
theorem dX11_count_72 : decode cX11_count 72 = .ok (.aload_n 0, 1) := by decide +kernel
theorem dX11_count_73 : decode cX11_count 73 = .ok (.iload_n 1, 1) := by decide +kernel
theorem dX11_count_74 : decode cX11_count 74 = .ok (.bipush 10, 2) := by decide +kernel
theorem dX11_count_76 : decode cX11_count 76 = .ok (.isub, 1) := by decide +kernel
theorem dX11_count_77 : decode cX11_count 77 = .ok (.invokevirtual 104, 3) := by decide +kernel
theorem dX11_count_80 : decode cX11_count 80 = .ok (.ifCond .eq 16, 3) := by decide +kernel
theorem dX11_count_83 : decode cX11_count 83 = .ok (.aload_n 0, 1) := by decide +kernel
theorem dX11_count_84 : decode cX11_count 84 = .ok (.getfield 67, 3) := by decide +kernel
theorem dX11_count_87 : decode cX11_count 87 = .ok (.iload_n 1, 1) := by decide +kernel
theorem dX11_count_88 : decode cX11_count 88 = .ok (.bipush 10, 2) := by decide +kernel
theorem dX11_count_90 : decode cX11_count 90 = .ok (.isub, 1) := by decide +kernel
theorem dX11_count_91 : decode cX11_count 91 = .ok (.aaload, 1) := by decide +kernel
theorem dX11_count_92 : decode cX11_count 92 = .ok (.getfield 253, 3) := by decide +kernel
theorem dX11_count_95 : decode cX11_count 95 = .ok (.ireturn, 1) := by decide +kernel
theorem dX11_count_96 : decode cX11_count 96 = .ok (.iload_n 1, 1) := by decide +kernel
theorem dX11_count_97 : decode cX11_count 97 = .ok (.bipush 30, 2) := by decide +kernel
theorem dX11_count_99 : decode cX11_count 99 = .ok (.if_icmp .lt 29, 3) := by decide +kernel
theorem dX11_count_102 : decode cX11_count 102 = .ok (.aload_n 0, 1) := by decide +kernel
theorem dX11_count_103 : decode cX11_count 103 = .ok (.iload_n 1, 1) := by decide +kernel
theorem dX11_count_104 : decode cX11_count 104 = .ok (.bipush 30, 2) := by decide +kernel
theorem dX11_count_106 : decode cX11_count 106 = .ok (.isub, 1) := by decide +kernel
theorem dX11_count_107 : decode cX11_count 107 = .ok (.invokevirtual 104, 3) := by decide +kernel
theorem dX11_count_110 : decode cX11_count 110 = .ok (.ifCond .eq 18, 3) := by decide +kernel
theorem dX11_count_113 : decode cX11_count 113 = .ok (.aload_n 0, 1) := by decide +kernel
theorem dX11_count_114 : decode cX11_count 114 = .ok (.getfield 67, 3) := by decide +kernel
theorem dX11_count_117 : decode cX11_count 117 = .ok (.iload_n 1, 1) := by decide +kernel
theorem dX11_count_118 : decode cX11_count 118 = .ok (.bipush 30, 2) := by decide +kernel
theorem dX11_count_120 : decode cX11_count 120 = .ok (.isub, 1) := by decide +kernel
theorem dX11_count_121 : decode cX11_count 121 = .ok (.aaload, 1) := by decide +kernel
theorem dX11_count_122 : decode cX11_count 122 = .ok (.getfield 239, 3) := by decide +kernel
theorem dX11_count_125 : decode cX11_count 125 = .ok (.goto 4, 3) := by decide +kernel
theorem dX11_count_128 : decode cX11_count 128 = .ok (.iconst (-1), 1) := by decide +kernel
theorem dX11_count_129 : decode cX11_count 129 = .ok (.ireturn, 1) := by decide +kernel
def f_X11_count_u65 (Q : Int → ml_St → Prop) (σ : ml_St) (s0 : Int) : Prop :=
Q s0 σ
def f_X11_count_u129 (Q : Int → ml_St → Prop) (σ : ml_St) (s0 : Int) : Prop :=
Q s0 σ
def f_X11_count_u128 (Q : Int → ml_St → Prop) (σ : ml_St) : Prop :=
f_X11_count_u129 Q σ (-1)
def f_X11_count_u96 (Q : Int → ml_St → Prop) (σ : ml_St) (x1 : Int) : Prop :=
(x1 < 30 →
f_X11_count_u128 Q σ) ∧
(¬ (x1 < 30) →
I32 (x1 - 30) ∧
f_X11_isTold σ (x1 - 30) (fun r3 σ3 => ∀ _ : ml_B r3,
(r3 = 0 →
f_X11_count_u128 Q σ3) ∧
(r3 ≠ 0 →
I32 (x1 - 30) ∧
(0 : Int) ≤ (x1 - 30) ∧ ((x1 - 30) : Int) < 16 ∧
∀ _ : I32 (σ3 (119 + 6 * (x1 - 30)) 3),
f_X11_count_u129 Q σ3 (σ3 (119 + 6 * (x1 - 30)) 3))))
def f_X11_count_u0 (Q : Int → ml_St → Prop) (σ : ml_St) (x1 : Int) : Prop :=
(x1 = 0 →
∀ _ : I32 (σ 1 11),
Q (σ 1 11) σ) ∧
(x1 = 1 →
∀ _ : I32 (σ 1 12),
Q (σ 1 12) σ) ∧
(x1 = 2 →
∀ _ : I32 (σ 2 1),
Q (σ 2 1) σ) ∧
(x1 = 3 →
∀ _ : ml_B (σ 4 1),
(((σ 4 1) : Int) = 0 →
f_X11_count_u65 Q σ 0) ∧
((σ 4 1) ≠ 0 →
f_X11_count_u65 Q σ 1)) ∧
(x1 < 0 ∨ 3 < x1 →
(x1 < 10 →
f_X11_count_u96 Q σ x1) ∧
(¬ (x1 < 10) →
I32 (x1 - 10) ∧
f_X11_isTold σ (x1 - 10) (fun r9 σ9 => ∀ _ : ml_B r9,
(r9 = 0 →
f_X11_count_u96 Q σ9 x1) ∧
(r9 ≠ 0 →
I32 (x1 - 10) ∧
(0 : Int) ≤ (x1 - 10) ∧ ((x1 - 10) : Int) < 16 ∧
∀ _ : I32 (σ9 (119 + 6 * (x1 - 10)) 1),
Q (σ9 (119 + 6 * (x1 - 10)) 1) σ9))))
def f_X11_count (σ : ml_St) (x1 : Int) (Q : Int → ml_St → Prop) : Prop := f_X11_count_u0 Q σ x1
def rm_X11_count : Room := { frames := 1, cells := 0, slots := 0, locals := 21 }
set_option maxRecDepth 100000 in
set_option maxHeartbeats 4000000 in
theorem u_X11_count_65 {p : Program} {e : Env} {s : State} {m : MethodId} {args : Array Value} {below : List Frame} {meth : Method} {c : Code} {base : Nat} {D : va_G} {cA : Nat → ClassId} {n : Nat} {l : Launch} {Q : Int → ml_St → Prop} (X : ml_X p s m c meth args D cA cX11_count 2 RX11 (some .int)) (hn : 214 ≤ n) (σ : ml_St) (s0 : Int) (h_s0 : ml_B s0) (ls : Array Slot) (hl : lv_has ls 2 []) (hw : f_X11_count_u65 Q σ s0) : ml_V p l e rm_X11_count s m args below meth c (MQ below (ml_Qi I32 base D cA n Q) args s 0 0 (ml_A base)) base D cA 0 0 n n σ (F0 m 65 ls [.int (Int32.ofInt s0)]) := by
  unfold f_X11_count_u65 at hw
  exact ml_iret (pc := 65) X h_s0.i hw dX11_count_65
set_option maxRecDepth 100000 in
set_option maxHeartbeats 4000000 in
theorem u_X11_count_129 {p : Program} {e : Env} {s : State} {m : MethodId} {args : Array Value} {below : List Frame} {meth : Method} {c : Code} {base : Nat} {D : va_G} {cA : Nat → ClassId} {n : Nat} {l : Launch} {Q : Int → ml_St → Prop} (X : ml_X p s m c meth args D cA cX11_count 2 RX11 (some .int)) (hn : 214 ≤ n) (σ : ml_St) (s0 : Int) (h_s0 : I32 s0) (ls : Array Slot) (hl : lv_has ls 2 []) (hw : f_X11_count_u129 Q σ s0) : ml_V p l e rm_X11_count s m args below meth c (MQ below (ml_Qi I32 base D cA n Q) args s 0 0 (ml_A base)) base D cA 0 0 n n σ (F0 m 129 ls [.int (Int32.ofInt s0)]) := by
  unfold f_X11_count_u129 at hw
  exact ml_iret (pc := 129) X h_s0 hw dX11_count_129
set_option maxRecDepth 100000 in
set_option maxHeartbeats 4000000 in
theorem u_X11_count_128 {p : Program} {e : Env} {s : State} {m : MethodId} {args : Array Value} {below : List Frame} {meth : Method} {c : Code} {base : Nat} {D : va_G} {cA : Nat → ClassId} {n : Nat} {l : Launch} {Q : Int → ml_St → Prop} (X : ml_X p s m c meth args D cA cX11_count 2 RX11 (some .int)) (hn : 214 ≤ n) (σ : ml_St) (ls : Array Slot) (hl : lv_has ls 2 []) (hw : f_X11_count_u128 Q σ) : ml_V p l e rm_X11_count s m args below meth c (MQ below (ml_Qi I32 base D cA n Q) args s 0 0 (ml_A base)) base D cA 0 0 n n σ (F0 m 128 ls []) := by
  unfold f_X11_count_u128 at hw
  refine ml_iconst (pc := 128) X dX11_count_128 ?_
  exact u_X11_count_129 X hn σ (-1) ⟨by decide, by decide⟩ _ (lv_sub hl [] rfl) hw
set_option maxRecDepth 100000 in
set_option maxHeartbeats 4000000 in
theorem u_X11_count_96 {p : Program} {e : Env} {s : State} {m : MethodId} {args : Array Value} {below : List Frame} {meth : Method} {c : Code} {base : Nat} {D : va_G} {cA : Nat → ClassId} {n : Nat} {l : Launch} {Q : Int → ml_St → Prop} (X : ml_X p s m c meth args D cA cX11_count 2 RX11 (some .int)) (hn : 214 ≤ n) (σ : ml_St) (x1 : Int) (h_x1 : I32 x1) (ls : Array Slot) (hl : lv_has ls 2 [(0, .ref (base + (1 : Int).toNat)), (1, .int (Int32.ofInt x1))]) (hw : f_X11_count_u96 Q σ x1) : ml_V p l e rm_X11_count s m args below meth c (MQ below (ml_Qi I32 base D cA n Q) args s 0 0 (ml_A base)) base D cA 0 0 n n σ (F0 m 96 ls []) := by
  unfold f_X11_count_u96 at hw
  refine ml_iload_n (pc := 96) X hl 1 rfl rfl dX11_count_96 ?_
  refine ml_bipush (pc := 97) X dX11_count_97 (by decide) ?_
  refine ml_icmp_lt (pc := 99) (tgt := 128) X h_x1 ⟨by decide, by decide⟩ dX11_count_99 (by decide) (fun c1 => ?_) (fun c1 => ?_)
  · have hw := hw.1 c1
    exact u_X11_count_128 X hn σ   _ (lv_sub hl [] rfl) hw
  · have hw := hw.2 c1
    refine ml_aload_n (pc := 102) X hl 0 rfl rfl dX11_count_102 ?_
    refine ml_iload_n (pc := 103) X hl 1 rfl rfl dX11_count_103 ?_
    refine ml_bipush (pc := 104) X dX11_count_104 (by decide) ?_
    obtain ⟨v2, hw⟩ := hw
    refine ml_isub (pc := 106) X dX11_count_106 ?_
    refine ml_callzV (pc := 107) (rest := []) X [.int (Int32.ofInt (x1 - 30))] (by decide) rfl (ml_c1 hn) (c_X11_isTold l base D cA n hn σ (x1 - 30) v2 _ hw) cv_X11_104 ⟨rfl, rfl⟩ ⟨by decide, by decide⟩ rfl rfl hl (Nat.le_of_ble_eq_true rfl) ⟨Nat.zero_le _, Nat.zero_le _⟩ dX11_count_107 (fun r3 σ3 t3 hw => ?_)
    have hw := hw t3
    refine ml_if_eq (pc := 110) (tgt := 128) X t3.i dX11_count_110 (by decide) (fun c4 => ?_) (fun c4 => ?_)
    · have hw := hw.1 c4
      exact u_X11_count_128 X hn σ3   _ (lv_sub hl [] rfl) hw
    · have hw := hw.2 c4
      refine ml_aload_n (pc := 113) X hl 0 rfl rfl dX11_count_113 ?_
      refine gf_X11_67 (pc := 114) X (ml_c1 hn) dX11_count_114 ?_
      refine ml_iload_n (pc := 117) X hl 1 rfl rfl dX11_count_117 ?_
      refine ml_bipush (pc := 118) X dX11_count_118 (by decide) ?_
      obtain ⟨v5, hw⟩ := hw
      refine ml_isub (pc := 120) X dX11_count_120 ?_
      obtain ⟨a6, b6, hw⟩ := hw
      refine ml_aald_words (pc := 121) X hn a6 b6 dX11_count_121 ?_
      refine gf_X11_239 (pc := 122) X (ml_at_words hn a6 b6) dX11_count_122 (fun r7 => ?_)
      have hw := hw r7
      refine ml_goto (pc := 125) (tgt := 129) X dX11_count_125 (by decide) ?_
      exact u_X11_count_129 X hn σ3 (σ3 (119 + 6 * (x1 - 30)) 3) r7 _ (lv_sub hl [] rfl) hw
set_option maxRecDepth 100000 in
set_option maxHeartbeats 4000000 in
theorem u_X11_count_0 {p : Program} {e : Env} {s : State} {m : MethodId} {args : Array Value} {below : List Frame} {meth : Method} {c : Code} {base : Nat} {D : va_G} {cA : Nat → ClassId} {n : Nat} {l : Launch} {Q : Int → ml_St → Prop} (X : ml_X p s m c meth args D cA cX11_count 2 RX11 (some .int)) (hn : 214 ≤ n) (σ : ml_St) (x1 : Int) (h_x1 : I32 x1) (ls : Array Slot) (hl : lv_has ls 2 [(0, .ref (base + (1 : Int).toNat)), (1, .int (Int32.ofInt x1))]) (hw : f_X11_count_u0 Q σ x1) : ml_V p l e rm_X11_count s m args below meth c (MQ below (ml_Qi I32 base D cA n Q) args s 0 0 (ml_A base)) base D cA 0 0 n n σ (F0 m 0 ls []) := by
  unfold f_X11_count_u0 at hw
  refine ml_iload_n (pc := 0) X hl 1 rfl rfl dX11_count_0 ?_
  rcases (show x1 = 0 ∨ x1 = 1 ∨ x1 = 2 ∨ x1 = 3 ∨ (x1 < 0 ∨ 3 < x1) by omega) with c1 | c1 | c1 | c1 | c1
  · have hw := hw.1 c1
    refine ml_tIn (pc := 1) (off := 31) (tgt := 32) X c1 dX11_count_1 (by decide) (by decide) (by decide +kernel) (by decide) ?_
    refine ml_aload_n (pc := 32) X hl 0 rfl rfl dX11_count_32 ?_
    refine gf_X11_82 (pc := 33) X (ml_c1 hn) dX11_count_33 (fun r2 => ?_)
    have hw := hw r2
    exact ml_iret (pc := 36) X r2 hw dX11_count_36
  · have hw := hw.2.1 c1
    refine ml_tIn (pc := 1) (off := 36) (tgt := 37) X c1 dX11_count_1 (by decide) (by decide) (by decide +kernel) (by decide) ?_
    refine ml_aload_n (pc := 37) X hl 0 rfl rfl dX11_count_37 ?_
    refine gf_X11_86 (pc := 38) X (ml_c1 hn) dX11_count_38 (fun r3 => ?_)
    have hw := hw r3
    exact ml_iret (pc := 41) X r3 hw dX11_count_41
  · have hw := hw.2.2.1 c1
    refine ml_tIn (pc := 1) (off := 41) (tgt := 42) X c1 dX11_count_1 (by decide) (by decide) (by decide +kernel) (by decide) ?_
    refine ml_aload_n (pc := 42) X hl 0 rfl rfl dX11_count_42 ?_
    refine gf_X11_10 (pc := 43) X (ml_c1 hn) dX11_count_43 ?_
    refine gf_X11_94 (pc := 46) X (ml_c2 hn) dX11_count_46 (fun r4 => ?_)
    have hw := hw r4
    exact ml_iret (pc := 49) X r4 hw dX11_count_49
  · have hw := hw.2.2.2.1 c1
    refine ml_tIn (pc := 1) (off := 49) (tgt := 50) X c1 dX11_count_1 (by decide) (by decide) (by decide +kernel) (by decide) ?_
    refine ml_aload_n (pc := 50) X hl 0 rfl rfl dX11_count_50 ?_
    refine gf_X11_19 (pc := 51) X (ml_c1 hn) dX11_count_51 ?_
    refine gf_X11_278 (pc := 54) X (ml_c4 hn) dX11_count_54 (fun r5 => ?_)
    have hw := hw r5
    refine ml_if_eq (pc := 57) (tgt := 64) X r5.i dX11_count_57 (by decide) (fun c6 => ?_) (fun c6 => ?_)
    · have hw := hw.1 c6
      refine ml_iconst (pc := 64) X dX11_count_64 ?_
      exact u_X11_count_65 X hn σ 0 ⟨by decide, by decide⟩ _ (lv_sub hl [] rfl) hw
    · have hw := hw.2 c6
      refine ml_iconst (pc := 60) X dX11_count_60 ?_
      refine ml_goto (pc := 61) (tgt := 65) X dX11_count_61 (by decide) ?_
      exact u_X11_count_65 X hn σ 1 ⟨by decide, by decide⟩ _ (lv_sub hl [] rfl) hw
  · have hw := hw.2.2.2.2 c1
    refine ml_tOut (pc := 1) (tgt := 66) X h_x1 dX11_count_1 c1 (by decide) ?_
    refine ml_iload_n (pc := 66) X hl 1 rfl rfl dX11_count_66 ?_
    refine ml_bipush (pc := 67) X dX11_count_67 (by decide) ?_
    refine ml_icmp_lt (pc := 69) (tgt := 96) X h_x1 ⟨by decide, by decide⟩ dX11_count_69 (by decide) (fun c7 => ?_) (fun c7 => ?_)
    · have hw := hw.1 c7
      exact u_X11_count_96 X hn σ x1 h_x1 _ (lv_sub hl [0, 1] rfl) hw
    · have hw := hw.2 c7
      refine ml_aload_n (pc := 72) X hl 0 rfl rfl dX11_count_72 ?_
      refine ml_iload_n (pc := 73) X hl 1 rfl rfl dX11_count_73 ?_
      refine ml_bipush (pc := 74) X dX11_count_74 (by decide) ?_
      obtain ⟨v8, hw⟩ := hw
      refine ml_isub (pc := 76) X dX11_count_76 ?_
      refine ml_callzV (pc := 77) (rest := []) X [.int (Int32.ofInt (x1 - 10))] (by decide) rfl (ml_c1 hn) (c_X11_isTold l base D cA n hn σ (x1 - 10) v8 _ hw) cv_X11_104 ⟨rfl, rfl⟩ ⟨by decide, by decide⟩ rfl rfl hl (Nat.le_of_ble_eq_true rfl) ⟨Nat.zero_le _, Nat.zero_le _⟩ dX11_count_77 (fun r9 σ9 t9 hw => ?_)
      have hw := hw t9
      refine ml_if_eq (pc := 80) (tgt := 96) X t9.i dX11_count_80 (by decide) (fun c10 => ?_) (fun c10 => ?_)
      · have hw := hw.1 c10
        exact u_X11_count_96 X hn σ9 x1 h_x1 _ (lv_sub hl [0, 1] rfl) hw
      · have hw := hw.2 c10
        refine ml_aload_n (pc := 83) X hl 0 rfl rfl dX11_count_83 ?_
        refine gf_X11_67 (pc := 84) X (ml_c1 hn) dX11_count_84 ?_
        refine ml_iload_n (pc := 87) X hl 1 rfl rfl dX11_count_87 ?_
        refine ml_bipush (pc := 88) X dX11_count_88 (by decide) ?_
        obtain ⟨v11, hw⟩ := hw
        refine ml_isub (pc := 90) X dX11_count_90 ?_
        obtain ⟨a12, b12, hw⟩ := hw
        refine ml_aald_words (pc := 91) X hn a12 b12 dX11_count_91 ?_
        refine gf_X11_253 (pc := 92) X (ml_at_words hn a12 b12) dX11_count_92 (fun r13 => ?_)
        have hw := hw r13
        exact ml_iret (pc := 95) X r13 hw dX11_count_95
set_option maxRecDepth 100000 in
theorem c_X11_count (l : Launch) (base : Nat) (D : va_G) (cA : Nat → ClassId) (n : Nat) (hn : 214 ≤ n) (σ : ml_St) (x1 : Int) (h_x1 : I32 x1) (Q : Int → ml_St → Prop) (hw : f_X11_count σ x1 Q) : Met l yX11_count (Cond.code yX11_count cX11_count 2 (some .int) :: ml_T) rm_X11_count (va_Pc [.ref (base + (1 : Int).toNat), .int (Int32.ofInt x1)] (ml_U base D cA n σ)) (ml_Qi I32 base D cA n Q) 0 0 (ml_A base) := by
  refine Met.ofW (cc := cX11_count) (maxL := 2) (ret := (some .int)) (by decide) rfl ?_
  intro p e s m args below meth c s₁ B hml hv
  obtain ⟨rfl, hP, hK, hok, hro⟩ := hv
  have X : ml_X p s m c meth _ D cA cX11_count 2 RX11 (some .int) := ⟨B.exec, B.bytes, hml, findClass_of_methodNamed B.named, fun w hw => atoms_spec (ws := Cond.code yX11_count cX11_count 2 (some .int) :: ml_T) B.pre w (List.mem_cons_of_mem _ hw), hK, B.notSynchronized, B.returns⟩
  have hl := lv_entry [.ref (base + (1 : Int).toNat), .int (Int32.ofInt x1)] (n := 2) (Nat.le_of_ble_eq_true rfl)
  rw [lg_entry_eq]
  generalize (lg_sl [.ref (base + (1 : Int).toNat), .int (Int32.ofInt x1)] ++ List.replicate (2 - (lg_sl [.ref (base + (1 : Int).toNat), .int (Int32.ofInt x1)]).length) Slot.unset).toArray = ls at hl ⊢
  have hl : lv_has ls 2 [(0, .ref (base + (1 : Int).toNat)), (1, .int (Int32.ofInt x1))] := hl
  unfold f_X11_count at hw
  exact u_X11_count_0 X hn σ x1 h_x1 _ (lv_sub hl [0, 1] rfl) hw s.heap [] hP va_S.rf hok hro
