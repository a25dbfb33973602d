theorem dX0_goRound_0 : decode cX0_goRound 0 = .ok (.iconst 0, 1) := by decide +kernel
theorem dX0_goRound_1 : decode cX0_goRound 1 = .ok (.istore_n 2, 1) := by decide +kernel
theorem dX0_goRound_2 : decode cX0_goRound 2 = .ok (.iload_n 2, 1) := by decide +kernel
theorem dX0_goRound_3 : decode cX0_goRound 3 = .ok (.iconst 2, 1) := by decide +kernel
theorem dX0_goRound_4 : decode cX0_goRound 4 = .ok (.iload_n 1, 1) := by decide +kernel
theorem dX0_goRound_5 : decode cX0_goRound 5 = .ok (.imul, 1) := by decide +kernel
theorem dX0_goRound_6 : decode cX0_goRound 6 = .ok (.if_icmp .ge 29, 3) := by decide +kernel
theorem dX0_goRound_9 : decode cX0_goRound 9 = .ok (.aload_n 0, 1) := by decide +kernel
theorem dX0_goRound_10 : decode cX0_goRound 10 = .ok (.getfield 9, 3) := by decide +kernel
theorem dX0_goRound_13 : decode cX0_goRound 13 = .ok (.iload_n 2, 1) := by decide +kernel
theorem dX0_goRound_14 : decode cX0_goRound 14 = .ok (.iload_n 2, 1) := by decide +kernel
theorem dX0_goRound_15 : decode cX0_goRound 15 = .ok (.iload_n 1, 1) := by decide +kernel
theorem dX0_goRound_16 : decode cX0_goRound 16 = .ok (.if_icmp .ge 9, 3) := by decide +kernel
theorem dX0_goRound_19 : decode cX0_goRound 19 = .ok (.iload_n 2, 1) := by decide +kernel
theorem dX0_goRound_20 : decode cX0_goRound 20 = .ok (.iload_n 1, 1) := by decide +kernel
theorem dX0_goRound_21 : decode cX0_goRound 21 = .ok (.iadd, 1) := by decide +kernel
theorem dX0_goRound_22 : decode cX0_goRound 22 = .ok (.goto 6, 3) := by decide +kernel
theorem dX0_goRound_25 : decode cX0_goRound 25 = .ok (.iload_n 2, 1) := by decide +kernel
theorem dX0_goRound_26 : decode cX0_goRound 26 = .ok (.iload_n 1, 1) := by decide +kernel
theorem dX0_goRound_27 : decode cX0_goRound 27 = .ok (.isub, 1) := by decide +kernel
theorem dX0_goRound_28 : decode cX0_goRound 28 = .ok (.iastore, 1) := by decide +kernel
theorem dX0_goRound_29 : decode cX0_goRound 29 = .ok (.iinc 2 1, 3) := by decide +kernel
theorem dX0_goRound_32 : decode cX0_goRound 32 = .ok (.goto (-30), 3) := by decide +kernel
theorem dX0_goRound_35 : decode cX0_goRound 35 = .ok (.aload_n 0, 1) := by decide +kernel
theorem dX0_goRound_36 : decode cX0_goRound 36 = .ok (.iconst 0, 1) := by decide +kernel
theorem dX0_goRound_37 : decode cX0_goRound 37 = .ok (.putfield 15, 3) := by decide +kernel
theorem dX0_goRound_40 : decode cX0_goRound 40 = .ok (.return_, 1) := by decide +kernel
def f_X0_goRound_u28 (Q : ml_St → Prop) (K2 : ml_St → Int → Int → Prop) (σ : ml_St) (x1 : Int) (x2 : Int) (s1 : Int) (s2 : Int) : Prop :=
(0 : Int) ≤ s1 ∧ (s1 : Int) < 10 ∧
∀ σ1, σ1 = ml_up σ 5 s1 s2 →
I32 (x2 + 1) ∧
∀ y2 : Int, y2 = x2 + 1 →
K2 σ1 x1 y2
def f_X0_goRound_u2 (Q : ml_St → Prop) (K35 : ml_St → Prop) : Nat → ml_St → Int → Int → Prop
| 0, _, _, _ => False
| N + 1, σ, x1, x2 =>
I32 (2 * x1) ∧
((2 * x1) ≤ x2 →
K35 σ) ∧
(¬ ((2 * x1) ≤ x2) →
(x1 ≤ x2 →
I32 (x2 - x1) ∧
f_X0_goRound_u28 Q (f_X0_goRound_u2 Q K35 N) σ x1 x2 x2 (x2 - x1)) ∧
(¬ (x1 ≤ x2) →
I32 (x2 + x1) ∧
f_X0_goRound_u28 Q (f_X0_goRound_u2 Q K35 N) σ x1 x2 x2 (x2 + x1)))
def f_X0_goRound_u35 (Q : ml_St → Prop) (σ : ml_St) : Prop :=
∀ σ1, σ1 = ml_up σ 4 1 0 →
Q σ1
def f_X0_goRound_u0 (Q : ml_St → Prop) (σ : ml_St) (x1 : Int) : Prop :=
∃ N1, f_X0_goRound_u2 Q (f_X0_goRound_u35 Q) N1 σ x1 0
def f_X0_goRound (σ : ml_St) (x1 : Int) (Q : ml_St → Prop) : Prop := f_X0_goRound_u0 Q σ x1
def rm_X0_goRound : Room := { frames := 0, cells := 0, slots := 0, locals := 0 }
set_option maxRecDepth 100000 in
set_option maxHeartbeats 4000000 in
theorem u_X0_goRound_28 {p : Program} {e : Env} {s : State} {m : MethodId} {args : Array Value} {below : List Frame} {meth : Method} {c : Code} {base : Nat} {D : va_G} {cA : Nat → ClassId} {n : Nat} {l : Launch} {Q : ml_St → Prop} {K2 : ml_St → Int → Int → Prop} (X : ml_X p s m c meth args D cA cX0_goRound 3 RX0 none) (hn : 214 ≤ n) (hK2 : ∀ (σ : ml_St) (x1 : Int) (x2 : Int) (h_x1 : I32 x1) (h_x2 : I32 x2) (ls : Array Slot), lv_has ls 3 [(0, .ref (base + (4 : Int).toNat)), (1, .int (Int32.ofInt x1)), (2, .int (Int32.ofInt x2))] → K2 σ x1 x2 → ml_V p l e rm_X0_goRound s m args below meth c (MQ below (ml_Qv base D cA n Q) args s 0 0 (ml_A base)) base D cA 0 0 n n σ (F0 m 2 ls [])) (σ : ml_St) (x1 : Int) (x2 : Int) (s1 : Int) (s2 : Int) (h_x1 : I32 x1) (h_x2 : I32 x2) (h_s1 : I32 s1) (h_s2 : I32 s2) (ls : Array Slot) (hl : lv_has ls 3 [(0, .ref (base + (4 : Int).toNat)), (1, .int (Int32.ofInt x1)), (2, .int (Int32.ofInt x2))]) (hw : f_X0_goRound_u28 Q K2 σ x1 x2 s1 s2) : ml_V p l e rm_X0_goRound s m args below meth c (MQ below (ml_Qv base D cA n Q) args s 0 0 (ml_A base)) base D cA 0 0 n n σ (F0 m 28 ls [.int (Int32.ofInt s2), .int (Int32.ofInt s1), .ref (base + (5 : Int).toNat)]) := by
  unfold f_X0_goRound_u28 at hw
  obtain ⟨a1, b1, hw⟩ := hw
  refine ml_iast (pc := 28) (N := 10) X (ml_c5 hn) a1 b1 h_s2 dX0_goRound_28 (fun σ1 g1 => ?_)
  have hw := hw σ1 g1
  obtain ⟨v2, hw⟩ := hw
  obtain ⟨y2, e2⟩ : ∃ y : Int, y = x2 + 1 := ⟨_, rfl⟩
  have hw := hw y2 e2
  rw [← e2] at v2
  refine ml_iinc (pc := 29) X e2 hl 2 rfl (by decide) (lst' := [(2, .int (Int32.ofInt y2)), (0, .ref (base + (4 : Int).toNat)), (1, .int (Int32.ofInt x1))]) rfl dX0_goRound_29 (fun ls hl => ?_)
  refine ml_goto (pc := 32) (tgt := 2) X dX0_goRound_32 (by decide) ?_
  exact hK2 σ1 x1 y2 h_x1 v2 _ (lv_sub hl [1, 2, 0] rfl) hw
set_option maxRecDepth 100000 in
set_option maxHeartbeats 4000000 in
theorem u_X0_goRound_2 {p : Program} {e : Env} {s : State} {m : MethodId} {args : Array Value} {below : List Frame} {meth : Method} {c : Code} {base : Nat} {D : va_G} {cA : Nat → ClassId} {n : Nat} {l : Launch} {Q : ml_St → Prop} {K35 : ml_St → Prop} (X : ml_X p s m c meth args D cA cX0_goRound 3 RX0 none) (hn : 214 ≤ n) (hK35 : ∀ (σ : ml_St) (ls : Array Slot), lv_has ls 3 [(0, .ref (base + (4 : Int).toNat))] → K35 σ → ml_V p l e rm_X0_goRound s m args below meth c (MQ below (ml_Qv base D cA n Q) args s 0 0 (ml_A base)) base D cA 0 0 n n σ (F0 m 35 ls [])) : ∀ (N : Nat) (σ : ml_St) (x1 : Int) (x2 : Int) (h_x1 : I32 x1) (h_x2 : I32 x2) (ls : Array Slot), lv_has ls 3 [(0, .ref (base + (4 : Int).toNat)), (1, .int (Int32.ofInt x1)), (2, .int (Int32.ofInt x2))] → f_X0_goRound_u2 Q K35 N σ x1 x2 → ml_V p l e rm_X0_goRound s m args below meth c (MQ below (ml_Qv base D cA n Q) args s 0 0 (ml_A base)) base D cA 0 0 n n σ (F0 m 2 ls []) := by
  intro N
  induction N with
  | zero => intro σ x1 x2 h_x1 h_x2 ls hl hw; exact False.elim hw
  | succ N ih =>
    intro σ x1 x2 h_x1 h_x2 ls hl hw
    unfold f_X0_goRound_u2 at hw
    refine ml_iload_n (pc := 2) X hl 2 rfl rfl dX0_goRound_2 ?_
    refine ml_iconst (pc := 3) X dX0_goRound_3 ?_
    refine ml_iload_n (pc := 4) X hl 1 rfl rfl dX0_goRound_4 ?_
    obtain ⟨v1, hw⟩ := hw
    refine ml_imul (pc := 5) X dX0_goRound_5 ?_
    refine ml_icmp_ge (pc := 6) (tgt := 35) X h_x2 v1 dX0_goRound_6 (by decide) (fun c2 => ?_) (fun c2 => ?_)
    · have hw := hw.1 c2
      exact hK35 σ   _ (lv_sub hl [0] rfl) hw
    · have hw := hw.2 c2
      refine ml_aload_n (pc := 9) X hl 0 rfl rfl dX0_goRound_9 ?_
      refine gf_X0_9 (pc := 10) X (ml_c4 hn) dX0_goRound_10 ?_
      refine ml_iload_n (pc := 13) X hl 2 rfl rfl dX0_goRound_13 ?_
      refine ml_iload_n (pc := 14) X hl 2 rfl rfl dX0_goRound_14 ?_
      refine ml_iload_n (pc := 15) X hl 1 rfl rfl dX0_goRound_15 ?_
      refine ml_icmp_ge (pc := 16) (tgt := 25) X h_x2 h_x1 dX0_goRound_16 (by decide) (fun c3 => ?_) (fun c3 => ?_)
      · have hw := hw.1 c3
        refine ml_iload_n (pc := 25) X hl 2 rfl rfl dX0_goRound_25 ?_
        refine ml_iload_n (pc := 26) X hl 1 rfl rfl dX0_goRound_26 ?_
        obtain ⟨v4, hw⟩ := hw
        refine ml_isub (pc := 27) X dX0_goRound_27 ?_
        exact u_X0_goRound_28 X hn ih σ x1 x2 x2 (x2 - x1) h_x1 h_x2 h_x2 v4 _ (lv_sub hl [0, 1, 2] rfl) hw
      · have hw := hw.2 c3
        refine ml_iload_n (pc := 19) X hl 2 rfl rfl dX0_goRound_19 ?_
        refine ml_iload_n (pc := 20) X hl 1 rfl rfl dX0_goRound_20 ?_
        obtain ⟨v5, hw⟩ := hw
        refine ml_iadd (pc := 21) X dX0_goRound_21 ?_
        refine ml_goto (pc := 22) (tgt := 28) X dX0_goRound_22 (by decide) ?_
        exact u_X0_goRound_28 X hn ih σ x1 x2 x2 (x2 + x1) h_x1 h_x2 h_x2 v5 _ (lv_sub hl [0, 1, 2] rfl) hw
set_option maxRecDepth 100000 in
set_option maxHeartbeats 4000000 in
theorem u_X0_goRound_35 {p : Program} {e : Env} {s : State} {m : MethodId} {args : Array Value} {below : List Frame} {meth : Method} {c : Code} {base : Nat} {D : va_G} {cA : Nat → ClassId} {n : Nat} {l : Launch} {Q : ml_St → Prop} (X : ml_X p s m c meth args D cA cX0_goRound 3 RX0 none) (hn : 214 ≤ n) (σ : ml_St) (ls : Array Slot) (hl : lv_has ls 3 [(0, .ref (base + (4 : Int).toNat))]) (hw : f_X0_goRound_u35 Q σ) : ml_V p l e rm_X0_goRound s m args below meth c (MQ below (ml_Qv base D cA n Q) args s 0 0 (ml_A base)) base D cA 0 0 n n σ (F0 m 35 ls []) := by
  unfold f_X0_goRound_u35 at hw
  refine ml_aload_n (pc := 35) X hl 0 rfl rfl dX0_goRound_35 ?_
  refine ml_iconst (pc := 36) X dX0_goRound_36 ?_
  refine pf_X0_15 (pc := 37) X (ml_c4 hn) ⟨by decide, by decide⟩ dX0_goRound_37 (fun σ1 g1 => ?_)
  have hw := hw σ1 g1
  exact ml_vret (pc := 40) X hw dX0_goRound_40
set_option maxRecDepth 100000 in
set_option maxHeartbeats 4000000 in
theorem u_X0_goRound_0 {p : Program} {e : Env} {s : State} {m : MethodId} {args : Array Value} {below : List Frame} {meth : Method} {c : Code} {base : Nat} {D : va_G} {cA : Nat → ClassId} {n : Nat} {l : Launch} {Q : ml_St → Prop} (X : ml_X p s m c meth args D cA cX0_goRound 3 RX0 none) (hn : 214 ≤ n) (σ : ml_St) (x1 : Int) (h_x1 : I32 x1) (ls : Array Slot) (hl : lv_has ls 3 [(0, .ref (base + (4 : Int).toNat)), (1, .int (Int32.ofInt x1))]) (hw : f_X0_goRound_u0 Q σ x1) : ml_V p l e rm_X0_goRound s m args below meth c (MQ below (ml_Qv base D cA n Q) args s 0 0 (ml_A base)) base D cA 0 0 n n σ (F0 m 0 ls []) := by
  unfold f_X0_goRound_u0 at hw
  refine ml_iconst (pc := 0) X dX0_goRound_0 ?_
  refine ml_istore_n (pc := 1) X rfl hl (by decide) (lst' := [(2, .int (Int32.ofInt 0)), (0, .ref (base + (4 : Int).toNat)), (1, .int (Int32.ofInt x1))]) rfl dX0_goRound_1 (fun ls hl => ?_)
  obtain ⟨N0, hw⟩ := hw
  exact u_X0_goRound_2 X hn (fun σ   ls hl hw => u_X0_goRound_35 X hn σ   ls hl hw) N0 σ x1 0 h_x1 ⟨by decide, by decide⟩ _ (lv_sub hl [1, 2, 0] rfl) hw
set_option maxRecDepth 100000 in
theorem c_X0_goRound (l : Launch) (base : Nat) (D : va_G) (cA : Nat → ClassId) (n : Nat) (hn : 214 ≤ n) (σ : ml_St) (x1 : Int) (h_x1 : I32 x1) (Q : ml_St → Prop) (hw : f_X0_goRound σ x1 Q) : Met l yX0_goRound (Cond.code yX0_goRound cX0_goRound 3 none :: ml_T) rm_X0_goRound (va_Pc [.ref (base + (4 : Int).toNat), .int (Int32.ofInt x1)] (ml_U base D cA n σ)) (ml_Qv base D cA n Q) 0 0 (ml_A base) := by
  refine Met.ofW (cc := cX0_goRound) (maxL := 3) (ret := none) (by decide) rfl ?_
  intro p e s m args below meth c s₁ B hml hv
  obtain ⟨rfl, hP, hK, hok, hro⟩ := hv
  have X : ml_X p s m c meth _ D cA cX0_goRound 3 RX0 none := ⟨B.exec, B.bytes, hml, findClass_of_methodNamed B.named, fun w hw => atoms_spec (ws := Cond.code yX0_goRound cX0_goRound 3 none :: ml_T) B.pre w (List.mem_cons_of_mem _ hw), hK, B.notSynchronized, B.returns⟩
  have hl := lv_entry [.ref (base + (4 : Int).toNat), .int (Int32.ofInt x1)] (n := 3) (Nat.le_of_ble_eq_true rfl)
  rw [lg_entry_eq]
  generalize (lg_sl [.ref (base + (4 : Int).toNat), .int (Int32.ofInt x1)] ++ List.replicate (3 - (lg_sl [.ref (base + (4 : Int).toNat), .int (Int32.ofInt x1)]).length) Slot.unset).toArray = ls at hl ⊢
  have hl : lv_has ls 3 [(0, .ref (base + (4 : Int).toNat)), (1, .int (Int32.ofInt x1))] := hl
  unfold f_X0_goRound at hw
  exact u_X0_goRound_0 X hn σ x1 h_x1 _ (lv_sub hl [0, 1] rfl) hw s.heap [] hP va_S.rf hok hro
theorem dX11_rails_0 : decode cX11_rails 0 = .ok (.iload_n 1, 1) := by decide +kernel
theorem dX11_rails_1 : decode cX11_rails 1 = .ok (.iconst 2, 1) := by decide +kernel
theorem dX11_rails_2 : decode cX11_rails 2 = .ok (.if_icmp .lt 15, 3) := by decide +kernel
theorem dX11_rails_5 : decode cX11_rails 5 = .ok (.iload_n 1, 1) := by decide +kernel
theorem dX11_rails_6 : decode cX11_rails 6 = .ok (.iconst 5, 1) := by decide +kernel
theorem dX11_rails_7 : decode cX11_rails 7 = .ok (.if_icmp .gt 10, 3) := by decide +kernel
theorem dX11_rails_10 : decode cX11_rails 10 = .ok (.aload_n 0, 1) := by decide +kernel
theorem dX11_rails_11 : decode cX11_rails 11 = .ok (.getfield 86, 3) := by decide +kernel
theorem dX11_rails_14 : decode cX11_rails 14 = .ok (.ifCond .le 5, 3) := by decide +kernel
theorem dX11_rails_17 : decode cX11_rails 17 = .ok (.iconst 0, 1) := by decide +kernel
theorem dX11_rails_18 : decode cX11_rails 18 = .ok (.ireturn, 1) := by decide +kernel
theorem dX11_rails_19 : decode cX11_rails 19 = .ok (.aload_n 0, 1) := by decide +kernel
theorem dX11_rails_20 : decode cX11_rails 20 = .ok (.iload_n 1, 1) := by decide +kernel
theorem dX11_rails_21 : decode cX11_rails 21 = .ok (.putfield 82, 3) := by decide +kernel
theorem dX11_rails_24 : decode cX11_rails 24 = .ok (.aload_n 0, 1) := by decide +kernel
theorem dX11_rails_25 : decode cX11_rails 25 = .ok (.getfield 19, 3) := by decide +kernel
theorem dX11_rails_28 : decode cX11_rails 28 = .ok (.iload_n 1, 1) := by decide +kernel
theorem dX11_rails_29 : decode cX11_rails 29 = .ok (.invokevirtual 90, 3) := by decide +kernel
theorem dX11_rails_32 : decode cX11_rails 32 = .ok (.iconst 1, 1) := by decide +kernel
theorem dX11_rails_33 : decode cX11_rails 33 = .ok (.ireturn, 1) := by decide +kernel
def f_X11_rails_u17 (Q : Int → ml_St → Prop) (σ : ml_St) : Prop :=
Q 0 σ
def f_X11_rails_u0 (Q : Int → ml_St → Prop) (σ : ml_St) (x1 : Int) : Prop :=
(x1 < 2 →
f_X11_rails_u17 Q σ) ∧
(¬ (x1 < 2) →
(5 < x1 →
f_X11_rails_u17 Q σ) ∧
(¬ (5 < x1) →
∀ _ : I32 (σ 1 12),
(((σ 1 12) : Int) ≤ 0 →
∀ σ5, σ5 = ml_up σ 1 11 x1 →
f_X0_goRound σ5 x1 (fun σ6 =>
Q 1 σ6)) ∧
(¬ (((σ 1 12) : Int) ≤ 0) →
f_X11_rails_u17 Q σ)))
def f_X11_rails (σ : ml_St) (x1 : Int) (Q : Int → ml_St → Prop) : Prop := f_X11_rails_u0 Q σ x1
def rm_X11_rails : Room := { frames := 1, cells := 0, slots := 0, locals := 22 }
set_option maxRecDepth 100000 in
set_option maxHeartbeats 4000000 in
theorem u_X11_rails_17 {p : Program} {e : Env} {s : State} {m : MethodId} {args : Array Value} {below : List Frame} {meth : Method} {c : Code} {base : Nat} {D : va_G} {cA : Nat → ClassId} {n : Nat} {l : Launch} {Q : Int → ml_St → Prop} (X : ml_X p s m c meth args D cA cX11_rails 2 RX11 (some .boolean)) (hn : 214 ≤ n) (σ : ml_St) (ls : Array Slot) (hl : lv_has ls 2 []) (hw : f_X11_rails_u17 Q σ) : ml_V p l e rm_X11_rails s m args below meth c (MQ below (ml_Qi ml_B base D cA n Q) args s 0 0 (ml_A base)) base D cA 0 0 n n σ (F0 m 17 ls []) := by
  unfold f_X11_rails_u17 at hw
  refine ml_iconst (pc := 17) X dX11_rails_17 ?_
  exact ml_zret (pc := 18) X ⟨by decide, by decide⟩ hw dX11_rails_18
set_option maxRecDepth 100000 in
set_option maxHeartbeats 4000000 in
theorem u_X11_rails_0 {p : Program} {e : Env} {s : State} {m : MethodId} {args : Array Value} {below : List Frame} {meth : Method} {c : Code} {base : Nat} {D : va_G} {cA : Nat → ClassId} {n : Nat} {l : Launch} {Q : Int → ml_St → Prop} (X : ml_X p s m c meth args D cA cX11_rails 2 RX11 (some .boolean)) (hn : 214 ≤ n) (σ : ml_St) (x1 : Int) (h_x1 : I32 x1) (ls : Array Slot) (hl : lv_has ls 2 [(0, .ref (base + (1 : Int).toNat)), (1, .int (Int32.ofInt x1))]) (hw : f_X11_rails_u0 Q σ x1) : ml_V p l e rm_X11_rails s m args below meth c (MQ below (ml_Qi ml_B base D cA n Q) args s 0 0 (ml_A base)) base D cA 0 0 n n σ (F0 m 0 ls []) := by
  unfold f_X11_rails_u0 at hw
  refine ml_iload_n (pc := 0) X hl 1 rfl rfl dX11_rails_0 ?_
  refine ml_iconst (pc := 1) X dX11_rails_1 ?_
  refine ml_icmp_lt (pc := 2) (tgt := 17) X h_x1 ⟨by decide, by decide⟩ dX11_rails_2 (by decide) (fun c1 => ?_) (fun c1 => ?_)
  · have hw := hw.1 c1
    exact u_X11_rails_17 X hn σ   _ (lv_sub hl [] rfl) hw
  · have hw := hw.2 c1
    refine ml_iload_n (pc := 5) X hl 1 rfl rfl dX11_rails_5 ?_
    refine ml_iconst (pc := 6) X dX11_rails_6 ?_
    refine ml_icmp_gt (pc := 7) (tgt := 17) X h_x1 ⟨by decide, by decide⟩ dX11_rails_7 (by decide) (fun c2 => ?_) (fun c2 => ?_)
    · have hw := hw.1 c2
      exact u_X11_rails_17 X hn σ   _ (lv_sub hl [] rfl) hw
    · have hw := hw.2 c2
      refine ml_aload_n (pc := 10) X hl 0 rfl rfl dX11_rails_10 ?_
      refine gf_X11_86 (pc := 11) X (ml_c1 hn) dX11_rails_11 (fun r3 => ?_)
      have hw := hw r3
      refine ml_if_le (pc := 14) (tgt := 19) X r3 dX11_rails_14 (by decide) (fun c4 => ?_) (fun c4 => ?_)
      · have hw := hw.1 c4
        refine ml_aload_n (pc := 19) X hl 0 rfl rfl dX11_rails_19 ?_
        refine ml_iload_n (pc := 20) X hl 1 rfl rfl dX11_rails_20 ?_
        refine pf_X11_82 (pc := 21) X (ml_c1 hn) h_x1 dX11_rails_21 (fun σ5 g5 => ?_)
        have hw := hw σ5 g5
        refine ml_aload_n (pc := 24) X hl 0 rfl rfl dX11_rails_24 ?_
        refine gf_X11_19 (pc := 25) X (ml_c1 hn) dX11_rails_25 ?_
        refine ml_iload_n (pc := 28) X hl 1 rfl rfl dX11_rails_28 ?_
        refine ml_callvV (pc := 29) (rest := []) X [.int (Int32.ofInt x1)] (by decide) rfl (ml_c4 hn) (c_X0_goRound l base D cA n hn σ5 x1 h_x1 _ hw) cv_X11_90 ⟨rfl, rfl⟩ ⟨by decide, by decide⟩ rfl rfl hl (Nat.le_of_ble_eq_true rfl) ⟨Nat.zero_le _, Nat.zero_le _⟩ dX11_rails_29 (fun σ6 hw => ?_)
        refine ml_iconst (pc := 32) X dX11_rails_32 ?_
        exact ml_zret (pc := 33) X ⟨by decide, by decide⟩ hw dX11_rails_33
      · have hw := hw.2 c4
        exact u_X11_rails_17 X hn σ   _ (lv_sub hl [] rfl) hw
set_option maxRecDepth 100000 in
theorem c_X11_rails (l : Launch) (base : Nat) (D : va_G) (cA : Nat → ClassId) (n : Nat) (hn : 214 ≤ n) (σ : ml_St) (x1 : Int) (h_x1 : I32 x1) (Q : Int → ml_St → Prop) (hw : f_X11_rails σ x1 Q) : Met l yX11_rails (Cond.code yX11_rails cX11_rails 2 (some .boolean) :: ml_T) rm_X11_rails (va_Pc [.ref (base + (1 : Int).toNat), .int (Int32.ofInt x1)] (ml_U base D cA n σ)) (ml_Qi ml_B base D cA n Q) 0 0 (ml_A base) := by
  refine Met.ofW (cc := cX11_rails) (maxL := 2) (ret := (some .boolean)) (by decide) rfl ?_
  intro p e s m args below meth c s₁ B hml hv
  obtain ⟨rfl, hP, hK, hok, hro⟩ := hv
  have X : ml_X p s m c meth _ D cA cX11_rails 2 RX11 (some .boolean) := ⟨B.exec, B.bytes, hml, findClass_of_methodNamed B.named, fun w hw => atoms_spec (ws := Cond.code yX11_rails cX11_rails 2 (some .boolean) :: ml_T) B.pre w (List.mem_cons_of_mem _ hw), hK, B.notSynchronized, B.returns⟩
  have hl := lv_entry [.ref (base + (1 : Int).toNat), .int (Int32.ofInt x1)] (n := 2) (Nat.le_of_ble_eq_true rfl)
  rw [lg_entry_eq]
  generalize (lg_sl [.ref (base + (1 : Int).toNat), .int (Int32.ofInt x1)] ++ List.replicate (2 - (lg_sl [.ref (base + (1 : Int).toNat), .int (Int32.ofInt x1)]).length) Slot.unset).toArray = ls at hl ⊢
  have hl : lv_has ls 2 [(0, .ref (base + (1 : Int).toNat)), (1, .int (Int32.ofInt x1))] := hl
  unfold f_X11_rails at hw
  exact u_X11_rails_0 X hn σ x1 h_x1 _ (lv_sub hl [0, 1] rfl) hw s.heap [] hP va_S.rf hok hro
theorem dX8_add_0 : decode cX8_add 0 = .ok (.bipush 24, 2) := by decide +kernel
theorem dX8_add_2 : decode cX8_add 2 = .ok (.istore_n 2, 1) := by decide +kernel
theorem dX8_add_3 : decode cX8_add 3 = .ok (.iload_n 2, 1) := by decide +kernel
theorem dX8_add_4 : decode cX8_add 4 = .ok (.ifCond .lt 45, 3) := by decide +kernel
theorem dX8_add_7 : decode cX8_add 7 = .ok (.aload_n 0, 1) := by decide +kernel
theorem dX8_add_8 : decode cX8_add 8 = .ok (.getfield 15, 3) := by decide +kernel
theorem dX8_add_11 : decode cX8_add 11 = .ok (.sipush 200, 3) := by decide +kernel
theorem dX8_add_14 : decode cX8_add 14 = .ok (.if_icmp .ge 35, 3) := by decide +kernel
theorem dX8_add_17 : decode cX8_add 17 = .ok (.aload_n 0, 1) := by decide +kernel
theorem dX8_add_18 : decode cX8_add 18 = .ok (.getfield 9, 3) := by decide +kernel
theorem dX8_add_21 : decode cX8_add 21 = .ok (.aload_n 0, 1) := by decide +kernel
theorem dX8_add_22 : decode cX8_add 22 = .ok (.getfield 15, 3) := by decide +kernel
theorem dX8_add_25 : decode cX8_add 25 = .ok (.iload_n 1, 1) := by decide +kernel
theorem dX8_add_26 : decode cX8_add 26 = .ok (.iload_n 2, 1) := by decide +kernel
theorem dX8_add_27 : decode cX8_add 27 = .ok (.ishr, 1) := by decide +kernel
theorem dX8_add_28 : decode cX8_add 28 = .ok (.sipush 255, 3) := by decide +kernel
theorem dX8_add_31 : decode cX8_add 31 = .ok (.iand, 1) := by decide +kernel
theorem dX8_add_32 : decode cX8_add 32 = .ok (.iastore, 1) := by decide +kernel
theorem dX8_add_33 : decode cX8_add 33 = .ok (.aload_n 0, 1) := by decide +kernel
theorem dX8_add_34 : decode cX8_add 34 = .ok (.dup, 1) := by decide +kernel
theorem dX8_add_35 : decode cX8_add 35 = .ok (.getfield 15, 3) := by decide +kernel
theorem dX8_add_38 : decode cX8_add 38 = .ok (.iconst 1, 1) := by decide +kernel
theorem dX8_add_39 : decode cX8_add 39 = .ok (.iadd, 1) := by decide +kernel
theorem dX8_add_40 : decode cX8_add 40 = .ok (.putfield 15, 3) := by decide +kernel
theorem dX8_add_43 : decode cX8_add 43 = .ok (.iinc 2 (-8), 3) := by decide +kernel
theorem dX8_add_46 : decode cX8_add 46 = .ok (.goto (-43), 3) := by decide +kernel
theorem dX8_add_49 : decode cX8_add 49 = .ok (.return_, 1) := by decide +kernel
def f_X8_add_u3 (Q : ml_St → Prop) (K49 : ml_St → Prop) : Nat → ml_St → Int → Int → Prop
| 0, _, _, _ => False
| N + 1, σ, x1, x2 =>
(x2 < 0 →
K49 σ) ∧
(¬ (x2 < 0) →
∀ _ : I32 (σ 2 1),
(200 ≤ ((σ 2 1) : Int) →
K49 σ) ∧
(¬ (200 ≤ ((σ 2 1) : Int)) →
∀ _ : I32 (σ 2 1),
(0 : Int) ≤ (σ 2 1) ∧ ((σ 2 1) : Int) < 200 ∧
∀ σ5, σ5 = ml_up σ 3 (σ 2 1) (b_and (b_shr x1 x2) 255) →
∀ _ : I32 (σ5 2 1),
I32 ((σ5 2 1) + 1) ∧
∀ σ8, σ8 = ml_up σ5 2 1 ((σ5 2 1) + 1) →
I32 (x2 + (-8)) ∧
∀ y9 : Int, y9 = x2 + (-8) →
f_X8_add_u3 Q K49 N σ8 x1 y9))
def f_X8_add_u49 (Q : ml_St → Prop) (σ : ml_St) : Prop :=
Q σ
def f_X8_add_u0 (Q : ml_St → Prop) (σ : ml_St) (x1 : Int) : Prop :=
∃ N1, f_X8_add_u3 Q (f_X8_add_u49 Q) N1 σ x1 24
def f_X8_add (σ : ml_St) (x1 : Int) (Q : ml_St → Prop) : Prop := f_X8_add_u0 Q σ x1
def rm_X8_add : Room := { frames := 0, cells := 0, slots := 0, locals := 0 }
set_option maxRecDepth 100000 in
set_option maxHeartbeats 4000000 in
theorem u_X8_add_3 {p : Program} {e : Env} {s : State} {m : MethodId} {args : Array Value} {below : List Frame} {meth : Method} {c : Code} {base : Nat} {D : va_G} {cA : Nat → ClassId} {n : Nat} {l : Launch} {Q : ml_St → Prop} {K49 : ml_St → Prop} (X : ml_X p s m c meth args D cA cX8_add 3 RX8 none) (hn : 214 ≤ n) (hK49 : ∀ (σ : ml_St) (ls : Array Slot), lv_has ls 3 [] → K49 σ → ml_V p l e rm_X8_add s m args below meth c (MQ below (ml_Qv base D cA n Q) args s 0 0 (ml_A base)) base D cA 0 0 n n σ (F0 m 49 ls [])) : ∀ (N : Nat) (σ : ml_St) (x1 : Int) (x2 : Int) (h_x1 : I32 x1) (h_x2 : I32 x2) (ls : Array Slot), lv_has ls 3 [(0, .ref (base + (2 : Int).toNat)), (1, .int (Int32.ofInt x1)), (2, .int (Int32.ofInt x2))] → f_X8_add_u3 Q K49 N σ x1 x2 → ml_V p l e rm_X8_add s m args below meth c (MQ below (ml_Qv base D cA n Q) args s 0 0 (ml_A base)) base D cA 0 0 n n σ (F0 m 3 ls []) := by
  intro N
  induction N with
  | zero => intro σ x1 x2 h_x1 h_x2 ls hl hw; exact False.elim hw
  | succ N ih =>
    intro σ x1 x2 h_x1 h_x2 ls hl hw
    unfold f_X8_add_u3 at hw
    refine ml_iload_n (pc := 3) X hl 2 rfl rfl dX8_add_3 ?_
    refine ml_if_lt (pc := 4) (tgt := 49) X h_x2 dX8_add_4 (by decide) (fun c1 => ?_) (fun c1 => ?_)
    · have hw := hw.1 c1
      exact hK49 σ   _ (lv_sub hl [] rfl) hw
    · have hw := hw.2 c1
      refine ml_aload_n (pc := 7) X hl 0 rfl rfl dX8_add_7 ?_
      refine gf_X8_15 (pc := 8) X (ml_c2 hn) dX8_add_8 (fun r2 => ?_)
      have hw := hw r2
      refine ml_sipush (pc := 11) X dX8_add_11 (by decide) ?_
      refine ml_icmp_ge (pc := 14) (tgt := 49) X r2 ⟨by decide, by decide⟩ dX8_add_14 (by decide) (fun c3 => ?_) (fun c3 => ?_)
      · have hw := hw.1 c3
        exact hK49 σ   _ (lv_sub hl [] rfl) hw
      · have hw := hw.2 c3
        refine ml_aload_n (pc := 17) X hl 0 rfl rfl dX8_add_17 ?_
        refine gf_X8_9 (pc := 18) X (ml_c2 hn) dX8_add_18 ?_
        refine ml_aload_n (pc := 21) X hl 0 rfl rfl dX8_add_21 ?_
        refine gf_X8_15 (pc := 22) X (ml_c2 hn) dX8_add_22 (fun r4 => ?_)
        have hw := hw r4
        refine ml_iload_n (pc := 25) X hl 1 rfl rfl dX8_add_25 ?_
        refine ml_iload_n (pc := 26) X hl 2 rfl rfl dX8_add_26 ?_
        refine ml_ishr (pc := 27) X dX8_add_27 ?_
        refine ml_sipush (pc := 28) X dX8_add_28 (by decide) ?_
        refine ml_iand (pc := 31) X dX8_add_31 ?_
        obtain ⟨a5, b5, hw⟩ := hw
        refine ml_iast (pc := 32) (N := 200) X (ml_c3 hn) a5 b5 (b_and_r _ _) dX8_add_32 (fun σ5 g5 => ?_)
        have hw := hw σ5 g5
        refine ml_aload_n (pc := 33) X hl 0 rfl rfl dX8_add_33 ?_
        refine ml_dup (pc := 34) X dX8_add_34 rfl ?_
        refine gf_X8_15 (pc := 35) X (ml_c2 hn) dX8_add_35 (fun r6 => ?_)
        have hw := hw r6
        refine ml_iconst (pc := 38) X dX8_add_38 ?_
        obtain ⟨v7, hw⟩ := hw
        refine ml_iadd (pc := 39) X dX8_add_39 ?_
        refine pf_X8_15 (pc := 40) X (ml_c2 hn) v7 dX8_add_40 (fun σ8 g8 => ?_)
        have hw := hw σ8 g8
        obtain ⟨v9, hw⟩ := hw
        obtain ⟨y9, e9⟩ : ∃ y : Int, y = x2 + (-8) := ⟨_, rfl⟩
        have hw := hw y9 e9
        rw [← e9] at v9
        refine ml_iinc (pc := 43) X e9 hl 2 rfl (by decide) (lst' := [(2, .int (Int32.ofInt y9)), (0, .ref (base + (2 : Int).toNat)), (1, .int (Int32.ofInt x1))]) rfl dX8_add_43 (fun ls hl => ?_)
        refine ml_goto (pc := 46) (tgt := 3) X dX8_add_46 (by decide) ?_
        exact ih σ8 x1 y9 h_x1 v9 _ (lv_sub hl [1, 2, 0] rfl) hw
set_option maxRecDepth 100000 in
set_option maxHeartbeats 4000000 in
theorem u_X8_add_49 {p : Program} {e : Env} {s : State} {m : MethodId} {args : Array Value} {below : List Frame} {meth : Method} {c : Code} {base : Nat} {D : va_G} {cA : Nat → ClassId} {n : Nat} {l : Launch} {Q : ml_St → Prop} (X : ml_X p s m c meth args D cA cX8_add 3 RX8 none) (hn : 214 ≤ n) (σ : ml_St) (ls : Array Slot) (hl : lv_has ls 3 []) (hw : f_X8_add_u49 Q σ) : ml_V p l e rm_X8_add s m args below meth c (MQ below (ml_Qv base D cA n Q) args s 0 0 (ml_A base)) base D cA 0 0 n n σ (F0 m 49 ls []) := by
  unfold f_X8_add_u49 at hw
  exact ml_vret (pc := 49) X hw dX8_add_49
set_option maxRecDepth 100000 in
set_option maxHeartbeats 4000000 in
theorem u_X8_add_0 {p : Program} {e : Env} {s : State} {m : MethodId} {args : Array Value} {below : List Frame} {meth : Method} {c : Code} {base : Nat} {D : va_G} {cA : Nat → ClassId} {n : Nat} {l : Launch} {Q : ml_St → Prop} (X : ml_X p s m c meth args D cA cX8_add 3 RX8 none) (hn : 214 ≤ n) (σ : ml_St) (x1 : Int) (h_x1 : I32 x1) (ls : Array Slot) (hl : lv_has ls 3 [(0, .ref (base + (2 : Int).toNat)), (1, .int (Int32.ofInt x1))]) (hw : f_X8_add_u0 Q σ x1) : ml_V p l e rm_X8_add s m args below meth c (MQ below (ml_Qv base D cA n Q) args s 0 0 (ml_A base)) base D cA 0 0 n n σ (F0 m 0 ls []) := by
  unfold f_X8_add_u0 at hw
  refine ml_bipush (pc := 0) X dX8_add_0 (by decide) ?_
  refine ml_istore_n (pc := 2) X rfl hl (by decide) (lst' := [(2, .int (Int32.ofInt 24)), (0, .ref (base + (2 : Int).toNat)), (1, .int (Int32.ofInt x1))]) rfl dX8_add_2 (fun ls hl => ?_)
  obtain ⟨N0, hw⟩ := hw
  exact u_X8_add_3 X hn (fun σ   ls hl hw => u_X8_add_49 X hn σ   ls hl hw) N0 σ x1 24 h_x1 ⟨by decide, by decide⟩ _ (lv_sub hl [1, 2, 0] rfl) hw
set_option maxRecDepth 100000 in
theorem c_X8_add (l : Launch) (base : Nat) (D : va_G) (cA : Nat → ClassId) (n : Nat) (hn : 214 ≤ n) (σ : ml_St) (x1 : Int) (h_x1 : I32 x1) (Q : ml_St → Prop) (hw : f_X8_add σ x1 Q) : Met l yX8_add (Cond.code yX8_add cX8_add 3 none :: ml_T) rm_X8_add (va_Pc [.ref (base + (2 : Int).toNat), .int (Int32.ofInt x1)] (ml_U base D cA n σ)) (ml_Qv base D cA n Q) 0 0 (ml_A base) := by
  refine Met.ofW (cc := cX8_add) (maxL := 3) (ret := none) (by decide) rfl ?_
  intro p e s m args below meth c s₁ B hml hv
  obtain ⟨rfl, hP, hK, hok, hro⟩ := hv
  have X : ml_X p s m c meth _ D cA cX8_add 3 RX8 none := ⟨B.exec, B.bytes, hml, findClass_of_methodNamed B.named, fun w hw => atoms_spec (ws := Cond.code yX8_add cX8_add 3 none :: ml_T) B.pre w (List.mem_cons_of_mem _ hw), hK, B.notSynchronized, B.returns⟩
  have hl := lv_entry [.ref (base + (2 : Int).toNat), .int (Int32.ofInt x1)] (n := 3) (Nat.le_of_ble_eq_true rfl)
  rw [lg_entry_eq]
  generalize (lg_sl [.ref (base + (2 : Int).toNat), .int (Int32.ofInt x1)] ++ List.replicate (3 - (lg_sl [.ref (base + (2 : Int).toNat), .int (Int32.ofInt x1)]).length) Slot.unset).toArray = ls at hl ⊢
  have hl : lv_has ls 3 [(0, .ref (base + (2 : Int).toNat)), (1, .int (Int32.ofInt x1))] := hl
  unfold f_X8_add at hw
  exact u_X8_add_0 X hn σ x1 h_x1 _ (lv_sub hl [0, 1] rfl) hw s.heap [] hP va_S.rf hok hro
theorem dX11_feed_0 : decode cX11_feed 0 = .ok (.aload_n 0, 1) := by decide +kernel
theorem dX11_feed_1 : decode cX11_feed 1 = .ok (.getfield 10, 3) := by decide +kernel
theorem dX11_feed_4 : decode cX11_feed 4 = .ok (.getfield 94, 3) := by decide +kernel
theorem dX11_feed_7 : decode cX11_feed 7 = .ok (.bipush 20, 2) := by decide +kernel
theorem dX11_feed_9 : decode cX11_feed 9 = .ok (.iadd, 1) := by decide +kernel
theorem dX11_feed_10 : decode cX11_feed 10 = .ok (.sipush 200, 3) := by decide +kernel
theorem dX11_feed_13 : decode cX11_feed 13 = .ok (.if_icmp .le 5, 3) := by decide +kernel
theorem dX11_feed_16 : decode cX11_feed 16 = .ok (.iconst (-1), 1) := by decide +kernel
theorem dX11_feed_17 : decode cX11_feed 17 = .ok (.ireturn, 1) := by decide +kernel
theorem dX11_feed_18 : decode cX11_feed 18 = .ok (.aload_n 0, 1) := by decide +kernel
theorem dX11_feed_19 : decode cX11_feed 19 = .ok (.getfield 10, 3) := by decide +kernel
theorem dX11_feed_22 : decode cX11_feed 22 = .ok (.iload_n 1, 1) := by decide +kernel
theorem dX11_feed_23 : decode cX11_feed 23 = .ok (.invokevirtual 97, 3) := by decide +kernel
theorem dX11_feed_26 : decode cX11_feed 26 = .ok (.aload_n 0, 1) := by decide +kernel
theorem dX11_feed_27 : decode cX11_feed 27 = .ok (.getfield 10, 3) := by decide +kernel
theorem dX11_feed_30 : decode cX11_feed 30 = .ok (.iload_n 2, 1) := by decide +kernel
theorem dX11_feed_31 : decode cX11_feed 31 = .ok (.invokevirtual 97, 3) := by decide +kernel
theorem dX11_feed_34 : decode cX11_feed 34 = .ok (.aload_n 0, 1) := by decide +kernel
theorem dX11_feed_35 : decode cX11_feed 35 = .ok (.getfield 10, 3) := by decide +kernel
theorem dX11_feed_38 : decode cX11_feed 38 = .ok (.iload_n 3, 1) := by decide +kernel
theorem dX11_feed_39 : decode cX11_feed 39 = .ok (.invokevirtual 97, 3) := by decide +kernel
theorem dX11_feed_42 : decode cX11_feed 42 = .ok (.aload_n 0, 1) := by decide +kernel
theorem dX11_feed_43 : decode cX11_feed 43 = .ok (.getfield 10, 3) := by decide +kernel
theorem dX11_feed_46 : decode cX11_feed 46 = .ok (.iload 4, 2) := by decide +kernel
theorem dX11_feed_48 : decode cX11_feed 48 = .ok (.invokevirtual 97, 3) := by decide +kernel
theorem dX11_feed_51 : decode cX11_feed 51 = .ok (.aload_n 0, 1) := by decide +kernel
theorem dX11_feed_52 : decode cX11_feed 52 = .ok (.getfield 10, 3) := by decide +kernel
theorem dX11_feed_55 : decode cX11_feed 55 = .ok (.iload 5, 2) := by decide +kernel
theorem dX11_feed_57 : decode cX11_feed 57 = .ok (.invokevirtual 97, 3) := by decide +kernel
theorem dX11_feed_60 : decode cX11_feed 60 = .ok (.aload_n 0, 1) := by decide +kernel
theorem dX11_feed_61 : decode cX11_feed 61 = .ok (.getfield 10, 3) := by decide +kernel
theorem dX11_feed_64 : decode cX11_feed 64 = .ok (.getfield 94, 3) := by decide +kernel
theorem dX11_feed_67 : decode cX11_feed 67 = .ok (.ireturn, 1) := by decide +kernel
def f_X11_feed_u0 (Q : Int → ml_St → Prop) (σ : ml_St) (x1 : Int) (x2 : Int) (x3 : Int) (x4 : Int) (x5 : Int) : Prop :=
∀ _ : I32 (σ 2 1),
I32 ((σ 2 1) + 20) ∧
((((σ 2 1) + 20) : Int) ≤ 200 →
f_X8_add σ x1 (fun σ4 =>
f_X8_add σ4 x2 (fun σ5 =>
f_X8_add σ5 x3 (fun σ6 =>
f_X8_add σ6 x4 (fun σ7 =>
f_X8_add σ7 x5 (fun σ8 =>
∀ _ : I32 (σ8 2 1),
Q (σ8 2 1) σ8)))))) ∧
(¬ ((((σ 2 1) + 20) : Int) ≤ 200) →
Q (-1) σ)
def f_X11_feed (σ : ml_St) (x1 : Int) (x2 : Int) (x3 : Int) (x4 : Int) (x5 : Int) (Q : Int → ml_St → Prop) : Prop := f_X11_feed_u0 Q σ x1 x2 x3 x4 x5
def rm_X11_feed : Room := { frames := 1, cells := 0, slots := 0, locals := 22 }
set_option maxRecDepth 100000 in
set_option maxHeartbeats 4000000 in
theorem u_X11_feed_0 {p : Program} {e : Env} {s : State} {m : MethodId} {args : Array Value} {below : List Frame} {meth : Method} {c : Code} {base : Nat} {D : va_G} {cA : Nat → ClassId} {n : Nat} {l : Launch} {Q : Int → ml_St → Prop} (X : ml_X p s m c meth args D cA cX11_feed 6 RX11 (some .int)) (hn : 214 ≤ n) (σ : ml_St) (x1 : Int) (x2 : Int) (x3 : Int) (x4 : Int) (x5 : Int) (h_x1 : I32 x1) (h_x2 : I32 x2) (h_x3 : I32 x3) (h_x4 : I32 x4) (h_x5 : I32 x5) (ls : Array Slot) (hl : lv_has ls 6 [(0, .ref (base + (1 : Int).toNat)), (1, .int (Int32.ofInt x1)), (2, .int (Int32.ofInt x2)), (3, .int (Int32.ofInt x3)), (4, .int (Int32.ofInt x4)), (5, .int (Int32.ofInt x5))]) (hw : f_X11_feed_u0 Q σ x1 x2 x3 x4 x5) : ml_V p l e rm_X11_feed s m args below meth c (MQ below (ml_Qi I32 base D cA n Q) args s 0 0 (ml_A base)) base D cA 0 0 n n σ (F0 m 0 ls []) := by
  unfold f_X11_feed_u0 at hw
  refine ml_aload_n (pc := 0) X hl 0 rfl rfl dX11_feed_0 ?_
  refine gf_X11_10 (pc := 1) X (ml_c1 hn) dX11_feed_1 ?_
  refine gf_X11_94 (pc := 4) X (ml_c2 hn) dX11_feed_4 (fun r1 => ?_)
  have hw := hw r1
  refine ml_bipush (pc := 7) X dX11_feed_7 (by decide) ?_
  obtain ⟨v2, hw⟩ := hw
  refine ml_iadd (pc := 9) X dX11_feed_9 ?_
  refine ml_sipush (pc := 10) X dX11_feed_10 (by decide) ?_
  refine ml_icmp_le (pc := 13) (tgt := 18) X v2 ⟨by decide, by decide⟩ dX11_feed_13 (by decide) (fun c3 => ?_) (fun c3 => ?_)
  · have hw := hw.1 c3
    refine ml_aload_n (pc := 18) X hl 0 rfl rfl dX11_feed_18 ?_
    refine gf_X11_10 (pc := 19) X (ml_c1 hn) dX11_feed_19 ?_
    refine ml_iload_n (pc := 22) X hl 1 rfl rfl dX11_feed_22 ?_
    refine ml_callvV (pc := 23) (rest := []) X [.int (Int32.ofInt x1)] (by decide) rfl (ml_c2 hn) (c_X8_add l base D cA n hn σ x1 h_x1 _ hw) cv_X11_97 ⟨rfl, rfl⟩ ⟨by decide, by decide⟩ rfl rfl hl (Nat.le_of_ble_eq_true rfl) ⟨Nat.zero_le _, Nat.zero_le _⟩ dX11_feed_23 (fun σ4 hw => ?_)
    refine ml_aload_n (pc := 26) X hl 0 rfl rfl dX11_feed_26 ?_
    refine gf_X11_10 (pc := 27) X (ml_c1 hn) dX11_feed_27 ?_
    refine ml_iload_n (pc := 30) X hl 2 rfl rfl dX11_feed_30 ?_
    refine ml_callvV (pc := 31) (rest := []) X [.int (Int32.ofInt x2)] (by decide) rfl (ml_c2 hn) (c_X8_add l base D cA n hn σ4 x2 h_x2 _ hw) cv_X11_97 ⟨rfl, rfl⟩ ⟨by decide, by decide⟩ rfl rfl hl (Nat.le_of_ble_eq_true rfl) ⟨Nat.zero_le _, Nat.zero_le _⟩ dX11_feed_31 (fun σ5 hw => ?_)
    refine ml_aload_n (pc := 34) X hl 0 rfl rfl dX11_feed_34 ?_
    refine gf_X11_10 (pc := 35) X (ml_c1 hn) dX11_feed_35 ?_
    refine ml_iload_n (pc := 38) X hl 3 rfl rfl dX11_feed_38 ?_
    refine ml_callvV (pc := 39) (rest := []) X [.int (Int32.ofInt x3)] (by decide) rfl (ml_c2 hn) (c_X8_add l base D cA n hn σ5 x3 h_x3 _ hw) cv_X11_97 ⟨rfl, rfl⟩ ⟨by decide, by decide⟩ rfl rfl hl (Nat.le_of_ble_eq_true rfl) ⟨Nat.zero_le _, Nat.zero_le _⟩ dX11_feed_39 (fun σ6 hw => ?_)
    refine ml_aload_n (pc := 42) X hl 0 rfl rfl dX11_feed_42 ?_
    refine gf_X11_10 (pc := 43) X (ml_c1 hn) dX11_feed_43 ?_
    refine ml_iload (pc := 46) X hl 4 rfl dX11_feed_46 ?_
    refine ml_callvV (pc := 48) (rest := []) X [.int (Int32.ofInt x4)] (by decide) rfl (ml_c2 hn) (c_X8_add l base D cA n hn σ6 x4 h_x4 _ hw) cv_X11_97 ⟨rfl, rfl⟩ ⟨by decide, by decide⟩ rfl rfl hl (Nat.le_of_ble_eq_true rfl) ⟨Nat.zero_le _, Nat.zero_le _⟩ dX11_feed_48 (fun σ7 hw => ?_)
    refine ml_aload_n (pc := 51) X hl 0 rfl rfl dX11_feed_51 ?_
    refine gf_X11_10 (pc := 52) X (ml_c1 hn) dX11_feed_52 ?_
    refine ml_iload (pc := 55) X hl 5 rfl dX11_feed_55 ?_
    refine ml_callvV (pc := 57) (rest := []) X [.int (Int32.ofInt x5)] (by decide) rfl (ml_c2 hn) (c_X8_add l base D cA n hn σ7 x5 h_x5 _ hw) cv_X11_97 ⟨rfl, rfl⟩ ⟨by decide, by decide⟩ rfl rfl hl (Nat.le_of_ble_eq_true rfl) ⟨Nat.zero_le _, Nat.zero_le _⟩ dX11_feed_57 (fun σ8 hw => ?_)
    refine ml_aload_n (pc := 60) X hl 0 rfl rfl dX11_feed_60 ?_
    refine gf_X11_10 (pc := 61) X (ml_c1 hn) dX11_feed_61 ?_
    refine gf_X11_94 (pc := 64) X (ml_c2 hn) dX11_feed_64 (fun r9 => ?_)
    have hw := hw r9
    exact ml_iret (pc := 67) X r9 hw dX11_feed_67
  · have hw := hw.2 c3
    refine ml_iconst (pc := 16) X dX11_feed_16 ?_
    exact ml_iret (pc := 17) X ⟨by decide, by decide⟩ hw dX11_feed_17
set_option maxRecDepth 100000 in
theorem c_X11_feed (l : Launch) (base : Nat) (D : va_G) (cA : Nat → ClassId) (n : Nat) (hn : 214 ≤ n) (σ : ml_St) (x1 : Int) (x2 : Int) (x3 : Int) (x4 : Int) (x5 : Int) (h_x1 : I32 x1) (h_x2 : I32 x2) (h_x3 : I32 x3) (h_x4 : I32 x4) (h_x5 : I32 x5) (Q : Int → ml_St → Prop) (hw : f_X11_feed σ x1 x2 x3 x4 x5 Q) : Met l yX11_feed (Cond.code yX11_feed cX11_feed 6 (some .int) :: ml_T) rm_X11_feed (va_Pc [.ref (base + (1 : Int).toNat), .int (Int32.ofInt x1), .int (Int32.ofInt x2), .int (Int32.ofInt x3), .int (Int32.ofInt x4), .int (Int32.ofInt x5)] (ml_U base D cA n σ)) (ml_Qi I32 base D cA n Q) 0 0 (ml_A base) := by
  refine Met.ofW (cc := cX11_feed) (maxL := 6) (ret := (some .int)) (by decide) rfl ?_
  intro p e s m args below meth c s₁ B hml hv
  obtain ⟨rfl, hP, hK, hok, hro⟩ := hv
  have X : ml_X p s m c meth _ D cA cX11_feed 6 RX11 (some .int) := ⟨B.exec, B.bytes, hml, findClass_of_methodNamed B.named, fun w hw => atoms_spec (ws := Cond.code yX11_feed cX11_feed 6 (some .int) :: ml_T) B.pre w (List.mem_cons_of_mem _ hw), hK, B.notSynchronized, B.returns⟩
  have hl := lv_entry [.ref (base + (1 : Int).toNat), .int (Int32.ofInt x1), .int (Int32.ofInt x2), .int (Int32.ofInt x3), .int (Int32.ofInt x4), .int (Int32.ofInt x5)] (n := 6) (Nat.le_of_ble_eq_true rfl)
  rw [lg_entry_eq]
  generalize (lg_sl [.ref (base + (1 : Int).toNat), .int (Int32.ofInt x1), .int (Int32.ofInt x2), .int (Int32.ofInt x3), .int (Int32.ofInt x4), .int (Int32.ofInt x5)] ++ List.replicate (6 - (lg_sl [.ref (base + (1 : Int).toNat), .int (Int32.ofInt x1), .int (Int32.ofInt x2), .int (Int32.ofInt x3), .int (Int32.ofInt x4), .int (Int32.ofInt x5)]).length) Slot.unset).toArray = ls at hl ⊢
  have hl : lv_has ls 6 [(0, .ref (base + (1 : Int).toNat)), (1, .int (Int32.ofInt x1)), (2, .int (Int32.ofInt x2)), (3, .int (Int32.ofInt x3)), (4, .int (Int32.ofInt x4)), (5, .int (Int32.ofInt x5))] := hl
  unfold f_X11_feed at hw
  exact u_X11_feed_0 X hn σ x1 x2 x3 x4 x5 h_x1 h_x2 h_x3 h_x4 h_x5 _ (lv_sub hl [0, 1, 2, 3, 4, 5] rfl) hw s.heap [] hP va_S.rf hok hro
theorem dX11_tell_0 : decode cX11_tell 0 = .ok (.iload_n 2, 1) := by decide +kernel
theorem dX11_tell_1 : decode cX11_tell 1 = .ok (.iconst 1, 1) := by decide +kernel
theorem dX11_tell_2 : decode cX11_tell 2 = .ok (.if_icmp .lt 20, 3) := by decide +kernel
theorem dX11_tell_5 : decode cX11_tell 5 = .ok (.iload_n 2, 1) := by decide +kernel
theorem dX11_tell_6 : decode cX11_tell 6 = .ok (.bipush 100, 2) := by decide +kernel
theorem dX11_tell_8 : decode cX11_tell 8 = .ok (.if_icmp .gt 14, 3) := by decide +kernel
theorem dX11_tell_11 : decode cX11_tell 11 = .ok (.aload_n 0, 1) := by decide +kernel
theorem dX11_tell_12 : decode cX11_tell 12 = .ok (.getfield 10, 3) := by decide +kernel
theorem dX11_tell_15 : decode cX11_tell 15 = .ok (.getfield 94, 3) := by decide +kernel
theorem dX11_tell_18 : decode cX11_tell 18 = .ok (.iload_n 2, 1) := by decide +kernel
theorem dX11_tell_19 : decode cX11_tell 19 = .ok (.if_icmp .ge 5, 3) := by decide +kernel
theorem dX11_tell_22 : decode cX11_tell 22 = .ok (.iconst (-1), 1) := by decide +kernel
theorem dX11_tell_23 : decode cX11_tell 23 = .ok (.ireturn, 1) := by decide +kernel
theorem dX11_tell_24 : decode cX11_tell 24 = .ok (.iconst 0, 1) := by decide +kernel
theorem dX11_tell_25 : decode cX11_tell 25 = .ok (.istore_n 3, 1) := by decide +kernel
theorem dX11_tell_26 : decode cX11_tell 26 = .ok (.iload_n 3, 1) := by decide +kernel
theorem dX11_tell_27 : decode cX11_tell 27 = .ok (.iload_n 2, 1) := by decide +kernel
theorem dX11_tell_28 : decode cX11_tell 28 = .ok (.if_icmp .ge 25, 3) := by decide +kernel
theorem dX11_tell_31 : decode cX11_tell 31 = .ok (.aload_n 0, 1) := by decide +kernel
theorem dX11_tell_32 : decode cX11_tell 32 = .ok (.getfield 71, 3) := by decide +kernel
theorem dX11_tell_35 : decode cX11_tell 35 = .ok (.iload_n 3, 1) := by decide +kernel
theorem dX11_tell_36 : decode cX11_tell 36 = .ok (.aload_n 0, 1) := by decide +kernel
theorem dX11_tell_37 : decode cX11_tell 37 = .ok (.getfield 10, 3) := by decide +kernel
theorem dX11_tell_40 : decode cX11_tell 40 = .ok (.getfield 275, 3) := by decide +kernel
theorem dX11_tell_43 : decode cX11_tell 43 = .ok (.iload_n 3, 1) := by decide +kernel
theorem dX11_tell_44 : decode cX11_tell 44 = .ok (.iaload, 1) := by decide +kernel
theorem dX11_tell_45 : decode cX11_tell 45 = .ok (.i2b, 1) := by decide +kernel
theorem dX11_tell_46 : decode cX11_tell 46 = .ok (.bastore, 1) := by decide +kernel
theorem dX11_tell_47 : decode cX11_tell 47 = .ok (.iinc 3 1, 3) := by decide +kernel
theorem dX11_tell_50 : decode cX11_tell 50 = .ok (.goto (-24), 3) := by decide +kernel
theorem dX11_tell_53 : decode cX11_tell 53 = .ok (.aload_n 0, 1) := by decide +kernel
theorem dX11_tell_54 : decode cX11_tell 54 = .ok (.getfield 10, 3) := by decide +kernel
theorem dX11_tell_57 : decode cX11_tell 57 = .ok (.iconst 0, 1) := by decide +kernel
theorem dX11_tell_58 : decode cX11_tell 58 = .ok (.putfield 94, 3) := by decide +kernel
theorem dX11_tell_61 : decode cX11_tell 61 = .ok (.aload_n 0, 1) := by decide +kernel
theorem dX11_tell_62 : decode cX11_tell 62 = .ok (.getfield 26, 3) := by decide +kernel
theorem dX11_tell_65 : decode cX11_tell 65 = .ok (.aload_n 0, 1) := by decide +kernel
theorem dX11_tell_66 : decode cX11_tell 66 = .ok (.getfield 71, 3) := by decide +kernel
theorem dX11_tell_69 : decode cX11_tell 69 = .ok (.iload_n 2, 1) := by decide +kernel
theorem dX11_tell_70 : decode cX11_tell 70 = .ok (.aload_n 0, 1) := by decide +kernel
theorem dX11_tell_71 : decode cX11_tell 71 = .ok (.getfield 82, 3) := by decide +kernel
theorem dX11_tell_74 : decode cX11_tell 74 = .ok (.iload_n 1, 1) := by decide +kernel
theorem dX11_tell_75 : decode cX11_tell 75 = .ok (.invokevirtual 281, 3) := by decide +kernel
theorem dX11_tell_78 : decode cX11_tell 78 = .ok (.istore_n 3, 1) := by decide +kernel
theorem dX11_tell_79 : decode cX11_tell 79 = .ok (.iload_n 3, 1) := by decide +kernel
theorem dX11_tell_80 : decode cX11_tell 80 = .ok (.ifCond .eq 5, 3) := by decide +kernel
theorem dX11_tell_83 : decode cX11_tell 83 = .ok (.iload_n 3, 1) := by decide +kernel
theorem dX11_tell_84 : decode cX11_tell 84 = .ok (.ireturn, 1) := by decide +kernel
theorem dX11_tell_85 : decode cX11_tell 85 = .ok (.aload_n 0, 1) := by decide +kernel
theorem dX11_tell_86 : decode cX11_tell 86 = .ok (.getfield 33, 3) := by decide +kernel
theorem dX11_tell_89 : decode cX11_tell 89 = .ok (.aload_n 0, 1) := by decide +kernel
theorem dX11_tell_90 : decode cX11_tell 90 = .ok (.getfield 71, 3) := by decide +kernel
theorem dX11_tell_93 : decode cX11_tell 93 = .ok (.iload_n 2, 1) := by decide +kernel
theorem dX11_tell_94 : decode cX11_tell 94 = .ok (.aload_n 0, 1) := by decide +kernel
theorem dX11_tell_95 : decode cX11_tell 95 = .ok (.getfield 67, 3) := by decide +kernel
theorem dX11_tell_98 : decode cX11_tell 98 = .ok (.aload_n 0, 1) := by decide +kernel
theorem dX11_tell_99 : decode cX11_tell 99 = .ok (.getfield 78, 3) := by decide +kernel
theorem dX11_tell_102 : decode cX11_tell 102 = .ok (.aload_n 0, 1) := by decide +kernel
theorem dX11_tell_103 : decode cX11_tell 103 = .ok (.getfield 82, 3) := by decide +kernel
theorem dX11_tell_106 : decode cX11_tell 106 = .ok (.invokevirtual 285, 3) := by decide +kernel
theorem dX11_tell_109 : decode cX11_tell 109 = .ok (.aload_n 0, 1) := by decide +kernel
theorem dX11_tell_110 : decode cX11_tell 110 = .ok (.getfield 78, 3) := by decide +kernel
theorem dX11_tell_113 : decode cX11_tell 113 = .ok (.invokevirtual 215, 3) := by decide +kernel
theorem dX11_tell_116 : decode cX11_tell 116 = .ok (.ifCond .eq 9, 3) := by decide +kernel
theorem dX11_tell_119 : decode cX11_tell 119 = .ok (.iconst 5, 1) := by decide +kernel
theorem dX11_tell_120 : decode cX11_tell 120 = .ok (.iload_n 2, 1) := by decide +kernel
theorem dX11_tell_121 : decode cX11_tell 121 = .ok (.invokestatic 289, 3) := by decide +kernel
theorem dX11_tell_124 : decode cX11_tell 124 = .ok (.ireturn, 1) := by decide +kernel
theorem dX11_tell_125 : decode cX11_tell 125 = .ok (.aload_n 0, 1) := by decide +kernel
theorem dX11_tell_126 : decode cX11_tell 126 = .ok (.getfield 67, 3) := by decide +kernel
theorem dX11_tell_129 : decode cX11_tell 129 = .ok (.iload_n 1, 1) := by decide +kernel
theorem dX11_tell_130 : decode cX11_tell 130 = .ok (.aaload, 1) := by decide +kernel
theorem dX11_tell_131 : decode cX11_tell 131 = .ok (.aload_n 0, 1) := by decide +kernel
theorem dX11_tell_132 : decode cX11_tell 132 = .ok (.getfield 71, 3) := by decide +kernel
theorem dX11_tell_135 : decode cX11_tell 135 = .ok (.iload_n 2, 1) := by decide +kernel
theorem dX11_tell_136 : decode cX11_tell 136 = .ok (.invokevirtual 292, 3) := by decide +kernel
theorem dX11_tell_139 : decode cX11_tell 139 = .ok (.aload_n 0, 1) := by decide +kernel
theorem dX11_tell_140 : decode cX11_tell 140 = .ok (.aload_n 0, 1) := by decide +kernel
theorem dX11_tell_141 : decode cX11_tell 141 = .ok (.getfield 86, 3) := by decide +kernel
theorem dX11_tell_144 : decode cX11_tell 144 = .ok (.iload_n 1, 1) := by decide +kernel
theorem dX11_tell_145 : decode cX11_tell 145 = .ok (.iconst 1, 1) := by decide +kernel
theorem dX11_tell_146 : decode cX11_tell 146 = .ok (.iadd, 1) := by decide +kernel
theorem dX11_tell_147 : decode cX11_tell 147 = .ok (.invokestatic 296, 3) := by decide +kernel
theorem dX11_tell_150 : decode cX11_tell 150 = .ok (.putfield 86, 3) := by decide +kernel
theorem dX11_tell_153 : decode cX11_tell 153 = .ok (.aload_n 0, 1) := by decide +kernel
theorem dX11_tell_154 : decode cX11_tell 154 = .ok (.iload_n 1, 1) := by decide +kernel
theorem dX11_tell_155 : decode cX11_tell 155 = .ok (.invokevirtual 301, 3) := by decide +kernel
theorem dX11_tell_158 : decode cX11_tell 158 = .ok (.iload_n 1, 1) := by decide +kernel
theorem dX11_tell_159 : decode cX11_tell 159 = .ok (.ireturn, 1) := by decide +kernel
def f_X11_tell_u22 (Q : Int → ml_St → Prop) (σ : ml_St) : Prop :=
Q (-1) σ
def f_X11_tell_u26 (Q : Int → ml_St → Prop) (K53 : ml_St → Int → Int → Prop) : Nat → ml_St → Int → Int → Int → Prop
| 0, _, _, _, _ => False
| N + 1, σ, x1, x2, x3 =>
(x2 ≤ x3 →
K53 σ x1 x2) ∧
(¬ (x2 ≤ x3) →
(0 : Int) ≤ x3 ∧ (x3 : Int) < 200 ∧
∀ _ : I32 (σ 3 x3),
(0 : Int) ≤ x3 ∧ (x3 : Int) < 100 ∧
∀ σ3, σ3 = ml_up σ 115 x3 (b_i2b (σ 3 x3)) →
I32 (x3 + 1) ∧
∀ y4 : Int, y4 = x3 + 1 →
f_X11_tell_u26 Q K53 N σ3 x1 x2 y4)
def f_X11_tell_u53 (Q : Int → ml_St → Prop) (σ : ml_St) (x1 : Int) (x2 : Int) : Prop :=
∀ σ1, σ1 = ml_up σ 2 1 0 →
∀ _ : I32 (σ1 1 11),
False
def f_X11_tell_u0 (Q : Int → ml_St → Prop) (σ : ml_St) (x1 : Int) (x2 : Int) : Prop :=
(x2 < 1 →
f_X11_tell_u22 Q σ) ∧
(¬ (x2 < 1) →
(100 < x2 →
f_X11_tell_u22 Q σ) ∧
(¬ (100 < x2) →
∀ _ : I32 (σ 2 1),
(x2 ≤ (σ 2 1) →
∃ N1, f_X11_tell_u26 Q (f_X11_tell_u53 Q) N1 σ x1 x2 0) ∧
(¬ (x2 ≤ (σ 2 1)) →
f_X11_tell_u22 Q σ)))
def f_X11_tell (σ : ml_St) (x1 : Int) (x2 : Int) (Q : Int → ml_St → Prop) : Prop := f_X11_tell_u0 Q σ x1 x2
def rm_X11_tell : Room := { frames := 1, cells := 0, slots := 0, locals := 60 }
set_option maxRecDepth 100000 in
set_option maxHeartbeats 4000000 in
theorem u_X11_tell_22 {p : Program} {e : Env} {s : State} {m : MethodId} {args : Array Value} {below : List Frame} {meth : Method} {c : Code} {base : Nat} {D : va_G} {cA : Nat → ClassId} {n : Nat} {l : Launch} {Q : Int → ml_St → Prop} (X : ml_X p s m c meth args D cA cX11_tell 4 RX11 (some .int)) (hn : 214 ≤ n) (σ : ml_St) (ls : Array Slot) (hl : lv_has ls 4 []) (hw : f_X11_tell_u22 Q σ) : ml_V p l e rm_X11_tell s m args below meth c (MQ below (ml_Qi I32 base D cA n Q) args s 0 0 (ml_A base)) base D cA 0 0 n n σ (F0 m 22 ls []) := by
  unfold f_X11_tell_u22 at hw
  refine ml_iconst (pc := 22) X dX11_tell_22 ?_
  exact ml_iret (pc := 23) X ⟨by decide, by decide⟩ hw dX11_tell_23
set_option maxRecDepth 100000 in
set_option maxHeartbeats 4000000 in
theorem u_X11_tell_26 {p : Program} {e : Env} {s : State} {m : MethodId} {args : Array Value} {below : List Frame} {meth : Method} {c : Code} {base : Nat} {D : va_G} {cA : Nat → ClassId} {n : Nat} {l : Launch} {Q : Int → ml_St → Prop} {K53 : ml_St → Int → Int → Prop} (X : ml_X p s m c meth args D cA cX11_tell 4 RX11 (some .int)) (hn : 214 ≤ n) (hK53 : ∀ (σ : ml_St) (x1 : Int) (x2 : Int) (h_x1 : I32 x1) (h_x2 : I32 x2) (ls : Array Slot), lv_has ls 4 [(0, .ref (base + (1 : Int).toNat)), (1, .int (Int32.ofInt x1)), (2, .int (Int32.ofInt x2))] → K53 σ x1 x2 → ml_V p l e rm_X11_tell s m args below meth c (MQ below (ml_Qi I32 base D cA n Q) args s 0 0 (ml_A base)) base D cA 0 0 n n σ (F0 m 53 ls [])) : ∀ (N : Nat) (σ : ml_St) (x1 : Int) (x2 : Int) (x3 : Int) (h_x1 : I32 x1) (h_x2 : I32 x2) (h_x3 : I32 x3) (ls : Array Slot), lv_has ls 4 [(0, .ref (base + (1 : Int).toNat)), (1, .int (Int32.ofInt x1)), (2, .int (Int32.ofInt x2)), (3, .int (Int32.ofInt x3))] → f_X11_tell_u26 Q K53 N σ x1 x2 x3 → ml_V p l e rm_X11_tell s m args below meth c (MQ below (ml_Qi I32 base D cA n Q) args s 0 0 (ml_A base)) base D cA 0 0 n n σ (F0 m 26 ls []) := by
  intro N
  induction N with
  | zero => intro σ x1 x2 x3 h_x1 h_x2 h_x3 ls hl hw; exact False.elim hw
  | succ N ih =>
    intro σ x1 x2 x3 h_x1 h_x2 h_x3 ls hl hw
    unfold f_X11_tell_u26 at hw
    refine ml_iload_n (pc := 26) X hl 3 rfl rfl dX11_tell_26 ?_
    refine ml_iload_n (pc := 27) X hl 2 rfl rfl dX11_tell_27 ?_
    refine ml_icmp_ge (pc := 28) (tgt := 53) X h_x3 h_x2 dX11_tell_28 (by decide) (fun c1 => ?_) (fun c1 => ?_)
    · have hw := hw.1 c1
      exact hK53 σ x1 x2 h_x1 h_x2 _ (lv_sub hl [0, 1, 2] rfl) hw
    · have hw := hw.2 c1
      refine ml_aload_n (pc := 31) X hl 0 rfl rfl dX11_tell_31 ?_
      refine gf_X11_71 (pc := 32) X (ml_c1 hn) dX11_tell_32 ?_
      refine ml_iload_n (pc := 35) X hl 3 rfl rfl dX11_tell_35 ?_
      refine ml_aload_n (pc := 36) X hl 0 rfl rfl dX11_tell_36 ?_
      refine gf_X11_10 (pc := 37) X (ml_c1 hn) dX11_tell_37 ?_
      refine gf_X11_275 (pc := 40) X (ml_c2 hn) dX11_tell_40 ?_
      refine ml_iload_n (pc := 43) X hl 3 rfl rfl dX11_tell_43 ?_
      obtain ⟨a2, b2, hw⟩ := hw
      refine ml_iald (pc := 44) (N := 200) X (ml_c3 hn) a2 b2 dX11_tell_44 (fun r2 => ?_)
      have hw := hw r2
      refine ml_i2b (pc := 45) X dX11_tell_45 ?_
      obtain ⟨a3, b3, hw⟩ := hw
      refine ml_bast (pc := 46) (N := 100) X (ml_c115 hn) a3 b3 (b_i2b_r _) dX11_tell_46 (fun σ3 g3 => ?_)
      have hw := hw σ3 g3
      obtain ⟨v4, hw⟩ := hw
      obtain ⟨y4, e4⟩ : ∃ y : Int, y = x3 + 1 := ⟨_, rfl⟩
      have hw := hw y4 e4
      rw [← e4] at v4
      refine ml_iinc (pc := 47) X e4 hl 3 rfl (by decide) (lst' := [(3, .int (Int32.ofInt y4)), (0, .ref (base + (1 : Int).toNat)), (1, .int (Int32.ofInt x1)), (2, .int (Int32.ofInt x2))]) rfl dX11_tell_47 (fun ls hl => ?_)
      refine ml_goto (pc := 50) (tgt := 26) X dX11_tell_50 (by decide) ?_
      exact ih σ3 x1 x2 y4 h_x1 h_x2 v4 _ (lv_sub hl [1, 2, 3, 0] rfl) hw
set_option maxRecDepth 100000 in
set_option maxHeartbeats 4000000 in
theorem u_X11_tell_53 {p : Program} {e : Env} {s : State} {m : MethodId} {args : Array Value} {below : List Frame} {meth : Method} {c : Code} {base : Nat} {D : va_G} {cA : Nat → ClassId} {n : Nat} {l : Launch} {Q : Int → ml_St → Prop} (X : ml_X p s m c meth args D cA cX11_tell 4 RX11 (some .int)) (hn : 214 ≤ n) (σ : ml_St) (x1 : Int) (x2 : Int) (h_x1 : I32 x1) (h_x2 : I32 x2) (ls : Array Slot) (hl : lv_has ls 4 [(0, .ref (base + (1 : Int).toNat)), (1, .int (Int32.ofInt x1)), (2, .int (Int32.ofInt x2))]) (hw : f_X11_tell_u53 Q σ x1 x2) : ml_V p l e rm_X11_tell s m args below meth c (MQ below (ml_Qi I32 base D cA n Q) args s 0 0 (ml_A base)) base D cA 0 0 n n σ (F0 m 53 ls []) := by
  unfold f_X11_tell_u53 at hw
  refine ml_aload_n (pc := 53) X hl 0 rfl rfl dX11_tell_53 ?_
  refine gf_X11_10 (pc := 54) X (ml_c1 hn) dX11_tell_54 ?_
  refine ml_iconst (pc := 57) X dX11_tell_57 ?_
  refine pf_X11_94 (pc := 58) X (ml_c2 hn) ⟨by decide, by decide⟩ dX11_tell_58 (fun σ1 g1 => ?_)
  have hw := hw σ1 g1
  refine ml_aload_n (pc := 61) X hl 0 rfl rfl dX11_tell_61 ?_
  refine gf_X11_26 (pc := 62) X (ml_c1 hn) dX11_tell_62 ?_
  refine ml_aload_n (pc := 65) X hl 0 rfl rfl dX11_tell_65 ?_
  refine gf_X11_71 (pc := 66) X (ml_c1 hn) dX11_tell_66 ?_
  refine ml_iload_n (pc := 69) X hl 2 rfl rfl dX11_tell_69 ?_
  refine ml_aload_n (pc := 70) X hl 0 rfl rfl dX11_tell_70 ?_
  refine gf_X11_82 (pc := 71) X (ml_c1 hn) dX11_tell_71 (fun r2 => ?_)
  have hw := hw r2
  refine ml_iload_n (pc := 74) X hl 1 rfl rfl dX11_tell_74 ?_
  exact hw.elim
set_option maxRecDepth 100000 in
set_option maxHeartbeats 4000000 in
theorem u_X11_tell_0 {p : Program} {e : Env} {s : State} {m : MethodId} {args : Array Value} {below : List Frame} {meth : Method} {c : Code} {base : Nat} {D : va_G} {cA : Nat → ClassId} {n : Nat} {l : Launch} {Q : Int → ml_St → Prop} (X : ml_X p s m c meth args D cA cX11_tell 4 RX11 (some .int)) (hn : 214 ≤ n) (σ : ml_St) (x1 : Int) (x2 : Int) (h_x1 : I32 x1) (h_x2 : I32 x2) (ls : Array Slot) (hl : lv_has ls 4 [(0, .ref (base + (1 : Int).toNat)), (1, .int (Int32.ofInt x1)), (2, .int (Int32.ofInt x2))]) (hw : f_X11_tell_u0 Q σ x1 x2) : ml_V p l e rm_X11_tell s m args below meth c (MQ below (ml_Qi I32 base D cA n Q) args s 0 0 (ml_A base)) base D cA 0 0 n n σ (F0 m 0 ls []) := by
  unfold f_X11_tell_u0 at hw
  refine ml_iload_n (pc := 0) X hl 2 rfl rfl dX11_tell_0 ?_
  refine ml_iconst (pc := 1) X dX11_tell_1 ?_
  refine ml_icmp_lt (pc := 2) (tgt := 22) X h_x2 ⟨by decide, by decide⟩ dX11_tell_2 (by decide) (fun c1 => ?_) (fun c1 => ?_)
  · have hw := hw.1 c1
    exact u_X11_tell_22 X hn σ   _ (lv_sub hl [] rfl) hw
  · have hw := hw.2 c1
    refine ml_iload_n (pc := 5) X hl 2 rfl rfl dX11_tell_5 ?_
    refine ml_bipush (pc := 6) X dX11_tell_6 (by decide) ?_
    refine ml_icmp_gt (pc := 8) (tgt := 22) X h_x2 ⟨by decide, by decide⟩ dX11_tell_8 (by decide) (fun c2 => ?_) (fun c2 => ?_)
    · have hw := hw.1 c2
      exact u_X11_tell_22 X hn σ   _ (lv_sub hl [] rfl) hw
    · have hw := hw.2 c2
      refine ml_aload_n (pc := 11) X hl 0 rfl rfl dX11_tell_11 ?_
      refine gf_X11_10 (pc := 12) X (ml_c1 hn) dX11_tell_12 ?_
      refine gf_X11_94 (pc := 15) X (ml_c2 hn) dX11_tell_15 (fun r3 => ?_)
      have hw := hw r3
      refine ml_iload_n (pc := 18) X hl 2 rfl rfl dX11_tell_18 ?_
      refine ml_icmp_ge (pc := 19) (tgt := 24) X r3 h_x2 dX11_tell_19 (by decide) (fun c4 => ?_) (fun c4 => ?_)
      · have hw := hw.1 c4
        refine ml_iconst (pc := 24) X dX11_tell_24 ?_
        refine ml_istore_n (pc := 25) X rfl hl (by decide) (lst' := [(3, .int (Int32.ofInt 0)), (0, .ref (base + (1 : Int).toNat)), (1, .int (Int32.ofInt x1)), (2, .int (Int32.ofInt x2))]) rfl dX11_tell_25 (fun ls hl => ?_)
        obtain ⟨N0, hw⟩ := hw
        exact u_X11_tell_26 X hn (fun σ x1 x2 h_x1 h_x2 ls hl hw => u_X11_tell_53 X hn σ x1 x2 h_x1 h_x2 ls hl hw) N0 σ x1 x2 0 h_x1 h_x2 ⟨by decide, by decide⟩ _ (lv_sub hl [1, 2, 3, 0] rfl) hw
      · have hw := hw.2 c4
        exact u_X11_tell_22 X hn σ   _ (lv_sub hl [] rfl) hw
set_option maxRecDepth 100000 in
theorem c_X11_tell (l : Launch) (base : Nat) (D : va_G) (cA : Nat → ClassId) (n : Nat) (hn : 214 ≤ n) (σ : ml_St) (x1 : Int) (x2 : Int) (h_x1 : I32 x1) (h_x2 : I32 x2) (Q : Int → ml_St → Prop) (hw : f_X11_tell σ x1 x2 Q) : Met l yX11_tell (Cond.code yX11_tell cX11_tell 4 (some .int) :: ml_T) rm_X11_tell (va_Pc [.ref (base + (1 : Int).toNat), .int (Int32.ofInt x1), .int (Int32.ofInt x2)] (ml_U base D cA n σ)) (ml_Qi I32 base D cA n Q) 0 0 (ml_A base) := by
  refine Met.ofW (cc := cX11_tell) (maxL := 4) (ret := (some .int)) (by decide) rfl ?_
  intro p e s m args below meth c s₁ B hml hv
  obtain ⟨rfl, hP, hK, hok, hro⟩ := hv
  have X : ml_X p s m c meth _ D cA cX11_tell 4 RX11 (some .int) := ⟨B.exec, B.bytes, hml, findClass_of_methodNamed B.named, fun w hw => atoms_spec (ws := Cond.code yX11_tell cX11_tell 4 (some .int) :: ml_T) B.pre w (List.mem_cons_of_mem _ hw), hK, B.notSynchronized, B.returns⟩
  have hl := lv_entry [.ref (base + (1 : Int).toNat), .int (Int32.ofInt x1), .int (Int32.ofInt x2)] (n := 4) (Nat.le_of_ble_eq_true rfl)
  rw [lg_entry_eq]
  generalize (lg_sl [.ref (base + (1 : Int).toNat), .int (Int32.ofInt x1), .int (Int32.ofInt x2)] ++ List.replicate (4 - (lg_sl [.ref (base + (1 : Int).toNat), .int (Int32.ofInt x1), .int (Int32.ofInt x2)]).length) Slot.unset).toArray = ls at hl ⊢
  have hl : lv_has ls 4 [(0, .ref (base + (1 : Int).toNat)), (1, .int (Int32.ofInt x1)), (2, .int (Int32.ofInt x2))] := hl
  unfold f_X11_tell at hw
  exact u_X11_tell_0 X hn σ x1 x2 h_x1 h_x2 _ (lv_sub hl [0, 1, 2] rfl) hw s.heap [] hP va_S.rf hok hro
theorem dX11_word_0 : decode cX11_word 0 = .ok (.aload_n 0, 1) := by decide +kernel
theorem dX11_word_1 : decode cX11_word 1 = .ok (.getfield 86, 3) := by decide +kernel
theorem dX11_word_4 : decode cX11_word 4 = .ok (.bipush 16, 2) := by decide +kernel
theorem dX11_word_6 : decode cX11_word 6 = .ok (.if_icmp .ne 5, 3) := by decide +kernel
theorem dX11_word_9 : decode cX11_word 9 = .ok (.iconst (-1), 1) := by decide +kernel
theorem dX11_word_10 : decode cX11_word 10 = .ok (.ireturn, 1) := by decide +kernel
theorem dX11_word_11 : decode cX11_word 11 = .ok (.aload_n 0, 1) := by decide +kernel
theorem dX11_word_12 : decode cX11_word 12 = .ok (.aload_n 0, 1) := by decide +kernel
theorem dX11_word_13 : decode cX11_word 13 = .ok (.getfield 86, 3) := by decide +kernel
theorem dX11_word_16 : decode cX11_word 16 = .ok (.iload_n 1, 1) := by decide +kernel
theorem dX11_word_17 : decode cX11_word 17 = .ok (.invokevirtual 100, 3) := by decide +kernel
theorem dX11_word_20 : decode cX11_word 20 = .ok (.ireturn, 1) := by decide +kernel
def f_X11_word_u0 (Q : Int → ml_St → Prop) (σ : ml_St) (x1 : Int) : Prop :=
∀ _ : I32 (σ 1 12),
(((σ 1 12) : Int) ≠ 16 →
∀ _ : I32 (σ 1 12),
f_X11_tell σ (σ 1 12) x1 (fun r4 σ4 => ∀ _ : I32 r4,
Q r4 σ4)) ∧
((σ 1 12) = 16 →
Q (-1) σ)
def f_X11_word (σ : ml_St) (x1 : Int) (Q : Int → ml_St → Prop) : Prop := f_X11_word_u0 Q σ x1
def rm_X11_word : Room := { frames := 2, cells := 0, slots := 0, locals := 83 }
set_option maxRecDepth 100000 in
set_option maxHeartbeats 4000000 in
theorem u_X11_word_0 {p : Program} {e : Env} {s : State} {m : MethodId} {args : Array Value} {below : List Frame} {meth : Method} {c : Code} {base : Nat} {D : va_G} {cA : Nat → ClassId} {n : Nat} {l : Launch} {Q : Int → ml_St → Prop} (X : ml_X p s m c meth args D cA cX11_word 2 RX11 (some .int)) (hn : 214 ≤ n) (σ : ml_St) (x1 : Int) (h_x1 : I32 x1) (ls : Array Slot) (hl : lv_has ls 2 [(0, .ref (base + (1 : Int).toNat)), (1, .int (Int32.ofInt x1))]) (hw : f_X11_word_u0 Q σ x1) : ml_V p l e rm_X11_word s m args below meth c (MQ below (ml_Qi I32 base D cA n Q) args s 0 0 (ml_A base)) base D cA 0 0 n n σ (F0 m 0 ls []) := by
  unfold f_X11_word_u0 at hw
  refine ml_aload_n (pc := 0) X hl 0 rfl rfl dX11_word_0 ?_
  refine gf_X11_86 (pc := 1) X (ml_c1 hn) dX11_word_1 (fun r1 => ?_)
  have hw := hw r1
  refine ml_bipush (pc := 4) X dX11_word_4 (by decide) ?_
  refine ml_icmp_ne (pc := 6) (tgt := 11) X r1 ⟨by decide, by decide⟩ dX11_word_6 (by decide) (fun c2 => ?_) (fun c2 => ?_)
  · have hw := hw.1 c2
    refine ml_aload_n (pc := 11) X hl 0 rfl rfl dX11_word_11 ?_
    refine ml_aload_n (pc := 12) X hl 0 rfl rfl dX11_word_12 ?_
    refine gf_X11_86 (pc := 13) X (ml_c1 hn) dX11_word_13 (fun r3 => ?_)
    have hw := hw r3
    refine ml_iload_n (pc := 16) X hl 1 rfl rfl dX11_word_16 ?_
    refine ml_calliV (pc := 17) (rest := []) X [.int (Int32.ofInt (σ 1 12)), .int (Int32.ofInt x1)] (by decide) rfl (ml_c1 hn) (c_X11_tell l base D cA n hn σ (σ 1 12) x1 r3 h_x1 _ hw) cv_X11_100 ⟨rfl, rfl⟩ ⟨by decide, by decide⟩ rfl rfl hl (Nat.le_of_ble_eq_true rfl) ⟨Nat.zero_le _, Nat.zero_le _⟩ dX11_word_17 (fun r4 σ4 t4 hw => ?_)
    have hw := hw t4
    exact ml_iret (pc := 20) X t4 hw dX11_word_20
  · have hw := hw.2 c2
    refine ml_iconst (pc := 9) X dX11_word_9 ?_
    exact ml_iret (pc := 10) X ⟨by decide, by decide⟩ hw dX11_word_10
set_option maxRecDepth 100000 in
theorem c_X11_word (l : Launch) (base : Nat) (D : va_G) (cA : Nat → ClassId) (n : Nat) (hn : 214 ≤ n) (σ : ml_St) (x1 : Int) (h_x1 : I32 x1) (Q : Int → ml_St → Prop) (hw : f_X11_word σ x1 Q) : Met l yX11_word (Cond.code yX11_word cX11_word 2 (some .int) :: ml_T) rm_X11_word (va_Pc [.ref (base + (1 : Int).toNat), .int (Int32.ofInt x1)] (ml_U base D cA n σ)) (ml_Qi I32 base D cA n Q) 0 0 (ml_A base) := by
  refine Met.ofW (cc := cX11_word) (maxL := 2) (ret := (some .int)) (by decide) rfl ?_
  intro p e s m args below meth c s₁ B hml hv
  obtain ⟨rfl, hP, hK, hok, hro⟩ := hv
  have X : ml_X p s m c meth _ D cA cX11_word 2 RX11 (some .int) := ⟨B.exec, B.bytes, hml, findClass_of_methodNamed B.named, fun w hw => atoms_spec (ws := Cond.code yX11_word cX11_word 2 (some .int) :: ml_T) B.pre w (List.mem_cons_of_mem _ hw), hK, B.notSynchronized, B.returns⟩
  have hl := lv_entry [.ref (base + (1 : Int).toNat), .int (Int32.ofInt x1)] (n := 2) (Nat.le_of_ble_eq_true rfl)
  rw [lg_entry_eq]
  generalize (lg_sl [.ref (base + (1 : Int).toNat), .int (Int32.ofInt x1)] ++ List.replicate (2 - (lg_sl [.ref (base + (1 : Int).toNat), .int (Int32.ofInt x1)]).length) Slot.unset).toArray = ls at hl ⊢
  have hl : lv_has ls 2 [(0, .ref (base + (1 : Int).toNat)), (1, .int (Int32.ofInt x1))] := hl
  unfold f_X11_word at hw
  exact u_X11_word_0 X hn σ x1 h_x1 _ (lv_sub hl [0, 1] rfl) hw s.heap [] hP va_S.rf hok hro
theorem dX11_isTold_0 : decode cX11_isTold 0 = .ok (.iload_n 1, 1) := by decide +kernel
theorem dX11_isTold_1 : decode cX11_isTold 1 = .ok (.ifCond .lt 15, 3) := by decide +kernel
theorem dX11_isTold_4 : decode cX11_isTold 4 = .ok (.iload_n 1, 1) := by decide +kernel
theorem dX11_isTold_5 : decode cX11_isTold 5 = .ok (.aload_n 0, 1) := by decide +kernel
theorem dX11_isTold_6 : decode cX11_isTold 6 = .ok (.getfield 86, 3) := by decide +kernel
theorem dX11_isTold_9 : decode cX11_isTold 9 = .ok (.if_icmp .ge 7, 3) := by decide +kernel
theorem dX11_isTold_12 : decode cX11_isTold 12 = .ok (.iconst 1, 1) := by decide +kernel
theorem dX11_isTold_13 : decode cX11_isTold 13 = .ok (.goto 4, 3) := by decide +kernel
theorem dX11_isTold_16 : decode cX11_isTold 16 = .ok (.iconst 0, 1) := by decide +kernel
theorem dX11_isTold_17 : decode cX11_isTold 17 = .ok (.ireturn, 1) := by decide +kernel
def f_X11_isTold_u17 (Q : Int → ml_St → Prop) (σ : ml_St) (s0 : Int) : Prop :=
Q s0 σ
def f_X11_isTold_u16 (Q : Int → ml_St → Prop) (σ : ml_St) : Prop :=
f_X11_isTold_u17 Q σ 0
def f_X11_isTold_u0 (Q : Int → ml_St → Prop) (σ : ml_St) (x1 : Int) : Prop :=
(x1 < 0 →
f_X11_isTold_u16 Q σ) ∧
(¬ (x1 < 0) →
∀ _ : I32 (σ 1 12),
((σ 1 12) ≤ x1 →
f_X11_isTold_u16 Q σ) ∧
(¬ ((σ 1 12) ≤ x1) →
f_X11_isTold_u17 Q σ 1))
def f_X11_isTold (σ : ml_St) (x1 : Int) (Q : Int → ml_St → Prop) : Prop := f_X11_isTold_u0 Q σ x1
def rm_X11_isTold : Room := { frames := 0, cells := 0, slots := 0, locals := 0 }
set_option maxRecDepth 100000 in
set_option maxHeartbeats 4000000 in
theorem u_X11_isTold_17 {p : Program} {e : Env} {s : State} {m : MethodId} {args : Array Value} {below : List Frame} {meth : Method} {c : Code} {base : Nat} {D : va_G} {cA : Nat → ClassId} {n : Nat} {l : Launch} {Q : Int → ml_St → Prop} (X : ml_X p s m c meth args D cA cX11_isTold 2 RX11 (some .boolean)) (hn : 214 ≤ n) (σ : ml_St) (s0 : Int) (h_s0 : ml_B s0) (ls : Array Slot) (hl : lv_has ls 2 []) (hw : f_X11_isTold_u17 Q σ s0) : ml_V p l e rm_X11_isTold s m args below meth c (MQ below (ml_Qi ml_B base D cA n Q) args s 0 0 (ml_A base)) base D cA 0 0 n n σ (F0 m 17 ls [.int (Int32.ofInt s0)]) := by
  unfold f_X11_isTold_u17 at hw
  exact ml_zret (pc := 17) X h_s0 hw dX11_isTold_17
set_option maxRecDepth 100000 in
set_option maxHeartbeats 4000000 in
theorem u_X11_isTold_16 {p : Program} {e : Env} {s : State} {m : MethodId} {args : Array Value} {below : List Frame} {meth : Method} {c : Code} {base : Nat} {D : va_G} {cA : Nat → ClassId} {n : Nat} {l : Launch} {Q : Int → ml_St → Prop} (X : ml_X p s m c meth args D cA cX11_isTold 2 RX11 (some .boolean)) (hn : 214 ≤ n) (σ : ml_St) (ls : Array Slot) (hl : lv_has ls 2 []) (hw : f_X11_isTold_u16 Q σ) : ml_V p l e rm_X11_isTold s m args below meth c (MQ below (ml_Qi ml_B base D cA n Q) args s 0 0 (ml_A base)) base D cA 0 0 n n σ (F0 m 16 ls []) := by
  unfold f_X11_isTold_u16 at hw
  refine ml_iconst (pc := 16) X dX11_isTold_16 ?_
  exact u_X11_isTold_17 X hn σ 0 ⟨by decide, by decide⟩ _ (lv_sub hl [] rfl) hw
set_option maxRecDepth 100000 in
set_option maxHeartbeats 4000000 in
theorem u_X11_isTold_0 {p : Program} {e : Env} {s : State} {m : MethodId} {args : Array Value} {below : List Frame} {meth : Method} {c : Code} {base : Nat} {D : va_G} {cA : Nat → ClassId} {n : Nat} {l : Launch} {Q : Int → ml_St → Prop} (X : ml_X p s m c meth args D cA cX11_isTold 2 RX11 (some .boolean)) (hn : 214 ≤ n) (σ : ml_St) (x1 : Int) (h_x1 : I32 x1) (ls : Array Slot) (hl : lv_has ls 2 [(0, .ref (base + (1 : Int).toNat)), (1, .int (Int32.ofInt x1))]) (hw : f_X11_isTold_u0 Q σ x1) : ml_V p l e rm_X11_isTold s m args below meth c (MQ below (ml_Qi ml_B base D cA n Q) args s 0 0 (ml_A base)) base D cA 0 0 n n σ (F0 m 0 ls []) := by
  unfold f_X11_isTold_u0 at hw
  refine ml_iload_n (pc := 0) X hl 1 rfl rfl dX11_isTold_0 ?_
  refine ml_if_lt (pc := 1) (tgt := 16) X h_x1 dX11_isTold_1 (by decide) (fun c1 => ?_) (fun c1 => ?_)
  · have hw := hw.1 c1
    exact u_X11_isTold_16 X hn σ   _ (lv_sub hl [] rfl) hw
  · have hw := hw.2 c1
    refine ml_iload_n (pc := 4) X hl 1 rfl rfl dX11_isTold_4 ?_
    refine ml_aload_n (pc := 5) X hl 0 rfl rfl dX11_isTold_5 ?_
    refine gf_X11_86 (pc := 6) X (ml_c1 hn) dX11_isTold_6 (fun r2 => ?_)
    have hw := hw r2
    refine ml_icmp_ge (pc := 9) (tgt := 16) X h_x1 r2 dX11_isTold_9 (by decide) (fun c3 => ?_) (fun c3 => ?_)
    · have hw := hw.1 c3
      exact u_X11_isTold_16 X hn σ   _ (lv_sub hl [] rfl) hw
    · have hw := hw.2 c3
      refine ml_iconst (pc := 12) X dX11_isTold_12 ?_
      refine ml_goto (pc := 13) (tgt := 17) X dX11_isTold_13 (by decide) ?_
      exact u_X11_isTold_17 X hn σ 1 ⟨by decide, by decide⟩ _ (lv_sub hl [] rfl) hw
set_option maxRecDepth 100000 in
theorem c_X11_isTold (l : Launch) (base : Nat) (D : va_G) (cA : Nat → ClassId) (n : Nat) (hn : 214 ≤ n) (σ : ml_St) (x1 : Int) (h_x1 : I32 x1) (Q : Int → ml_St → Prop) (hw : f_X11_isTold σ x1 Q) : Met l yX11_isTold (Cond.code yX11_isTold cX11_isTold 2 (some .boolean) :: ml_T) rm_X11_isTold (va_Pc [.ref (base + (1 : Int).toNat), .int (Int32.ofInt x1)] (ml_U base D cA n σ)) (ml_Qi ml_B base D cA n Q) 0 0 (ml_A base) := by
  refine Met.ofW (cc := cX11_isTold) (maxL := 2) (ret := (some .boolean)) (by decide) rfl ?_
  intro p e s m args below meth c s₁ B hml hv
  obtain ⟨rfl, hP, hK, hok, hro⟩ := hv
  have X : ml_X p s m c meth _ D cA cX11_isTold 2 RX11 (some .boolean) := ⟨B.exec, B.bytes, hml, findClass_of_methodNamed B.named, fun w hw => atoms_spec (ws := Cond.code yX11_isTold cX11_isTold 2 (some .boolean) :: ml_T) B.pre w (List.mem_cons_of_mem _ hw), hK, B.notSynchronized, B.returns⟩
  have hl := lv_entry [.ref (base + (1 : Int).toNat), .int (Int32.ofInt x1)] (n := 2) (Nat.le_of_ble_eq_true rfl)
  rw [lg_entry_eq]
  generalize (lg_sl [.ref (base + (1 : Int).toNat), .int (Int32.ofInt x1)] ++ List.replicate (2 - (lg_sl [.ref (base + (1 : Int).toNat), .int (Int32.ofInt x1)]).length) Slot.unset).toArray = ls at hl ⊢
  have hl : lv_has ls 2 [(0, .ref (base + (1 : Int).toNat)), (1, .int (Int32.ofInt x1))] := hl
  unfold f_X11_isTold at hw
  exact u_X11_isTold_0 X hn σ x1 h_x1 _ (lv_sub hl [0, 1] rfl) hw s.heap [] hP va_S.rf hok hro
theorem dX11_change_0 : decode cX11_change 0 = .ok (.aload_n 0, 1) := by decide +kernel
theorem dX11_change_1 : decode cX11_change 1 = .ok (.iload_n 1, 1) := by decide +kernel
theorem dX11_change_2 : decode cX11_change 2 = .ok (.invokevirtual 104, 3) := by decide +kernel
theorem dX11_change_5 : decode cX11_change 5 = .ok (.ifCond .ne 5, 3) := by decide +kernel
theorem dX11_change_8 : decode cX11_change 8 = .ok (.iconst (-1), 1) := by decide +kernel
theorem dX11_change_9 : decode cX11_change 9 = .ok (.ireturn, 1) := by decide +kernel
theorem dX11_change_10 : decode cX11_change 10 = .ok (.aload_n 0, 1) := by decide +kernel
theorem dX11_change_11 : decode cX11_change 11 = .ok (.iload_n 1, 1) := by decide +kernel
theorem dX11_change_12 : decode cX11_change 12 = .ok (.iload_n 2, 1) := by decide +kernel
theorem dX11_change_13 : decode cX11_change 13 = .ok (.invokevirtual 100, 3) := by decide +kernel
theorem dX11_change_16 : decode cX11_change 16 = .ok (.ireturn, 1) := by decide +kernel
def f_X11_change_u0 (Q : Int → ml_St → Prop) (σ : ml_St) (x1 : Int) (x2 : Int) : Prop :=
f_X11_isTold σ x1 (fun r1 σ1 => ∀ _ : ml_B r1,
(r1 ≠ 0 →
f_X11_tell σ1 x1 x2 (fun r3 σ3 => ∀ _ : I32 r3,
Q r3 σ3)) ∧
(r1 = 0 →
Q (-1) σ1))
def f_X11_change (σ : ml_St) (x1 : Int) (x2 : Int) (Q : Int → ml_St → Prop) : Prop := f_X11_change_u0 Q σ x1 x2
def rm_X11_change : Room := { frames := 2, cells := 0, slots := 0, locals := 83 }
set_option maxRecDepth 100000 in
set_option maxHeartbeats 4000000 in
theorem u_X11_change_0 {p : Program} {e : Env} {s : State} {m : MethodId} {args : Array Value} {below : List Frame} {meth : Method} {c : Code} {base : Nat} {D : va_G} {cA : Nat → ClassId} {n : Nat} {l : Launch} {Q : Int → ml_St → Prop} (X : ml_X p s m c meth args D cA cX11_change 3 RX11 (some .int)) (hn : 214 ≤ n) (σ : ml_St) (x1 : Int) (x2 : Int) (h_x1 : I32 x1) (h_x2 : I32 x2) (ls : Array Slot) (hl : lv_has ls 3 [(0, .ref (base + (1 : Int).toNat)), (1, .int (Int32.ofInt x1)), (2, .int (Int32.ofInt x2))]) (hw : f_X11_change_u0 Q σ x1 x2) : ml_V p l e rm_X11_change s m args below meth c (MQ below (ml_Qi I32 base D cA n Q) args s 0 0 (ml_A base)) base D cA 0 0 n n σ (F0 m 0 ls []) := by
  unfold f_X11_change_u0 at hw
  refine ml_aload_n (pc := 0) X hl 0 rfl rfl dX11_change_0 ?_
  refine ml_iload_n (pc := 1) X hl 1 rfl rfl dX11_change_1 ?_
  refine ml_callzV (pc := 2) (rest := []) X [.int (Int32.ofInt x1)] (by decide) rfl (ml_c1 hn) (c_X11_isTold l base D cA n hn σ x1 h_x1 _ hw) cv_X11_104 ⟨rfl, rfl⟩ ⟨by decide, by decide⟩ rfl rfl hl (Nat.le_of_ble_eq_true rfl) ⟨Nat.zero_le _, Nat.zero_le _⟩ dX11_change_2 (fun r1 σ1 t1 hw => ?_)
  have hw := hw t1
  refine ml_if_ne (pc := 5) (tgt := 10) X t1.i dX11_change_5 (by decide) (fun c2 => ?_) (fun c2 => ?_)
  · have hw := hw.1 c2
    refine ml_aload_n (pc := 10) X hl 0 rfl rfl dX11_change_10 ?_
    refine ml_iload_n (pc := 11) X hl 1 rfl rfl dX11_change_11 ?_
    refine ml_iload_n (pc := 12) X hl 2 rfl rfl dX11_change_12 ?_
    refine ml_calliV (pc := 13) (rest := []) X [.int (Int32.ofInt x1), .int (Int32.ofInt x2)] (by decide) rfl (ml_c1 hn) (c_X11_tell l base D cA n hn σ1 x1 x2 h_x1 h_x2 _ hw) cv_X11_100 ⟨rfl, rfl⟩ ⟨by decide, by decide⟩ rfl rfl hl (Nat.le_of_ble_eq_true rfl) ⟨Nat.zero_le _, Nat.zero_le _⟩ dX11_change_13 (fun r3 σ3 t3 hw => ?_)
    have hw := hw t3
    exact ml_iret (pc := 16) X t3 hw dX11_change_16
  · have hw := hw.2 c2
    refine ml_iconst (pc := 8) X dX11_change_8 ?_
    exact ml_iret (pc := 9) X ⟨by decide, by decide⟩ hw dX11_change_9
set_option maxRecDepth 100000 in
theorem c_X11_change (l : Launch) (base : Nat) (D : va_G) (cA : Nat → ClassId) (n : Nat) (hn : 214 ≤ n) (σ : ml_St) (x1 : Int) (x2 : Int) (h_x1 : I32 x1) (h_x2 : I32 x2) (Q : Int → ml_St → Prop) (hw : f_X11_change σ x1 x2 Q) : Met l yX11_change (Cond.code yX11_change cX11_change 3 (some .int) :: ml_T) rm_X11_change (va_Pc [.ref (base + (1 : Int).toNat), .int (Int32.ofInt x1), .int (Int32.ofInt x2)] (ml_U base D cA n σ)) (ml_Qi I32 base D cA n Q) 0 0 (ml_A base) := by
  refine Met.ofW (cc := cX11_change) (maxL := 3) (ret := (some .int)) (by decide) rfl ?_
  intro p e s m args below meth c s₁ B hml hv
  obtain ⟨rfl, hP, hK, hok, hro⟩ := hv
  have X : ml_X p s m c meth _ D cA cX11_change 3 RX11 (some .int) := ⟨B.exec, B.bytes, hml, findClass_of_methodNamed B.named, fun w hw => atoms_spec (ws := Cond.code yX11_change cX11_change 3 (some .int) :: ml_T) B.pre w (List.mem_cons_of_mem _ hw), hK, B.notSynchronized, B.returns⟩
  have hl := lv_entry [.ref (base + (1 : Int).toNat), .int (Int32.ofInt x1), .int (Int32.ofInt x2)] (n := 3) (Nat.le_of_ble_eq_true rfl)
  rw [lg_entry_eq]
  generalize (lg_sl [.ref (base + (1 : Int).toNat), .int (Int32.ofInt x1), .int (Int32.ofInt x2)] ++ List.replicate (3 - (lg_sl [.ref (base + (1 : Int).toNat), .int (Int32.ofInt x1), .int (Int32.ofInt x2)]).length) Slot.unset).toArray = ls at hl ⊢
  have hl : lv_has ls 3 [(0, .ref (base + (1 : Int).toNat)), (1, .int (Int32.ofInt x1)), (2, .int (Int32.ofInt x2))] := hl
  unfold f_X11_change at hw
  exact u_X11_change_0 X hn σ x1 x2 h_x1 h_x2 _ (lv_sub hl [0, 1, 2] rfl) hw s.heap [] hP va_S.rf hok hro
theorem dX11_round_0 : decode cX11_round 0 = .ok (.aload_n 0, 1) := by decide +kernel
theorem dX11_round_1 : decode cX11_round 1 = .ok (.getfield 19, 3) := by decide +kernel
theorem dX11_round_4 : decode cX11_round 4 = .ok (.aload_n 0, 1) := by decide +kernel
theorem dX11_round_5 : decode cX11_round 5 = .ok (.getfield 82, 3) := by decide +kernel
theorem dX11_round_8 : decode cX11_round 8 = .ok (.invokevirtual 90, 3) := by decide +kernel
theorem dX11_round_11 : decode cX11_round 11 = .ok (.iconst 1, 1) := by decide +kernel
theorem dX11_round_12 : decode cX11_round 12 = .ok (.ireturn, 1) := by decide +kernel
def f_X11_round_u0 (Q : Int → ml_St → Prop) (σ : ml_St) : Prop :=
∀ _ : I32 (σ 1 11),
f_X0_goRound σ (σ 1 11) (fun σ2 =>
Q 1 σ2)
def f_X11_round (σ : ml_St) (Q : Int → ml_St → Prop) : Prop := f_X11_round_u0 Q σ
def rm_X11_round : Room := { frames := 1, cells := 0, slots := 0, locals := 22 }
set_option maxRecDepth 100000 in
set_option maxHeartbeats 4000000 in
theorem u_X11_round_0 {p : Program} {e : Env} {s : State} {m : MethodId} {args : Array Value} {below : List Frame} {meth : Method} {c : Code} {base : Nat} {D : va_G} {cA : Nat → ClassId} {n : Nat} {l : Launch} {Q : Int → ml_St → Prop} (X : ml_X p s m c meth args D cA cX11_round 1 RX11 (some .boolean)) (hn : 214 ≤ n) (σ : ml_St) (ls : Array Slot) (hl : lv_has ls 1 [(0, .ref (base + (1 : Int).toNat))]) (hw : f_X11_round_u0 Q σ) : ml_V p l e rm_X11_round s m args below meth c (MQ below (ml_Qi ml_B base D cA n Q) args s 0 0 (ml_A base)) base D cA 0 0 n n σ (F0 m 0 ls []) := by
  unfold f_X11_round_u0 at hw
  refine ml_aload_n (pc := 0) X hl 0 rfl rfl dX11_round_0 ?_
  refine gf_X11_19 (pc := 1) X (ml_c1 hn) dX11_round_1 ?_
  refine ml_aload_n (pc := 4) X hl 0 rfl rfl dX11_round_4 ?_
  refine gf_X11_82 (pc := 5) X (ml_c1 hn) dX11_round_5 (fun r1 => ?_)
  have hw := hw r1
  refine ml_callvV (pc := 8) (rest := []) X [.int (Int32.ofInt (σ 1 11))] (by decide) rfl (ml_c4 hn) (c_X0_goRound l base D cA n hn σ (σ 1 11) r1 _ hw) cv_X11_90 ⟨rfl, rfl⟩ ⟨by decide, by decide⟩ rfl rfl hl (Nat.le_of_ble_eq_true rfl) ⟨Nat.zero_le _, Nat.zero_le _⟩ dX11_round_8 (fun σ2 hw => ?_)
  refine ml_iconst (pc := 11) X dX11_round_11 ?_
  exact ml_zret (pc := 12) X ⟨by decide, by decide⟩ hw dX11_round_12
set_option maxRecDepth 100000 in
theorem c_X11_round (l : Launch) (base : Nat) (D : va_G) (cA : Nat → ClassId) (n : Nat) (hn : 214 ≤ n) (σ : ml_St) (Q : Int → ml_St → Prop) (hw : f_X11_round σ Q) : Met l yX11_round (Cond.code yX11_round cX11_round 1 (some .boolean) :: ml_T) rm_X11_round (va_Pc [.ref (base + (1 : Int).toNat)] (ml_U base D cA n σ)) (ml_Qi ml_B base D cA n Q) 0 0 (ml_A base) := by
  refine Met.ofW (cc := cX11_round) (maxL := 1) (ret := (some .boolean)) (by decide) rfl ?_
  intro p e s m args below meth c s₁ B hml hv
  obtain ⟨rfl, hP, hK, hok, hro⟩ := hv
  have X : ml_X p s m c meth _ D cA cX11_round 1 RX11 (some .boolean) := ⟨B.exec, B.bytes, hml, findClass_of_methodNamed B.named, fun w hw => atoms_spec (ws := Cond.code yX11_round cX11_round 1 (some .boolean) :: ml_T) B.pre w (List.mem_cons_of_mem _ hw), hK, B.notSynchronized, B.returns⟩
  have hl := lv_entry [.ref (base + (1 : Int).toNat)] (n := 1) (Nat.le_of_ble_eq_true rfl)
  rw [lg_entry_eq]
  generalize (lg_sl [.ref (base + (1 : Int).toNat)] ++ List.replicate (1 - (lg_sl [.ref (base + (1 : Int).toNat)]).length) Slot.unset).toArray = ls at hl ⊢
  have hl : lv_has ls 1 [(0, .ref (base + (1 : Int).toNat))] := hl
  unfold f_X11_round at hw
  exact u_X11_round_0 X hn σ  _ (lv_sub hl [0] rfl) hw s.heap [] hP va_S.rf hok hro
theorem dX11_caps_0 : decode cX11_caps 0 = .ok (.aload_n 0, 1) := by decide +kernel
theorem dX11_caps_1 : decode cX11_caps 1 = .ok (.getfield 82, 3) := by decide +kernel
theorem dX11_caps_4 : decode cX11_caps 4 = .ok (.iconst 2, 1) := by decide +kernel
theorem dX11_caps_5 : decode cX11_caps 5 = .ok (.irem, 1) := by decide +kernel
theorem dX11_caps_6 : decode cX11_caps 6 = .ok (.ifCond .ne 19, 3) := by decide +kernel
theorem dX11_caps_9 : decode cX11_caps 9 = .ok (.aload_n 0, 1) := by decide +kernel
theorem dX11_caps_10 : decode cX11_caps 10 = .ok (.getfield 10, 3) := by decide +kernel
theorem dX11_caps_13 : decode cX11_caps 13 = .ok (.getfield 94, 3) := by decide +kernel
theorem dX11_caps_16 : decode cX11_caps 16 = .ok (.iconst 2, 1) := by decide +kernel
theorem dX11_caps_17 : decode cX11_caps 17 = .ok (.aload_n 0, 1) := by decide +kernel
theorem dX11_caps_18 : decode cX11_caps 18 = .ok (.getfield 82, 3) := by decide +kernel
theorem dX11_caps_21 : decode cX11_caps 21 = .ok (.imul, 1) := by decide +kernel
theorem dX11_caps_22 : decode cX11_caps 22 = .ok (.if_icmp .ge 5, 3) := by decide +kernel
theorem dX11_caps_25 : decode cX11_caps 25 = .ok (.iconst 0, 1) := by decide +kernel
theorem dX11_caps_26 : decode cX11_caps 26 = .ok (.ireturn, 1) := by decide +kernel
theorem dX11_caps_27 : decode cX11_caps 27 = .ok (.aload_n 0, 1) := by decide +kernel
theorem dX11_caps_28 : decode cX11_caps 28 = .ok (.getfield 19, 3) := by decide +kernel
theorem dX11_caps_31 : decode cX11_caps 31 = .ok (.aload_n 0, 1) := by decide +kernel
theorem dX11_caps_32 : decode cX11_caps 32 = .ok (.getfield 10, 3) := by decide +kernel
theorem dX11_caps_35 : decode cX11_caps 35 = .ok (.aload_n 0, 1) := by decide +kernel
theorem dX11_caps_36 : decode cX11_caps 36 = .ok (.getfield 82, 3) := by decide +kernel
theorem dX11_caps_39 : decode cX11_caps 39 = .ok (.invokevirtual 108, 3) := by decide +kernel
theorem dX11_caps_42 : decode cX11_caps 42 = .ok (.istore_n 1, 1) := by decide +kernel
theorem dX11_caps_43 : decode cX11_caps 43 = .ok (.aload_n 0, 1) := by decide +kernel
theorem dX11_caps_44 : decode cX11_caps 44 = .ok (.getfield 10, 3) := by decide +kernel
theorem dX11_caps_47 : decode cX11_caps 47 = .ok (.iconst 0, 1) := by decide +kernel
theorem dX11_caps_48 : decode cX11_caps 48 = .ok (.putfield 94, 3) := by decide +kernel
theorem dX11_caps_51 : decode cX11_caps 51 = .ok (.iload_n 1, 1) := by decide +kernel
theorem dX11_caps_52 : decode cX11_caps 52 = .ok (.ireturn, 1) := by decide +kernel
def f_X11_caps_u25 (Q : Int → ml_St → Prop) (σ : ml_St) : Prop :=
Q 0 σ
def f_X11_caps_u0 (Q : Int → ml_St → Prop) (σ : ml_St) : Prop :=
∀ _ : I32 (σ 1 11),
(2 : Int) ≠ 0 ∧ I32 (Int.tmod (σ 1 11) 2) ∧
(((Int.tmod (σ 1 11) 2) : Int) ≠ 0 →
f_X11_caps_u25 Q σ) ∧
((Int.tmod (σ 1 11) 2) = 0 →
∀ _ : I32 (σ 2 1),
∀ _ : I32 (σ 1 11),
I32 (2 * (σ 1 11)) ∧
((2 * (σ 1 11)) ≤ ((σ 2 1) : Int) →
∀ _ : I32 (σ 1 11),
False) ∧
(¬ ((2 * (σ 1 11)) ≤ ((σ 2 1) : Int)) →
f_X11_caps_u25 Q σ))
def f_X11_caps (σ : ml_St) (Q : Int → ml_St → Prop) : Prop := f_X11_caps_u0 Q σ
def rm_X11_caps : Room := { frames := 0, cells := 0, slots := 0, locals := 0 }
set_option maxRecDepth 100000 in
set_option maxHeartbeats 4000000 in
theorem u_X11_caps_25 {p : Program} {e : Env} {s : State} {m : MethodId} {args : Array Value} {below : List Frame} {meth : Method} {c : Code} {base : Nat} {D : va_G} {cA : Nat → ClassId} {n : Nat} {l : Launch} {Q : Int → ml_St → Prop} (X : ml_X p s m c meth args D cA cX11_caps 2 RX11 (some .boolean)) (hn : 214 ≤ n) (σ : ml_St) (ls : Array Slot) (hl : lv_has ls 2 []) (hw : f_X11_caps_u25 Q σ) : ml_V p l e rm_X11_caps s m args below meth c (MQ below (ml_Qi ml_B base D cA n Q) args s 0 0 (ml_A base)) base D cA 0 0 n n σ (F0 m 25 ls []) := by
  unfold f_X11_caps_u25 at hw
  refine ml_iconst (pc := 25) X dX11_caps_25 ?_
  exact ml_zret (pc := 26) X ⟨by decide, by decide⟩ hw dX11_caps_26
set_option maxRecDepth 100000 in
set_option maxHeartbeats 4000000 in
theorem u_X11_caps_0 {p : Program} {e : Env} {s : State} {m : MethodId} {args : Array Value} {below : List Frame} {meth : Method} {c : Code} {base : Nat} {D : va_G} {cA : Nat → ClassId} {n : Nat} {l : Launch} {Q : Int → ml_St → Prop} (X : ml_X p s m c meth args D cA cX11_caps 2 RX11 (some .boolean)) (hn : 214 ≤ n) (σ : ml_St) (ls : Array Slot) (hl : lv_has ls 2 [(0, .ref (base + (1 : Int).toNat))]) (hw : f_X11_caps_u0 Q σ) : ml_V p l e rm_X11_caps s m args below meth c (MQ below (ml_Qi ml_B base D cA n Q) args s 0 0 (ml_A base)) base D cA 0 0 n n σ (F0 m 0 ls []) := by
  unfold f_X11_caps_u0 at hw
  refine ml_aload_n (pc := 0) X hl 0 rfl rfl dX11_caps_0 ?_
  refine gf_X11_82 (pc := 1) X (ml_c1 hn) dX11_caps_1 (fun r1 => ?_)
  have hw := hw r1
  refine ml_iconst (pc := 4) X dX11_caps_4 ?_
  obtain ⟨z2, v2, hw⟩ := hw
  refine ml_irem (pc := 5) X r1 ⟨by decide, by decide⟩ z2 dX11_caps_5 ?_
  refine ml_if_ne (pc := 6) (tgt := 25) X v2 dX11_caps_6 (by decide) (fun c3 => ?_) (fun c3 => ?_)
  · have hw := hw.1 c3
    exact u_X11_caps_25 X hn σ   _ (lv_sub hl [] rfl) hw
  · have hw := hw.2 c3
    refine ml_aload_n (pc := 9) X hl 0 rfl rfl dX11_caps_9 ?_
    refine gf_X11_10 (pc := 10) X (ml_c1 hn) dX11_caps_10 ?_
    refine gf_X11_94 (pc := 13) X (ml_c2 hn) dX11_caps_13 (fun r4 => ?_)
    have hw := hw r4
    refine ml_iconst (pc := 16) X dX11_caps_16 ?_
    refine ml_aload_n (pc := 17) X hl 0 rfl rfl dX11_caps_17 ?_
    refine gf_X11_82 (pc := 18) X (ml_c1 hn) dX11_caps_18 (fun r5 => ?_)
    have hw := hw r5
    obtain ⟨v6, hw⟩ := hw
    refine ml_imul (pc := 21) X dX11_caps_21 ?_
    refine ml_icmp_ge (pc := 22) (tgt := 27) X r4 v6 dX11_caps_22 (by decide) (fun c7 => ?_) (fun c7 => ?_)
    · have hw := hw.1 c7
      refine ml_aload_n (pc := 27) X hl 0 rfl rfl dX11_caps_27 ?_
      refine gf_X11_19 (pc := 28) X (ml_c1 hn) dX11_caps_28 ?_
      refine ml_aload_n (pc := 31) X hl 0 rfl rfl dX11_caps_31 ?_
      refine gf_X11_10 (pc := 32) X (ml_c1 hn) dX11_caps_32 ?_
      refine ml_aload_n (pc := 35) X hl 0 rfl rfl dX11_caps_35 ?_
      refine gf_X11_82 (pc := 36) X (ml_c1 hn) dX11_caps_36 (fun r8 => ?_)
      have hw := hw r8
      exact hw.elim
    · have hw := hw.2 c7
      exact u_X11_caps_25 X hn σ   _ (lv_sub hl [] rfl) hw
set_option maxRecDepth 100000 in
theorem c_X11_caps (l : Launch) (base : Nat) (D : va_G) (cA : Nat → ClassId) (n : Nat) (hn : 214 ≤ n) (σ : ml_St) (Q : Int → ml_St → Prop) (hw : f_X11_caps σ Q) : Met l yX11_caps (Cond.code yX11_caps cX11_caps 2 (some .boolean) :: ml_T) rm_X11_caps (va_Pc [.ref (base + (1 : Int).toNat)] (ml_U base D cA n σ)) (ml_Qi ml_B base D cA n Q) 0 0 (ml_A base) := by
  refine Met.ofW (cc := cX11_caps) (maxL := 2) (ret := (some .boolean)) (by decide) rfl ?_
  intro p e s m args below meth c s₁ B hml hv
  obtain ⟨rfl, hP, hK, hok, hro⟩ := hv
  have X : ml_X p s m c meth _ D cA cX11_caps 2 RX11 (some .boolean) := ⟨B.exec, B.bytes, hml, findClass_of_methodNamed B.named, fun w hw => atoms_spec (ws := Cond.code yX11_caps cX11_caps 2 (some .boolean) :: ml_T) B.pre w (List.mem_cons_of_mem _ hw), hK, B.notSynchronized, B.returns⟩
  have hl := lv_entry [.ref (base + (1 : Int).toNat)] (n := 2) (Nat.le_of_ble_eq_true rfl)
  rw [lg_entry_eq]
  generalize (lg_sl [.ref (base + (1 : Int).toNat)] ++ List.replicate (2 - (lg_sl [.ref (base + (1 : Int).toNat)]).length) Slot.unset).toArray = ls at hl ⊢
  have hl : lv_has ls 2 [(0, .ref (base + (1 : Int).toNat))] := hl
  unfold f_X11_caps at hw
  exact u_X11_caps_0 X hn σ  _ (lv_sub hl [0] rfl) hw s.heap [] hP va_S.rf hok hro
theorem dX11_signs_0 : decode cX11_signs 0 = .ok (.aload_n 0, 1) := by decide +kernel
theorem dX11_signs_1 : decode cX11_signs 1 = .ok (.iload_n 1, 1) := by decide +kernel
theorem dX11_signs_2 : decode cX11_signs 2 = .ok (.invokevirtual 104, 3) := by decide +kernel
theorem dX11_signs_5 : decode cX11_signs 5 = .ok (.ifCond .eq 18, 3) := by decide +kernel
theorem dX11_signs_8 : decode cX11_signs 8 = .ok (.aload_n 0, 1) := by decide +kernel
theorem dX11_signs_9 : decode cX11_signs 9 = .ok (.getfield 67, 3) := by decide +kernel
theorem dX11_signs_12 : decode cX11_signs 12 = .ok (.iload_n 1, 1) := by decide +kernel
theorem dX11_signs_13 : decode cX11_signs 13 = .ok (.aaload, 1) := by decide +kernel
theorem dX11_signs_14 : decode cX11_signs 14 = .ok (.getfield 112, 3) := by decide +kernel
theorem dX11_signs_17 : decode cX11_signs 17 = .ok (.getfield 115, 3) := by decide +kernel
theorem dX11_signs_20 : decode cX11_signs 20 = .ok (.goto 6, 3) := by decide +kernel
theorem dX11_signs_23 : decode cX11_signs 23 = .ok (.ldc2_w 119, 3) := by decide +kernel
theorem dX11_signs_26 : decode cX11_signs 26 = .ok (.lreturn, 1) := by decide +kernel
def f_X11_signs_u26 (Q : Int → ml_St → Prop) (σ : ml_St) (s0 : Int) : Prop :=
Q s0 σ
def f_X11_signs_u0 (Q : Int → ml_St → Prop) (σ : ml_St) (x1 : Int) : Prop :=
f_X11_isTold σ x1 (fun r1 σ1 => ∀ _ : ml_B r1,
(r1 = 0 →
f_X11_signs_u26 Q σ1 (-1)) ∧
(r1 ≠ 0 →
(0 : Int) ≤ x1 ∧ (x1 : Int) < 16 ∧
∀ _ : I64 (σ1 ((119 + 6 * x1) + 2) 5),
f_X11_signs_u26 Q σ1 (σ1 ((119 + 6 * x1) + 2) 5)))
def f_X11_signs (σ : ml_St) (x1 : Int) (Q : Int → ml_St → Prop) : Prop := f_X11_signs_u0 Q σ x1
def rm_X11_signs : Room := { frames := 1, cells := 0, slots := 0, locals := 21 }
set_option maxRecDepth 100000 in
set_option maxHeartbeats 4000000 in
theorem u_X11_signs_26 {p : Program} {e : Env} {s : State} {m : MethodId} {args : Array Value} {below : List Frame} {meth : Method} {c : Code} {base : Nat} {D : va_G} {cA : Nat → ClassId} {n : Nat} {l : Launch} {Q : Int → ml_St → Prop} (X : ml_X p s m c meth args D cA cX11_signs 2 RX11 (some .long)) (hn : 214 ≤ n) (σ : ml_St) (s0 : Int) (h_s0 : I64 s0) (ls : Array Slot) (hl : lv_has ls 2 []) (hw : f_X11_signs_u26 Q σ s0) : ml_V p l e rm_X11_signs s m args below meth c (MQ below (ml_Ql base D cA n Q) args s 0 0 (ml_A base)) base D cA 0 0 n n σ (F0 m 26 ls [.long (Int64.ofInt s0)]) := by
  unfold f_X11_signs_u26 at hw
  exact ml_lret (pc := 26) X h_s0 hw dX11_signs_26
set_option maxRecDepth 100000 in
set_option maxHeartbeats 4000000 in
theorem u_X11_signs_0 {p : Program} {e : Env} {s : State} {m : MethodId} {args : Array Value} {below : List Frame} {meth : Method} {c : Code} {base : Nat} {D : va_G} {cA : Nat → ClassId} {n : Nat} {l : Launch} {Q : Int → ml_St → Prop} (X : ml_X p s m c meth args D cA cX11_signs 2 RX11 (some .long)) (hn : 214 ≤ n) (σ : ml_St) (x1 : Int) (h_x1 : I32 x1) (ls : Array Slot) (hl : lv_has ls 2 [(0, .ref (base + (1 : Int).toNat)), (1, .int (Int32.ofInt x1))]) (hw : f_X11_signs_u0 Q σ x1) : ml_V p l e rm_X11_signs s m args below meth c (MQ below (ml_Ql base D cA n Q) args s 0 0 (ml_A base)) base D cA 0 0 n n σ (F0 m 0 ls []) := by
  unfold f_X11_signs_u0 at hw
  refine ml_aload_n (pc := 0) X hl 0 rfl rfl dX11_signs_0 ?_
  refine ml_iload_n (pc := 1) X hl 1 rfl rfl dX11_signs_1 ?_
  refine ml_callzV (pc := 2) (rest := []) X [.int (Int32.ofInt x1)] (by decide) rfl (ml_c1 hn) (c_X11_isTold l base D cA n hn σ x1 h_x1 _ hw) cv_X11_104 ⟨rfl, rfl⟩ ⟨by decide, by decide⟩ rfl rfl hl (Nat.le_of_ble_eq_true rfl) ⟨Nat.zero_le _, Nat.zero_le _⟩ dX11_signs_2 (fun r1 σ1 t1 hw => ?_)
  have hw := hw t1
  refine ml_if_eq (pc := 5) (tgt := 23) X t1.i dX11_signs_5 (by decide) (fun c2 => ?_) (fun c2 => ?_)
  · have hw := hw.1 c2
    refine ml_ldc2 (pc := 23) (v := (-1)) X dX11_signs_23 tc_3_125 ?_
    exact u_X11_signs_26 X hn σ1 (-1) ⟨by decide, by decide⟩ _ (lv_sub hl [] rfl) hw
  · have hw := hw.2 c2
    refine ml_aload_n (pc := 8) X hl 0 rfl rfl dX11_signs_8 ?_
    refine gf_X11_67 (pc := 9) X (ml_c1 hn) dX11_signs_9 ?_
    refine ml_iload_n (pc := 12) X hl 1 rfl rfl dX11_signs_12 ?_
    obtain ⟨a3, b3, hw⟩ := hw
    refine ml_aald_words (pc := 13) X hn a3 b3 dX11_signs_13 ?_
    refine gf_X11_112 (pc := 14) X (ml_at_words hn a3 b3) dX11_signs_14 ?_
    refine gf_X11_115 (pc := 17) X (ml_r20_2 hn (ml_at_words hn a3 b3)) dX11_signs_17 (fun r4 => ?_)
    have hw := hw r4
    refine ml_goto (pc := 20) (tgt := 26) X dX11_signs_20 (by decide) ?_
    exact u_X11_signs_26 X hn σ1 (σ1 ((119 + 6 * x1) + 2) 5) r4 _ (lv_sub hl [] rfl) hw
set_option maxRecDepth 100000 in
theorem c_X11_signs (l : Launch) (base : Nat) (D : va_G) (cA : Nat → ClassId) (n : Nat) (hn : 214 ≤ n) (σ : ml_St) (x1 : Int) (h_x1 : I32 x1) (Q : Int → ml_St → Prop) (hw : f_X11_signs σ x1 Q) : Met l yX11_signs (Cond.code yX11_signs cX11_signs 2 (some .long) :: ml_T) rm_X11_signs (va_Pc [.ref (base + (1 : Int).toNat), .int (Int32.ofInt x1)] (ml_U base D cA n σ)) (ml_Ql base D cA n Q) 0 0 (ml_A base) := by
  refine Met.ofW (cc := cX11_signs) (maxL := 2) (ret := (some .long)) (by decide) rfl ?_
  intro p e s m args below meth c s₁ B hml hv
  obtain ⟨rfl, hP, hK, hok, hro⟩ := hv
  have X : ml_X p s m c meth _ D cA cX11_signs 2 RX11 (some .long) := ⟨B.exec, B.bytes, hml, findClass_of_methodNamed B.named, fun w hw => atoms_spec (ws := Cond.code yX11_signs cX11_signs 2 (some .long) :: ml_T) B.pre w (List.mem_cons_of_mem _ hw), hK, B.notSynchronized, B.returns⟩
  have hl := lv_entry [.ref (base + (1 : Int).toNat), .int (Int32.ofInt x1)] (n := 2) (Nat.le_of_ble_eq_true rfl)
  rw [lg_entry_eq]
  generalize (lg_sl [.ref (base + (1 : Int).toNat), .int (Int32.ofInt x1)] ++ List.replicate (2 - (lg_sl [.ref (base + (1 : Int).toNat), .int (Int32.ofInt x1)]).length) Slot.unset).toArray = ls at hl ⊢
  have hl : lv_has ls 2 [(0, .ref (base + (1 : Int).toNat)), (1, .int (Int32.ofInt x1))] := hl
  unfold f_X11_signs at hw
  exact u_X11_signs_0 X hn σ x1 h_x1 _ (lv_sub hl [0, 1] rfl) hw s.heap [] hP va_S.rf hok hro
theorem dX11_isEnd_0 : decode cX11_isEnd 0 = .ok (.iload_n 1, 1) := by decide +kernel
theorem dX11_isEnd_1 : decode cX11_isEnd 1 = .ok (.ifCond .lt 17, 3) := by decide +kernel
theorem dX11_isEnd_4 : decode cX11_isEnd 4 = .ok (.iload_n 1, 1) := by decide +kernel
theorem dX11_isEnd_5 : decode cX11_isEnd 5 = .ok (.iconst 2, 1) := by decide +kernel
theorem dX11_isEnd_6 : decode cX11_isEnd 6 = .ok (.aload_n 0, 1) := by decide +kernel
theorem dX11_isEnd_7 : decode cX11_isEnd 7 = .ok (.getfield 82, 3) := by decide +kernel
theorem dX11_isEnd_10 : decode cX11_isEnd 10 = .ok (.imul, 1) := by decide +kernel
theorem dX11_isEnd_11 : decode cX11_isEnd 11 = .ok (.if_icmp .ge 7, 3) := by decide +kernel
theorem dX11_isEnd_14 : decode cX11_isEnd 14 = .ok (.iconst 1, 1) := by decide +kernel
theorem dX11_isEnd_15 : decode cX11_isEnd 15 = .ok (.goto 4, 3) := by decide +kernel
theorem dX11_isEnd_18 : decode cX11_isEnd 18 = .ok (.iconst 0, 1) := by decide +kernel
theorem dX11_isEnd_19 : decode cX11_isEnd 19 = .ok (.ireturn, 1) := by decide +kernel
def f_X11_isEnd_u19 (Q : Int → ml_St → Prop) (σ : ml_St) (s0 : Int) : Prop :=
Q s0 σ
def f_X11_isEnd_u18 (Q : Int → ml_St → Prop) (σ : ml_St) : Prop :=
f_X11_isEnd_u19 Q σ 0
def f_X11_isEnd_u0 (Q : Int → ml_St → Prop) (σ : ml_St) (x1 : Int) : Prop :=
(x1 < 0 →
f_X11_isEnd_u18 Q σ) ∧
(¬ (x1 < 0) →
∀ _ : I32 (σ 1 11),
I32 (2 * (σ 1 11)) ∧
((2 * (σ 1 11)) ≤ x1 →
f_X11_isEnd_u18 Q σ) ∧
(¬ ((2 * (σ 1 11)) ≤ x1) →
f_X11_isEnd_u19 Q σ 1))
def f_X11_isEnd (σ : ml_St) (x1 : Int) (Q : Int → ml_St → Prop) : Prop := f_X11_isEnd_u0 Q σ x1
def rm_X11_isEnd : Room := { frames := 0, cells := 0, slots := 0, locals := 0 }
set_option maxRecDepth 100000 in
set_option maxHeartbeats 4000000 in
theorem u_X11_isEnd_19 {p : Program} {e : Env} {s : State} {m : MethodId} {args : Array Value} {below : List Frame} {meth : Method} {c : Code} {base : Nat} {D : va_G} {cA : Nat → ClassId} {n : Nat} {l : Launch} {Q : Int → ml_St → Prop} (X : ml_X p s m c meth args D cA cX11_isEnd 2 RX11 (some .boolean)) (hn : 214 ≤ n) (σ : ml_St) (s0 : Int) (h_s0 : ml_B s0) (ls : Array Slot) (hl : lv_has ls 2 []) (hw : f_X11_isEnd_u19 Q σ s0) : ml_V p l e rm_X11_isEnd s m args below meth c (MQ below (ml_Qi ml_B base D cA n Q) args s 0 0 (ml_A base)) base D cA 0 0 n n σ (F0 m 19 ls [.int (Int32.ofInt s0)]) := by
  unfold f_X11_isEnd_u19 at hw
  exact ml_zret (pc := 19) X h_s0 hw dX11_isEnd_19
set_option maxRecDepth 100000 in
set_option maxHeartbeats 4000000 in
theorem u_X11_isEnd_18 {p : Program} {e : Env} {s : State} {m : MethodId} {args : Array Value} {below : List Frame} {meth : Method} {c : Code} {base : Nat} {D : va_G} {cA : Nat → ClassId} {n : Nat} {l : Launch} {Q : Int → ml_St → Prop} (X : ml_X p s m c meth args D cA cX11_isEnd 2 RX11 (some .boolean)) (hn : 214 ≤ n) (σ : ml_St) (ls : Array Slot) (hl : lv_has ls 2 []) (hw : f_X11_isEnd_u18 Q σ) : ml_V p l e rm_X11_isEnd s m args below meth c (MQ below (ml_Qi ml_B base D cA n Q) args s 0 0 (ml_A base)) base D cA 0 0 n n σ (F0 m 18 ls []) := by
  unfold f_X11_isEnd_u18 at hw
  refine ml_iconst (pc := 18) X dX11_isEnd_18 ?_
  exact u_X11_isEnd_19 X hn σ 0 ⟨by decide, by decide⟩ _ (lv_sub hl [] rfl) hw
set_option maxRecDepth 100000 in
set_option maxHeartbeats 4000000 in
theorem u_X11_isEnd_0 {p : Program} {e : Env} {s : State} {m : MethodId} {args : Array Value} {below : List Frame} {meth : Method} {c : Code} {base : Nat} {D : va_G} {cA : Nat → ClassId} {n : Nat} {l : Launch} {Q : Int → ml_St → Prop} (X : ml_X p s m c meth args D cA cX11_isEnd 2 RX11 (some .boolean)) (hn : 214 ≤ n) (σ : ml_St) (x1 : Int) (h_x1 : I32 x1) (ls : Array Slot) (hl : lv_has ls 2 [(0, .ref (base + (1 : Int).toNat)), (1, .int (Int32.ofInt x1))]) (hw : f_X11_isEnd_u0 Q σ x1) : ml_V p l e rm_X11_isEnd s m args below meth c (MQ below (ml_Qi ml_B base D cA n Q) args s 0 0 (ml_A base)) base D cA 0 0 n n σ (F0 m 0 ls []) := by
  unfold f_X11_isEnd_u0 at hw
  refine ml_iload_n (pc := 0) X hl 1 rfl rfl dX11_isEnd_0 ?_
  refine ml_if_lt (pc := 1) (tgt := 18) X h_x1 dX11_isEnd_1 (by decide) (fun c1 => ?_) (fun c1 => ?_)
  · have hw := hw.1 c1
    exact u_X11_isEnd_18 X hn σ   _ (lv_sub hl [] rfl) hw
  · have hw := hw.2 c1
    refine ml_iload_n (pc := 4) X hl 1 rfl rfl dX11_isEnd_4 ?_
    refine ml_iconst (pc := 5) X dX11_isEnd_5 ?_
    refine ml_aload_n (pc := 6) X hl 0 rfl rfl dX11_isEnd_6 ?_
    refine gf_X11_82 (pc := 7) X (ml_c1 hn) dX11_isEnd_7 (fun r2 => ?_)
    have hw := hw r2
    obtain ⟨v3, hw⟩ := hw
    refine ml_imul (pc := 10) X dX11_isEnd_10 ?_
    refine ml_icmp_ge (pc := 11) (tgt := 18) X h_x1 v3 dX11_isEnd_11 (by decide) (fun c4 => ?_) (fun c4 => ?_)
    · have hw := hw.1 c4
      exact u_X11_isEnd_18 X hn σ   _ (lv_sub hl [] rfl) hw
    · have hw := hw.2 c4
      refine ml_iconst (pc := 14) X dX11_isEnd_14 ?_
      refine ml_goto (pc := 15) (tgt := 19) X dX11_isEnd_15 (by decide) ?_
      exact u_X11_isEnd_19 X hn σ 1 ⟨by decide, by decide⟩ _ (lv_sub hl [] rfl) hw
set_option maxRecDepth 100000 in
theorem c_X11_isEnd (l : Launch) (base : Nat) (D : va_G) (cA : Nat → ClassId) (n : Nat) (hn : 214 ≤ n) (σ : ml_St) (x1 : Int) (h_x1 : I32 x1) (Q : Int → ml_St → Prop) (hw : f_X11_isEnd σ x1 Q) : Met l yX11_isEnd (Cond.code yX11_isEnd cX11_isEnd 2 (some .boolean) :: ml_T) rm_X11_isEnd (va_Pc [.ref (base + (1 : Int).toNat), .int (Int32.ofInt x1)] (ml_U base D cA n σ)) (ml_Qi ml_B base D cA n Q) 0 0 (ml_A base) := by
  refine Met.ofW (cc := cX11_isEnd) (maxL := 2) (ret := (some .boolean)) (by decide) rfl ?_
  intro p e s m args below meth c s₁ B hml hv
  obtain ⟨rfl, hP, hK, hok, hro⟩ := hv
  have X : ml_X p s m c meth _ D cA cX11_isEnd 2 RX11 (some .boolean) := ⟨B.exec, B.bytes, hml, findClass_of_methodNamed B.named, fun w hw => atoms_spec (ws := Cond.code yX11_isEnd cX11_isEnd 2 (some .boolean) :: ml_T) B.pre w (List.mem_cons_of_mem _ hw), hK, B.notSynchronized, B.returns⟩
  have hl := lv_entry [.ref (base + (1 : Int).toNat), .int (Int32.ofInt x1)] (n := 2) (Nat.le_of_ble_eq_true rfl)
  rw [lg_entry_eq]
  generalize (lg_sl [.ref (base + (1 : Int).toNat), .int (Int32.ofInt x1)] ++ List.replicate (2 - (lg_sl [.ref (base + (1 : Int).toNat), .int (Int32.ofInt x1)]).length) Slot.unset).toArray = ls at hl ⊢
  have hl : lv_has ls 2 [(0, .ref (base + (1 : Int).toNat)), (1, .int (Int32.ofInt x1))] := hl
  unfold f_X11_isEnd at hw
  exact u_X11_isEnd_0 X hn σ x1 h_x1 _ (lv_sub hl [0, 1] rfl) hw s.heap [] hP va_S.rf hok hro
theorem dX11_isMade_0 : decode cX11_isMade 0 = .ok (.aload_n 0, 1) := by decide +kernel
theorem dX11_isMade_1 : decode cX11_isMade 1 = .ok (.iload_n 1, 1) := by decide +kernel
theorem dX11_isMade_2 : decode cX11_isMade 2 = .ok (.invokevirtual 104, 3) := by decide +kernel
theorem dX11_isMade_5 : decode cX11_isMade 5 = .ok (.ifCond .eq 22, 3) := by decide +kernel
theorem dX11_isMade_8 : decode cX11_isMade 8 = .ok (.aload_n 0, 1) := by decide +kernel
theorem dX11_isMade_9 : decode cX11_isMade 9 = .ok (.getfield 67, 3) := by decide +kernel
theorem dX11_isMade_12 : decode cX11_isMade 12 = .ok (.iload_n 1, 1) := by decide +kernel
theorem dX11_isMade_13 : decode cX11_isMade 13 = .ok (.aaload, 1) := by decide +kernel
theorem dX11_isMade_14 : decode cX11_isMade 14 = .ok (.getfield 112, 3) := by decide +kernel
theorem dX11_isMade_17 : decode cX11_isMade 17 = .ok (.invokevirtual 215, 3) := by decide +kernel
theorem dX11_isMade_20 : decode cX11_isMade 20 = .ok (.ifCond .ne 7, 3) := by decide +kernel
theorem dX11_isMade_23 : decode cX11_isMade 23 = .ok (.iconst 1, 1) := by decide +kernel
theorem dX11_isMade_24 : decode cX11_isMade 24 = .ok (.goto 4, 3) := by decide +kernel
theorem dX11_isMade_27 : decode cX11_isMade 27 = .ok (.iconst 0, 1) := by decide +kernel
theorem dX11_isMade_28 : decode cX11_isMade 28 = .ok (.ireturn, 1) := by decide +kernel
def f_X11_isMade_u28 (Q : Int → ml_St → Prop) (σ : ml_St) (s0 : Int) : Prop :=
Q s0 σ
def f_X11_isMade_u27 (Q : Int → ml_St → Prop) (σ : ml_St) : Prop :=
f_X11_isMade_u28 Q σ 0
def f_X11_isMade_u0 (Q : Int → ml_St → Prop) (σ : ml_St) (x1 : Int) : Prop :=
f_X11_isTold σ x1 (fun r1 σ1 => ∀ _ : ml_B r1,
(r1 = 0 →
f_X11_isMade_u27 Q σ1) ∧
(r1 ≠ 0 →
(0 : Int) ≤ x1 ∧ (x1 : Int) < 16 ∧
False))
def f_X11_isMade (σ : ml_St) (x1 : Int) (Q : Int → ml_St → Prop) : Prop := f_X11_isMade_u0 Q σ x1
def rm_X11_isMade : Room := { frames := 1, cells := 0, slots := 0, locals := 21 }
set_option maxRecDepth 100000 in
set_option maxHeartbeats 4000000 in
theorem u_X11_isMade_28 {p : Program} {e : Env} {s : State} {m : MethodId} {args : Array Value} {below : List Frame} {meth : Method} {c : Code} {base : Nat} {D : va_G} {cA : Nat → ClassId} {n : Nat} {l : Launch} {Q : Int → ml_St → Prop} (X : ml_X p s m c meth args D cA cX11_isMade 2 RX11 (some .boolean)) (hn : 214 ≤ n) (σ : ml_St) (s0 : Int) (h_s0 : ml_B s0) (ls : Array Slot) (hl : lv_has ls 2 []) (hw : f_X11_isMade_u28 Q σ s0) : ml_V p l e rm_X11_isMade s m args below meth c (MQ below (ml_Qi ml_B base D cA n Q) args s 0 0 (ml_A base)) base D cA 0 0 n n σ (F0 m 28 ls [.int (Int32.ofInt s0)]) := by
  unfold f_X11_isMade_u28 at hw
  exact ml_zret (pc := 28) X h_s0 hw dX11_isMade_28
set_option maxRecDepth 100000 in
set_option maxHeartbeats 4000000 in
theorem u_X11_isMade_27 {p : Program} {e : Env} {s : State} {m : MethodId} {args : Array Value} {below : List Frame} {meth : Method} {c : Code} {base : Nat} {D : va_G} {cA : Nat → ClassId} {n : Nat} {l : Launch} {Q : Int → ml_St → Prop} (X : ml_X p s m c meth args D cA cX11_isMade 2 RX11 (some .boolean)) (hn : 214 ≤ n) (σ : ml_St) (ls : Array Slot) (hl : lv_has ls 2 []) (hw : f_X11_isMade_u27 Q σ) : ml_V p l e rm_X11_isMade s m args below meth c (MQ below (ml_Qi ml_B base D cA n Q) args s 0 0 (ml_A base)) base D cA 0 0 n n σ (F0 m 27 ls []) := by
  unfold f_X11_isMade_u27 at hw
  refine ml_iconst (pc := 27) X dX11_isMade_27 ?_
  exact u_X11_isMade_28 X hn σ 0 ⟨by decide, by decide⟩ _ (lv_sub hl [] rfl) hw
set_option maxRecDepth 100000 in
set_option maxHeartbeats 4000000 in
theorem u_X11_isMade_0 {p : Program} {e : Env} {s : State} {m : MethodId} {args : Array Value} {below : List Frame} {meth : Method} {c : Code} {base : Nat} {D : va_G} {cA : Nat → ClassId} {n : Nat} {l : Launch} {Q : Int → ml_St → Prop} (X : ml_X p s m c meth args D cA cX11_isMade 2 RX11 (some .boolean)) (hn : 214 ≤ n) (σ : ml_St) (x1 : Int) (h_x1 : I32 x1) (ls : Array Slot) (hl : lv_has ls 2 [(0, .ref (base + (1 : Int).toNat)), (1, .int (Int32.ofInt x1))]) (hw : f_X11_isMade_u0 Q σ x1) : ml_V p l e rm_X11_isMade s m args below meth c (MQ below (ml_Qi ml_B base D cA n Q) args s 0 0 (ml_A base)) base D cA 0 0 n n σ (F0 m 0 ls []) := by
  unfold f_X11_isMade_u0 at hw
  refine ml_aload_n (pc := 0) X hl 0 rfl rfl dX11_isMade_0 ?_
  refine ml_iload_n (pc := 1) X hl 1 rfl rfl dX11_isMade_1 ?_
  refine ml_callzV (pc := 2) (rest := []) X [.int (Int32.ofInt x1)] (by decide) rfl (ml_c1 hn) (c_X11_isTold l base D cA n hn σ x1 h_x1 _ hw) cv_X11_104 ⟨rfl, rfl⟩ ⟨by decide, by decide⟩ rfl rfl hl (Nat.le_of_ble_eq_true rfl) ⟨Nat.zero_le _, Nat.zero_le _⟩ dX11_isMade_2 (fun r1 σ1 t1 hw => ?_)
  have hw := hw t1
  refine ml_if_eq (pc := 5) (tgt := 27) X t1.i dX11_isMade_5 (by decide) (fun c2 => ?_) (fun c2 => ?_)
  · have hw := hw.1 c2
    exact u_X11_isMade_27 X hn σ1   _ (lv_sub hl [] rfl) hw
  · have hw := hw.2 c2
    refine ml_aload_n (pc := 8) X hl 0 rfl rfl dX11_isMade_8 ?_
    refine gf_X11_67 (pc := 9) X (ml_c1 hn) dX11_isMade_9 ?_
    refine ml_iload_n (pc := 12) X hl 1 rfl rfl dX11_isMade_12 ?_
    obtain ⟨a3, b3, hw⟩ := hw
    refine ml_aald_words (pc := 13) X hn a3 b3 dX11_isMade_13 ?_
    refine gf_X11_112 (pc := 14) X (ml_at_words hn a3 b3) dX11_isMade_14 ?_
    exact hw.elim
set_option maxRecDepth 100000 in
theorem c_X11_isMade (l : Launch) (base : Nat) (D : va_G) (cA : Nat → ClassId) (n : Nat) (hn : 214 ≤ n) (σ : ml_St) (x1 : Int) (h_x1 : I32 x1) (Q : Int → ml_St → Prop) (hw : f_X11_isMade σ x1 Q) : Met l yX11_isMade (Cond.code yX11_isMade cX11_isMade 2 (some .boolean) :: ml_T) rm_X11_isMade (va_Pc [.ref (base + (1 : Int).toNat), .int (Int32.ofInt x1)] (ml_U base D cA n σ)) (ml_Qi ml_B base D cA n Q) 0 0 (ml_A base) := by
  refine Met.ofW (cc := cX11_isMade) (maxL := 2) (ret := (some .boolean)) (by decide) rfl ?_
  intro p e s m args below meth c s₁ B hml hv
  obtain ⟨rfl, hP, hK, hok, hro⟩ := hv
  have X : ml_X p s m c meth _ D cA cX11_isMade 2 RX11 (some .boolean) := ⟨B.exec, B.bytes, hml, findClass_of_methodNamed B.named, fun w hw => atoms_spec (ws := Cond.code yX11_isMade cX11_isMade 2 (some .boolean) :: ml_T) B.pre w (List.mem_cons_of_mem _ hw), hK, B.notSynchronized, B.returns⟩
  have hl := lv_entry [.ref (base + (1 : Int).toNat), .int (Int32.ofInt x1)] (n := 2) (Nat.le_of_ble_eq_true rfl)
  rw [lg_entry_eq]
  generalize (lg_sl [.ref (base + (1 : Int).toNat), .int (Int32.ofInt x1)] ++ List.replicate (2 - (lg_sl [.ref (base + (1 : Int).toNat), .int (Int32.ofInt x1)]).length) Slot.unset).toArray = ls at hl ⊢
  have hl : lv_has ls 2 [(0, .ref (base + (1 : Int).toNat)), (1, .int (Int32.ofInt x1))] := hl
  unfold f_X11_isMade at hw
  exact u_X11_isMade_0 X hn σ x1 h_x1 _ (lv_sub hl [0, 1] rfl) hw s.heap [] hP va_S.rf hok hro
theorem dX11_joined_0 : decode cX11_joined 0 = .ok (.aload_n 0, 1) := by decide +kernel
theorem dX11_joined_1 : decode cX11_joined 1 = .ok (.iload_n 1, 1) := by decide +kernel
theorem dX11_joined_2 : decode cX11_joined 2 = .ok (.invokevirtual 121, 3) := by decide +kernel
theorem dX11_joined_5 : decode cX11_joined 5 = .ok (.ifCond .eq 28, 3) := by decide +kernel
theorem dX11_joined_8 : decode cX11_joined 8 = .ok (.aload_n 0, 1) := by decide +kernel
theorem dX11_joined_9 : decode cX11_joined 9 = .ok (.iload_n 2, 1) := by decide +kernel
theorem dX11_joined_10 : decode cX11_joined 10 = .ok (.invokevirtual 124, 3) := by decide +kernel
theorem dX11_joined_13 : decode cX11_joined 13 = .ok (.ifCond .eq 20, 3) := by decide +kernel
theorem dX11_joined_16 : decode cX11_joined 16 = .ok (.aload_n 0, 1) := by decide +kernel
theorem dX11_joined_17 : decode cX11_joined 17 = .ok (.getfield 67, 3) := by decide +kernel
theorem dX11_joined_20 : decode cX11_joined 20 = .ok (.iload_n 1, 1) := by decide +kernel
theorem dX11_joined_21 : decode cX11_joined 21 = .ok (.aaload, 1) := by decide +kernel
theorem dX11_joined_22 : decode cX11_joined 22 = .ok (.getfield 112, 3) := by decide +kernel
theorem dX11_joined_25 : decode cX11_joined 25 = .ok (.getfield 127, 3) := by decide +kernel
theorem dX11_joined_28 : decode cX11_joined 28 = .ok (.iload_n 2, 1) := by decide +kernel
theorem dX11_joined_29 : decode cX11_joined 29 = .ok (.iaload, 1) := by decide +kernel
theorem dX11_joined_30 : decode cX11_joined 30 = .ok (.goto 4, 3) := by decide +kernel
theorem dX11_joined_33 : decode cX11_joined 33 = .ok (.iconst (-1), 1) := by decide +kernel
theorem dX11_joined_34 : decode cX11_joined 34 = .ok (.ireturn, 1) := by decide +kernel
def f_X11_joined_u34 (Q : Int → ml_St → Prop) (σ : ml_St) (s0 : Int) : Prop :=
Q s0 σ
def f_X11_joined_u33 (Q : Int → ml_St → Prop) (σ : ml_St) : Prop :=
f_X11_joined_u34 Q σ (-1)
def f_X11_joined_u0 (Q : Int → ml_St → Prop) (σ : ml_St) (x1 : Int) (x2 : Int) : Prop :=
f_X11_isMade σ x1 (fun r1 σ1 => ∀ _ : ml_B r1,
(r1 = 0 →
f_X11_joined_u33 Q σ1) ∧
(r1 ≠ 0 →
f_X11_isEnd σ1 x2 (fun r3 σ3 => ∀ _ : ml_B r3,
(r3 = 0 →
f_X11_joined_u33 Q σ3) ∧
(r3 ≠ 0 →
(0 : Int) ≤ x1 ∧ (x1 : Int) < 16 ∧
(0 : Int) ≤ x2 ∧ (x2 : Int) < 10 ∧
∀ _ : I32 (σ3 (((119 + 6 * x1) + 2) + 1) x2),
f_X11_joined_u34 Q σ3 (σ3 (((119 + 6 * x1) + 2) + 1) x2)))))
def f_X11_joined (σ : ml_St) (x1 : Int) (x2 : Int) (Q : Int → ml_St → Prop) : Prop := f_X11_joined_u0 Q σ x1 x2
def rm_X11_joined : Room := { frames := 2, cells := 0, slots := 0, locals := 42 }
set_option maxRecDepth 100000 in
set_option maxHeartbeats 4000000 in
theorem u_X11_joined_34 {p : Program} {e : Env} {s : State} {m : MethodId} {args : Array Value} {below : List Frame} {meth : Method} {c : Code} {base : Nat} {D : va_G} {cA : Nat → ClassId} {n : Nat} {l : Launch} {Q : Int → ml_St → Prop} (X : ml_X p s m c meth args D cA cX11_joined 3 RX11 (some .int)) (hn : 214 ≤ n) (σ : ml_St) (s0 : Int) (h_s0 : I32 s0) (ls : Array Slot) (hl : lv_has ls 3 []) (hw : f_X11_joined_u34 Q σ s0) : ml_V p l e rm_X11_joined s m args below meth c (MQ below (ml_Qi I32 base D cA n Q) args s 0 0 (ml_A base)) base D cA 0 0 n n σ (F0 m 34 ls [.int (Int32.ofInt s0)]) := by
  unfold f_X11_joined_u34 at hw
  exact ml_iret (pc := 34) X h_s0 hw dX11_joined_34
set_option maxRecDepth 100000 in
set_option maxHeartbeats 4000000 in
theorem u_X11_joined_33 {p : Program} {e : Env} {s : State} {m : MethodId} {args : Array Value} {below : List Frame} {meth : Method} {c : Code} {base : Nat} {D : va_G} {cA : Nat → ClassId} {n : Nat} {l : Launch} {Q : Int → ml_St → Prop} (X : ml_X p s m c meth args D cA cX11_joined 3 RX11 (some .int)) (hn : 214 ≤ n) (σ : ml_St) (ls : Array Slot) (hl : lv_has ls 3 []) (hw : f_X11_joined_u33 Q σ) : ml_V p l e rm_X11_joined s m args below meth c (MQ below (ml_Qi I32 base D cA n Q) args s 0 0 (ml_A base)) base D cA 0 0 n n σ (F0 m 33 ls []) := by
  unfold f_X11_joined_u33 at hw
  refine ml_iconst (pc := 33) X dX11_joined_33 ?_
  exact u_X11_joined_34 X hn σ (-1) ⟨by decide, by decide⟩ _ (lv_sub hl [] rfl) hw
set_option maxRecDepth 100000 in
set_option maxHeartbeats 4000000 in
theorem u_X11_joined_0 {p : Program} {e : Env} {s : State} {m : MethodId} {args : Array Value} {below : List Frame} {meth : Method} {c : Code} {base : Nat} {D : va_G} {cA : Nat → ClassId} {n : Nat} {l : Launch} {Q : Int → ml_St → Prop} (X : ml_X p s m c meth args D cA cX11_joined 3 RX11 (some .int)) (hn : 214 ≤ n) (σ : ml_St) (x1 : Int) (x2 : Int) (h_x1 : I32 x1) (h_x2 : I32 x2) (ls : Array Slot) (hl : lv_has ls 3 [(0, .ref (base + (1 : Int).toNat)), (1, .int (Int32.ofInt x1)), (2, .int (Int32.ofInt x2))]) (hw : f_X11_joined_u0 Q σ x1 x2) : ml_V p l e rm_X11_joined s m args below meth c (MQ below (ml_Qi I32 base D cA n Q) args s 0 0 (ml_A base)) base D cA 0 0 n n σ (F0 m 0 ls []) := by
  unfold f_X11_joined_u0 at hw
  refine ml_aload_n (pc := 0) X hl 0 rfl rfl dX11_joined_0 ?_
  refine ml_iload_n (pc := 1) X hl 1 rfl rfl dX11_joined_1 ?_
  refine ml_callzV (pc := 2) (rest := []) X [.int (Int32.ofInt x1)] (by decide) rfl (ml_c1 hn) (c_X11_isMade l base D cA n hn σ x1 h_x1 _ hw) cv_X11_121 ⟨rfl, rfl⟩ ⟨by decide, by decide⟩ rfl rfl hl (Nat.le_of_ble_eq_true rfl) ⟨Nat.zero_le _, Nat.zero_le _⟩ dX11_joined_2 (fun r1 σ1 t1 hw => ?_)
  have hw := hw t1
  refine ml_if_eq (pc := 5) (tgt := 33) X t1.i dX11_joined_5 (by decide) (fun c2 => ?_) (fun c2 => ?_)
  · have hw := hw.1 c2
    exact u_X11_joined_33 X hn σ1   _ (lv_sub hl [] rfl) hw
  · have hw := hw.2 c2
    refine ml_aload_n (pc := 8) X hl 0 rfl rfl dX11_joined_8 ?_
    refine ml_iload_n (pc := 9) X hl 2 rfl rfl dX11_joined_9 ?_
    refine ml_callzV (pc := 10) (rest := []) X [.int (Int32.ofInt x2)] (by decide) rfl (ml_c1 hn) (c_X11_isEnd l base D cA n hn σ1 x2 h_x2 _ hw) cv_X11_124 ⟨rfl, rfl⟩ ⟨by decide, by decide⟩ rfl rfl hl (Nat.le_of_ble_eq_true rfl) ⟨Nat.zero_le _, Nat.zero_le _⟩ dX11_joined_10 (fun r3 σ3 t3 hw => ?_)
    have hw := hw t3
    refine ml_if_eq (pc := 13) (tgt := 33) X t3.i dX11_joined_13 (by decide) (fun c4 => ?_) (fun c4 => ?_)
    · have hw := hw.1 c4
      exact u_X11_joined_33 X hn σ3   _ (lv_sub hl [] rfl) hw
    · have hw := hw.2 c4
      refine ml_aload_n (pc := 16) X hl 0 rfl rfl dX11_joined_16 ?_
      refine gf_X11_67 (pc := 17) X (ml_c1 hn) dX11_joined_17 ?_
      refine ml_iload_n (pc := 20) X hl 1 rfl rfl dX11_joined_20 ?_
      obtain ⟨a5, b5, hw⟩ := hw
      refine ml_aald_words (pc := 21) X hn a5 b5 dX11_joined_21 ?_
      refine gf_X11_112 (pc := 22) X (ml_at_words hn a5 b5) dX11_joined_22 ?_
      refine gf_X11_127 (pc := 25) X (ml_r20_2 hn (ml_at_words hn a5 b5)) dX11_joined_25 ?_
      refine ml_iload_n (pc := 28) X hl 2 rfl rfl dX11_joined_28 ?_
      obtain ⟨a6, b6, hw⟩ := hw
      refine ml_iald (pc := 29) (N := 10) X (ml_r19_1 hn (ml_r20_2 hn (ml_at_words hn a5 b5))) a6 b6 dX11_joined_29 (fun r6 => ?_)
      have hw := hw r6
      refine ml_goto (pc := 30) (tgt := 34) X dX11_joined_30 (by decide) ?_
      exact u_X11_joined_34 X hn σ3 (σ3 (((119 + 6 * x1) + 2) + 1) x2) r6 _ (lv_sub hl [] rfl) hw
set_option maxRecDepth 100000 in
theorem c_X11_joined (l : Launch) (base : Nat) (D : va_G) (cA : Nat → ClassId) (n : Nat) (hn : 214 ≤ n) (σ : ml_St) (x1 : Int) (x2 : Int) (h_x1 : I32 x1) (h_x2 : I32 x2) (Q : Int → ml_St → Prop) (hw : f_X11_joined σ x1 x2 Q) : Met l yX11_joined (Cond.code yX11_joined cX11_joined 3 (some .int) :: ml_T) rm_X11_joined (va_Pc [.ref (base + (1 : Int).toNat), .int (Int32.ofInt x1), .int (Int32.ofInt x2)] (ml_U base D cA n σ)) (ml_Qi I32 base D cA n Q) 0 0 (ml_A base) := by
  refine Met.ofW (cc := cX11_joined) (maxL := 3) (ret := (some .int)) (by decide) rfl ?_
  intro p e s m args below meth c s₁ B hml hv
  obtain ⟨rfl, hP, hK, hok, hro⟩ := hv
  have X : ml_X p s m c meth _ D cA cX11_joined 3 RX11 (some .int) := ⟨B.exec, B.bytes, hml, findClass_of_methodNamed B.named, fun w hw => atoms_spec (ws := Cond.code yX11_joined cX11_joined 3 (some .int) :: ml_T) B.pre w (List.mem_cons_of_mem _ hw), hK, B.notSynchronized, B.returns⟩
  have hl := lv_entry [.ref (base + (1 : Int).toNat), .int (Int32.ofInt x1), .int (Int32.ofInt x2)] (n := 3) (Nat.le_of_ble_eq_true rfl)
  rw [lg_entry_eq]
  generalize (lg_sl [.ref (base + (1 : Int).toNat), .int (Int32.ofInt x1), .int (Int32.ofInt x2)] ++ List.replicate (3 - (lg_sl [.ref (base + (1 : Int).toNat), .int (Int32.ofInt x1), .int (Int32.ofInt x2)]).length) Slot.unset).toArray = ls at hl ⊢
  have hl : lv_has ls 3 [(0, .ref (base + (1 : Int).toNat)), (1, .int (Int32.ofInt x1)), (2, .int (Int32.ofInt x2))] := hl
  unfold f_X11_joined at hw
  exact u_X11_joined_0 X hn σ x1 x2 h_x1 h_x2 _ (lv_sub hl [0, 1, 2] rfl) hw s.heap [] hP va_S.rf hok hro
theorem dX11_length_0 : decode cX11_length 0 = .ok (.aload_n 0, 1) := by decide +kernel
theorem dX11_length_1 : decode cX11_length 1 = .ok (.iload_n 1, 1) := by decide +kernel
theorem dX11_length_2 : decode cX11_length 2 = .ok (.invokevirtual 121, 3) := by decide +kernel
theorem dX11_length_5 : decode cX11_length 5 = .ok (.ifCond .eq 28, 3) := by decide +kernel
theorem dX11_length_8 : decode cX11_length 8 = .ok (.aload_n 0, 1) := by decide +kernel
theorem dX11_length_9 : decode cX11_length 9 = .ok (.iload_n 2, 1) := by decide +kernel
theorem dX11_length_10 : decode cX11_length 10 = .ok (.invokevirtual 124, 3) := by decide +kernel
theorem dX11_length_13 : decode cX11_length 13 = .ok (.ifCond .eq 20, 3) := by decide +kernel
theorem dX11_length_16 : decode cX11_length 16 = .ok (.aload_n 0, 1) := by decide +kernel
theorem dX11_length_17 : decode cX11_length 17 = .ok (.getfield 67, 3) := by decide +kernel
theorem dX11_length_20 : decode cX11_length 20 = .ok (.iload_n 1, 1) := by decide +kernel
theorem dX11_length_21 : decode cX11_length 21 = .ok (.aaload, 1) := by decide +kernel
theorem dX11_length_22 : decode cX11_length 22 = .ok (.getfield 112, 3) := by decide +kernel
theorem dX11_length_25 : decode cX11_length 25 = .ok (.getfield 131, 3) := by decide +kernel
theorem dX11_length_28 : decode cX11_length 28 = .ok (.iload_n 2, 1) := by decide +kernel
theorem dX11_length_29 : decode cX11_length 29 = .ok (.laload, 1) := by decide +kernel
theorem dX11_length_30 : decode cX11_length 30 = .ok (.goto 6, 3) := by decide +kernel
theorem dX11_length_33 : decode cX11_length 33 = .ok (.ldc2_w 119, 3) := by decide +kernel
theorem dX11_length_36 : decode cX11_length 36 = .ok (.lreturn, 1) := by decide +kernel
def f_X11_length_u36 (Q : Int → ml_St → Prop) (σ : ml_St) (s0 : Int) : Prop :=
Q s0 σ
def f_X11_length_u33 (Q : Int → ml_St → Prop) (σ : ml_St) : Prop :=
f_X11_length_u36 Q σ (-1)
def f_X11_length_u0 (Q : Int → ml_St → Prop) (σ : ml_St) (x1 : Int) (x2 : Int) : Prop :=
f_X11_isMade σ x1 (fun r1 σ1 => ∀ _ : ml_B r1,
(r1 = 0 →
f_X11_length_u33 Q σ1) ∧
(r1 ≠ 0 →
f_X11_isEnd σ1 x2 (fun r3 σ3 => ∀ _ : ml_B r3,
(r3 = 0 →
f_X11_length_u33 Q σ3) ∧
(r3 ≠ 0 →
(0 : Int) ≤ x1 ∧ (x1 : Int) < 16 ∧
(0 : Int) ≤ x2 ∧ (x2 : Int) < 10 ∧
∀ _ : I64 (σ3 (((119 + 6 * x1) + 2) + 2) x2),
f_X11_length_u36 Q σ3 (σ3 (((119 + 6 * x1) + 2) + 2) x2)))))
def f_X11_length (σ : ml_St) (x1 : Int) (x2 : Int) (Q : Int → ml_St → Prop) : Prop := f_X11_length_u0 Q σ x1 x2
def rm_X11_length : Room := { frames := 2, cells := 0, slots := 0, locals := 42 }
set_option maxRecDepth 100000 in
set_option maxHeartbeats 4000000 in
theorem u_X11_length_36 {p : Program} {e : Env} {s : State} {m : MethodId} {args : Array Value} {below : List Frame} {meth : Method} {c : Code} {base : Nat} {D : va_G} {cA : Nat → ClassId} {n : Nat} {l : Launch} {Q : Int → ml_St → Prop} (X : ml_X p s m c meth args D cA cX11_length 3 RX11 (some .long)) (hn : 214 ≤ n) (σ : ml_St) (s0 : Int) (h_s0 : I64 s0) (ls : Array Slot) (hl : lv_has ls 3 []) (hw : f_X11_length_u36 Q σ s0) : ml_V p l e rm_X11_length s m args below meth c (MQ below (ml_Ql base D cA n Q) args s 0 0 (ml_A base)) base D cA 0 0 n n σ (F0 m 36 ls [.long (Int64.ofInt s0)]) := by
  unfold f_X11_length_u36 at hw
  exact ml_lret (pc := 36) X h_s0 hw dX11_length_36
set_option maxRecDepth 100000 in
set_option maxHeartbeats 4000000 in
theorem u_X11_length_33 {p : Program} {e : Env} {s : State} {m : MethodId} {args : Array Value} {below : List Frame} {meth : Method} {c : Code} {base : Nat} {D : va_G} {cA : Nat → ClassId} {n : Nat} {l : Launch} {Q : Int → ml_St → Prop} (X : ml_X p s m c meth args D cA cX11_length 3 RX11 (some .long)) (hn : 214 ≤ n) (σ : ml_St) (ls : Array Slot) (hl : lv_has ls 3 []) (hw : f_X11_length_u33 Q σ) : ml_V p l e rm_X11_length s m args below meth c (MQ below (ml_Ql base D cA n Q) args s 0 0 (ml_A base)) base D cA 0 0 n n σ (F0 m 33 ls []) := by
  unfold f_X11_length_u33 at hw
  refine ml_ldc2 (pc := 33) (v := (-1)) X dX11_length_33 tc_3_125 ?_
  exact u_X11_length_36 X hn σ (-1) ⟨by decide, by decide⟩ _ (lv_sub hl [] rfl) hw
set_option maxRecDepth 100000 in
set_option maxHeartbeats 4000000 in
theorem u_X11_length_0 {p : Program} {e : Env} {s : State} {m : MethodId} {args : Array Value} {below : List Frame} {meth : Method} {c : Code} {base : Nat} {D : va_G} {cA : Nat → ClassId} {n : Nat} {l : Launch} {Q : Int → ml_St → Prop} (X : ml_X p s m c meth args D cA cX11_length 3 RX11 (some .long)) (hn : 214 ≤ n) (σ : ml_St) (x1 : Int) (x2 : Int) (h_x1 : I32 x1) (h_x2 : I32 x2) (ls : Array Slot) (hl : lv_has ls 3 [(0, .ref (base + (1 : Int).toNat)), (1, .int (Int32.ofInt x1)), (2, .int (Int32.ofInt x2))]) (hw : f_X11_length_u0 Q σ x1 x2) : ml_V p l e rm_X11_length s m args below meth c (MQ below (ml_Ql base D cA n Q) args s 0 0 (ml_A base)) base D cA 0 0 n n σ (F0 m 0 ls []) := by
  unfold f_X11_length_u0 at hw
  refine ml_aload_n (pc := 0) X hl 0 rfl rfl dX11_length_0 ?_
  refine ml_iload_n (pc := 1) X hl 1 rfl rfl dX11_length_1 ?_
  refine ml_callzV (pc := 2) (rest := []) X [.int (Int32.ofInt x1)] (by decide) rfl (ml_c1 hn) (c_X11_isMade l base D cA n hn σ x1 h_x1 _ hw) cv_X11_121 ⟨rfl, rfl⟩ ⟨by decide, by decide⟩ rfl rfl hl (Nat.le_of_ble_eq_true rfl) ⟨Nat.zero_le _, Nat.zero_le _⟩ dX11_length_2 (fun r1 σ1 t1 hw => ?_)
  have hw := hw t1
  refine ml_if_eq (pc := 5) (tgt := 33) X t1.i dX11_length_5 (by decide) (fun c2 => ?_) (fun c2 => ?_)
  · have hw := hw.1 c2
    exact u_X11_length_33 X hn σ1   _ (lv_sub hl [] rfl) hw
  · have hw := hw.2 c2
    refine ml_aload_n (pc := 8) X hl 0 rfl rfl dX11_length_8 ?_
    refine ml_iload_n (pc := 9) X hl 2 rfl rfl dX11_length_9 ?_
    refine ml_callzV (pc := 10) (rest := []) X [.int (Int32.ofInt x2)] (by decide) rfl (ml_c1 hn) (c_X11_isEnd l base D cA n hn σ1 x2 h_x2 _ hw) cv_X11_124 ⟨rfl, rfl⟩ ⟨by decide, by decide⟩ rfl rfl hl (Nat.le_of_ble_eq_true rfl) ⟨Nat.zero_le _, Nat.zero_le _⟩ dX11_length_10 (fun r3 σ3 t3 hw => ?_)
    have hw := hw t3
    refine ml_if_eq (pc := 13) (tgt := 33) X t3.i dX11_length_13 (by decide) (fun c4 => ?_) (fun c4 => ?_)
    · have hw := hw.1 c4
      exact u_X11_length_33 X hn σ3   _ (lv_sub hl [] rfl) hw
    · have hw := hw.2 c4
      refine ml_aload_n (pc := 16) X hl 0 rfl rfl dX11_length_16 ?_
      refine gf_X11_67 (pc := 17) X (ml_c1 hn) dX11_length_17 ?_
      refine ml_iload_n (pc := 20) X hl 1 rfl rfl dX11_length_20 ?_
      obtain ⟨a5, b5, hw⟩ := hw
      refine ml_aald_words (pc := 21) X hn a5 b5 dX11_length_21 ?_
      refine gf_X11_112 (pc := 22) X (ml_at_words hn a5 b5) dX11_length_22 ?_
      refine gf_X11_131 (pc := 25) X (ml_r20_2 hn (ml_at_words hn a5 b5)) dX11_length_25 ?_
      refine ml_iload_n (pc := 28) X hl 2 rfl rfl dX11_length_28 ?_
      obtain ⟨a6, b6, hw⟩ := hw
      refine ml_lald (pc := 29) (N := 10) X (ml_r19_2 hn (ml_r20_2 hn (ml_at_words hn a5 b5))) a6 b6 dX11_length_29 (fun r6 => ?_)
      have hw := hw r6
      refine ml_goto (pc := 30) (tgt := 36) X dX11_length_30 (by decide) ?_
      exact u_X11_length_36 X hn σ3 (σ3 (((119 + 6 * x1) + 2) + 2) x2) r6 _ (lv_sub hl [] rfl) hw
set_option maxRecDepth 100000 in
theorem c_X11_length (l : Launch) (base : Nat) (D : va_G) (cA : Nat → ClassId) (n : Nat) (hn : 214 ≤ n) (σ : ml_St) (x1 : Int) (x2 : Int) (h_x1 : I32 x1) (h_x2 : I32 x2) (Q : Int → ml_St → Prop) (hw : f_X11_length σ x1 x2 Q) : Met l yX11_length (Cond.code yX11_length cX11_length 3 (some .long) :: ml_T) rm_X11_length (va_Pc [.ref (base + (1 : Int).toNat), .int (Int32.ofInt x1), .int (Int32.ofInt x2)] (ml_U base D cA n σ)) (ml_Ql base D cA n Q) 0 0 (ml_A base) := by
  refine Met.ofW (cc := cX11_length) (maxL := 3) (ret := (some .long)) (by decide) rfl ?_
  intro p e s m args below meth c s₁ B hml hv
  obtain ⟨rfl, hP, hK, hok, hro⟩ := hv
  have X : ml_X p s m c meth _ D cA cX11_length 3 RX11 (some .long) := ⟨B.exec, B.bytes, hml, findClass_of_methodNamed B.named, fun w hw => atoms_spec (ws := Cond.code yX11_length cX11_length 3 (some .long) :: ml_T) B.pre w (List.mem_cons_of_mem _ hw), hK, B.notSynchronized, B.returns⟩
  have hl := lv_entry [.ref (base + (1 : Int).toNat), .int (Int32.ofInt x1), .int (Int32.ofInt x2)] (n := 3) (Nat.le_of_ble_eq_true rfl)
  rw [lg_entry_eq]
  generalize (lg_sl [.ref (base + (1 : Int).toNat), .int (Int32.ofInt x1), .int (Int32.ofInt x2)] ++ List.replicate (3 - (lg_sl [.ref (base + (1 : Int).toNat), .int (Int32.ofInt x1), .int (Int32.ofInt x2)]).length) Slot.unset).toArray = ls at hl ⊢
  have hl : lv_has ls 3 [(0, .ref (base + (1 : Int).toNat)), (1, .int (Int32.ofInt x1)), (2, .int (Int32.ofInt x2))] := hl
  unfold f_X11_length at hw
  exact u_X11_length_0 X hn σ x1 x2 h_x1 h_x2 _ (lv_sub hl [0, 1, 2] rfl) hw s.heap [] hP va_S.rf hok hro
theorem dX11_loops_0 : decode cX11_loops 0 = .ok (.aload_n 0, 1) := by decide +kernel
theorem dX11_loops_1 : decode cX11_loops 1 = .ok (.iload_n 1, 1) := by decide +kernel
theorem dX11_loops_2 : decode cX11_loops 2 = .ok (.invokevirtual 121, 3) := by decide +kernel
theorem dX11_loops_5 : decode cX11_loops 5 = .ok (.ifCond .ne 7, 3) := by decide +kernel
theorem dX11_loops_8 : decode cX11_loops 8 = .ok (.ldc2_w 119, 3) := by decide +kernel
theorem dX11_loops_11 : decode cX11_loops 11 = .ok (.lreturn, 1) := by decide +kernel
theorem dX11_loops_12 : decode cX11_loops 12 = .ok (.aload_n 0, 1) := by decide +kernel
theorem dX11_loops_13 : decode cX11_loops 13 = .ok (.getfield 67, 3) := by decide +kernel
theorem dX11_loops_16 : decode cX11_loops 16 = .ok (.iload_n 1, 1) := by decide +kernel
theorem dX11_loops_17 : decode cX11_loops 17 = .ok (.aaload, 1) := by decide +kernel
theorem dX11_loops_18 : decode cX11_loops 18 = .ok (.getfield 112, 3) := by decide +kernel
theorem dX11_loops_21 : decode cX11_loops 21 = .ok (.astore_n 3, 1) := by decide +kernel
theorem dX11_loops_22 : decode cX11_loops 22 = .ok (.iload_n 2, 1) := by decide +kernel
theorem dX11_loops_23 : decode cX11_loops 23 = .ok (.tableswitch 63 0 3 #[29, 34, 39, 44], 29) := by decide +kernel
theorem dX11_loops_52 : decode cX11_loops 52 = .ok (.aload_n 3, 1) := by decide +kernel
theorem dX11_loops_53 : decode cX11_loops 53 = .ok (.getfield 135, 3) := by decide +kernel
theorem dX11_loops_56 : decode cX11_loops 56 = .ok (.lreturn, 1) := by decide +kernel
theorem dX11_loops_57 : decode cX11_loops 57 = .ok (.aload_n 3, 1) := by decide +kernel
theorem dX11_loops_58 : decode cX11_loops 58 = .ok (.getfield 138, 3) := by decide +kernel
theorem dX11_loops_61 : decode cX11_loops 61 = .ok (.lreturn, 1) := by decide +kernel
theorem dX11_loops_62 : decode cX11_loops 62 = .ok (.aload_n 3, 1) := by decide +kernel
theorem dX11_loops_63 : decode cX11_loops 63 = .ok (.getfield 141, 3) := by decide +kernel
theorem dX11_loops_66 : decode cX11_loops 66 = .ok (.lreturn, 1) := by decide +kernel
theorem dX11_loops_67 : decode cX11_loops 67 = .ok (.aload_n 3, 1) := by decide +kernel
theorem dX11_loops_68 : decode cX11_loops 68 = .ok (.getfield 135, 3) := by decide +kernel
theorem dX11_loops_71 : decode cX11_loops 71 = .ok (.aload_n 0, 1) := by decide +kernel
theorem dX11_loops_72 : decode cX11_loops 72 = .ok (.getfield 19, 3) := by decide +kernel
theorem dX11_loops_75 : decode cX11_loops 75 = .ok (.aload_n 3, 1) := by decide +kernel
theorem dX11_loops_76 : decode cX11_loops 76 = .ok (.aload_n 0, 1) := by decide +kernel
theorem dX11_loops_77 : decode cX11_loops 77 = .ok (.getfield 82, 3) := by decide +kernel
theorem dX11_loops_80 : decode cX11_loops 80 = .ok (.invokevirtual 144, 3) := by decide +kernel
theorem dX11_loops_83 : decode cX11_loops 83 = .ok (.i2l, 1) := by decide +kernel
theorem dX11_loops_84 : decode cX11_loops 84 = .ok (.ladd, 1) := by decide +kernel
theorem dX11_loops_85 : decode cX11_loops 85 = .ok (.lreturn, 1) := by decide +kernel
theorem dX11_loops_86 : decode cX11_loops 86 = .ok (.ldc2_w 119, 3) := by decide +kernel
theorem dX11_loops_89 : decode cX11_loops 89 = .ok (.lreturn, 1) := by decide +kernel
def f_X11_loops_u0 (Q : Int → ml_St → Prop) (σ : ml_St) (x1 : Int) (x2 : Int) : Prop :=
f_X11_isMade σ x1 (fun r1 σ1 => ∀ _ : ml_B r1,
(r1 ≠ 0 →
(0 : Int) ≤ x1 ∧ (x1 : Int) < 16 ∧
(x2 = 0 →
∀ _ : I64 (σ1 ((119 + 6 * x1) + 2) 2),
Q (σ1 ((119 + 6 * x1) + 2) 2) σ1) ∧
(x2 = 1 →
∀ _ : I64 (σ1 ((119 + 6 * x1) + 2) 3),
Q (σ1 ((119 + 6 * x1) + 2) 3) σ1) ∧
(x2 = 2 →
∀ _ : I64 (σ1 ((119 + 6 * x1) + 2) 4),
Q (σ1 ((119 + 6 * x1) + 2) 4) σ1) ∧
(x2 = 3 →
∀ _ : I64 (σ1 ((119 + 6 * x1) + 2) 2),
∀ _ : I32 (σ1 1 11),
False) ∧
(x2 < 0 ∨ 3 < x2 →
Q (-1) σ1)) ∧
(r1 = 0 →
Q (-1) σ1))
def f_X11_loops (σ : ml_St) (x1 : Int) (x2 : Int) (Q : Int → ml_St → Prop) : Prop := f_X11_loops_u0 Q σ x1 x2
def rm_X11_loops : Room := { frames := 2, cells := 0, slots := 0, locals := 42 }
set_option maxRecDepth 100000 in
set_option maxHeartbeats 4000000 in
theorem u_X11_loops_0 {p : Program} {e : Env} {s : State} {m : MethodId} {args : Array Value} {below : List Frame} {meth : Method} {c : Code} {base : Nat} {D : va_G} {cA : Nat → ClassId} {n : Nat} {l : Launch} {Q : Int → ml_St → Prop} (X : ml_X p s m c meth args D cA cX11_loops 4 RX11 (some .long)) (hn : 214 ≤ n) (σ : ml_St) (x1 : Int) (x2 : Int) (h_x1 : I32 x1) (h_x2 : I32 x2) (ls : Array Slot) (hl : lv_has ls 4 [(0, .ref (base + (1 : Int).toNat)), (1, .int (Int32.ofInt x1)), (2, .int (Int32.ofInt x2))]) (hw : f_X11_loops_u0 Q σ x1 x2) : ml_V p l e rm_X11_loops s m args below meth c (MQ below (ml_Ql base D cA n Q) args s 0 0 (ml_A base)) base D cA 0 0 n n σ (F0 m 0 ls []) := by
  unfold f_X11_loops_u0 at hw
  refine ml_aload_n (pc := 0) X hl 0 rfl rfl dX11_loops_0 ?_
  refine ml_iload_n (pc := 1) X hl 1 rfl rfl dX11_loops_1 ?_
  refine ml_callzV (pc := 2) (rest := []) X [.int (Int32.ofInt x1)] (by decide) rfl (ml_c1 hn) (c_X11_isMade l base D cA n hn σ x1 h_x1 _ hw) cv_X11_121 ⟨rfl, rfl⟩ ⟨by decide, by decide⟩ rfl rfl hl (Nat.le_of_ble_eq_true rfl) ⟨Nat.zero_le _, Nat.zero_le _⟩ dX11_loops_2 (fun r1 σ1 t1 hw => ?_)
  have hw := hw t1
  refine ml_if_ne (pc := 5) (tgt := 12) X t1.i dX11_loops_5 (by decide) (fun c2 => ?_) (fun c2 => ?_)
  · have hw := hw.1 c2
    refine ml_aload_n (pc := 12) X hl 0 rfl rfl dX11_loops_12 ?_
    refine gf_X11_67 (pc := 13) X (ml_c1 hn) dX11_loops_13 ?_
    refine ml_iload_n (pc := 16) X hl 1 rfl rfl dX11_loops_16 ?_
    obtain ⟨a3, b3, hw⟩ := hw
    refine ml_aald_words (pc := 17) X hn a3 b3 dX11_loops_17 ?_
    refine gf_X11_112 (pc := 18) X (ml_at_words hn a3 b3) dX11_loops_18 ?_
    refine ml_astore_n (pc := 21) X rfl hl (by decide) (lst' := [(3, .ref (base + (((119 + 6 * x1) + 2) : Int).toNat)), (0, .ref (base + (1 : Int).toNat)), (1, .int (Int32.ofInt x1)), (2, .int (Int32.ofInt x2))]) rfl dX11_loops_21 (fun ls hl => ?_)
    refine ml_iload_n (pc := 22) X hl 3 rfl rfl dX11_loops_22 ?_
    rcases (show x2 = 0 ∨ x2 = 1 ∨ x2 = 2 ∨ x2 = 3 ∨ (x2 < 0 ∨ 3 < x2) by omega) with c4 | c4 | c4 | c4 | c4
    · have hw := hw.1 c4
      refine ml_tIn (pc := 23) (off := 29) (tgt := 52) X c4 dX11_loops_23 (by decide) (by decide) (by decide +kernel) (by decide) ?_
      refine ml_aload_n (pc := 52) X hl 0 rfl rfl dX11_loops_52 ?_
      refine gf_X11_135 (pc := 53) X (ml_r20_2 hn (ml_at_words hn a3 b3)) dX11_loops_53 (fun r5 => ?_)
      have hw := hw r5
      exact ml_lret (pc := 56) X r5 hw dX11_loops_56
    · have hw := hw.2.1 c4
      refine ml_tIn (pc := 23) (off := 34) (tgt := 57) X c4 dX11_loops_23 (by decide) (by decide) (by decide +kernel) (by decide) ?_
      refine ml_aload_n (pc := 57) X hl 0 rfl rfl dX11_loops_57 ?_
      refine gf_X11_138 (pc := 58) X (ml_r20_2 hn (ml_at_words hn a3 b3)) dX11_loops_58 (fun r6 => ?_)
      have hw := hw r6
      exact ml_lret (pc := 61) X r6 hw dX11_loops_61
    · have hw := hw.2.2.1 c4
      refine ml_tIn (pc := 23) (off := 39) (tgt := 62) X c4 dX11_loops_23 (by decide) (by decide) (by decide +kernel) (by decide) ?_
      refine ml_aload_n (pc := 62) X hl 0 rfl rfl dX11_loops_62 ?_
      refine gf_X11_141 (pc := 63) X (ml_r20_2 hn (ml_at_words hn a3 b3)) dX11_loops_63 (fun r7 => ?_)
      have hw := hw r7
      exact ml_lret (pc := 66) X r7 hw dX11_loops_66
    · have hw := hw.2.2.2.1 c4
      refine ml_tIn (pc := 23) (off := 44) (tgt := 67) X c4 dX11_loops_23 (by decide) (by decide) (by decide +kernel) (by decide) ?_
      refine ml_aload_n (pc := 67) X hl 0 rfl rfl dX11_loops_67 ?_
      refine gf_X11_135 (pc := 68) X (ml_r20_2 hn (ml_at_words hn a3 b3)) dX11_loops_68 (fun r8 => ?_)
      have hw := hw r8
      refine ml_aload_n (pc := 71) X hl 1 rfl rfl dX11_loops_71 ?_
      refine gf_X11_19 (pc := 72) X (ml_c1 hn) dX11_loops_72 ?_
      refine ml_aload_n (pc := 75) X hl 0 rfl rfl dX11_loops_75 ?_
      refine ml_aload_n (pc := 76) X hl 1 rfl rfl dX11_loops_76 ?_
      refine gf_X11_82 (pc := 77) X (ml_c1 hn) dX11_loops_77 (fun r9 => ?_)
      have hw := hw r9
      exact hw.elim
    · have hw := hw.2.2.2.2 c4
      refine ml_tOut (pc := 23) (tgt := 86) X h_x2 dX11_loops_23 c4 (by decide) ?_
      refine ml_ldc2 (pc := 86) (v := (-1)) X dX11_loops_86 tc_3_125 ?_
      exact ml_lret (pc := 89) X ⟨by decide, by decide⟩ hw dX11_loops_89
  · have hw := hw.2 c2
    refine ml_ldc2 (pc := 8) (v := (-1)) X dX11_loops_8 tc_3_125 ?_
    exact ml_lret (pc := 11) X ⟨by decide, by decide⟩ hw dX11_loops_11
set_option maxRecDepth 100000 in
theorem c_X11_loops (l : Launch) (base : Nat) (D : va_G) (cA : Nat → ClassId) (n : Nat) (hn : 214 ≤ n) (σ : ml_St) (x1 : Int) (x2 : Int) (h_x1 : I32 x1) (h_x2 : I32 x2) (Q : Int → ml_St → Prop) (hw : f_X11_loops σ x1 x2 Q) : Met l yX11_loops (Cond.code yX11_loops cX11_loops 4 (some .long) :: ml_T) rm_X11_loops (va_Pc [.ref (base + (1 : Int).toNat), .int (Int32.ofInt x1), .int (Int32.ofInt x2)] (ml_U base D cA n σ)) (ml_Ql base D cA n Q) 0 0 (ml_A base) := by
  refine Met.ofW (cc := cX11_loops) (maxL := 4) (ret := (some .long)) (by decide) rfl ?_
  intro p e s m args below meth c s₁ B hml hv
  obtain ⟨rfl, hP, hK, hok, hro⟩ := hv
  have X : ml_X p s m c meth _ D cA cX11_loops 4 RX11 (some .long) := ⟨B.exec, B.bytes, hml, findClass_of_methodNamed B.named, fun w hw => atoms_spec (ws := Cond.code yX11_loops cX11_loops 4 (some .long) :: ml_T) B.pre w (List.mem_cons_of_mem _ hw), hK, B.notSynchronized, B.returns⟩
  have hl := lv_entry [.ref (base + (1 : Int).toNat), .int (Int32.ofInt x1), .int (Int32.ofInt x2)] (n := 4) (Nat.le_of_ble_eq_true rfl)
  rw [lg_entry_eq]
  generalize (lg_sl [.ref (base + (1 : Int).toNat), .int (Int32.ofInt x1), .int (Int32.ofInt x2)] ++ List.replicate (4 - (lg_sl [.ref (base + (1 : Int).toNat), .int (Int32.ofInt x1), .int (Int32.ofInt x2)]).length) Slot.unset).toArray = ls at hl ⊢
  have hl : lv_has ls 4 [(0, .ref (base + (1 : Int).toNat)), (1, .int (Int32.ofInt x1)), (2, .int (Int32.ofInt x2))] := hl
  unfold f_X11_loops at hw
  exact u_X11_loops_0 X hn σ x1 x2 h_x1 h_x2 _ (lv_sub hl [0, 1, 2] rfl) hw s.heap [] hP va_S.rf hok hro
theorem dX11_power_0 : decode cX11_power 0 = .ok (.aload_n 0, 1) := by decide +kernel
theorem dX11_power_1 : decode cX11_power 1 = .ok (.iload_n 1, 1) := by decide +kernel
theorem dX11_power_2 : decode cX11_power 2 = .ok (.invokevirtual 121, 3) := by decide +kernel
theorem dX11_power_5 : decode cX11_power 5 = .ok (.ifCond .eq 12, 3) := by decide +kernel
theorem dX11_power_8 : decode cX11_power 8 = .ok (.iload_n 2, 1) := by decide +kernel
theorem dX11_power_9 : decode cX11_power 9 = .ok (.ifCond .lt 8, 3) := by decide +kernel
theorem dX11_power_12 : decode cX11_power 12 = .ok (.iload_n 2, 1) := by decide +kernel
theorem dX11_power_13 : decode cX11_power 13 = .ok (.iconst 1, 1) := by decide +kernel
theorem dX11_power_14 : decode cX11_power 14 = .ok (.if_icmp .le 5, 3) := by decide +kernel
theorem dX11_power_17 : decode cX11_power 17 = .ok (.iconst (-1), 1) := by decide +kernel
theorem dX11_power_18 : decode cX11_power 18 = .ok (.ireturn, 1) := by decide +kernel
theorem dX11_power_19 : decode cX11_power 19 = .ok (.aload_n 0, 1) := by decide +kernel
theorem dX11_power_20 : decode cX11_power 20 = .ok (.getfield 40, 3) := by decide +kernel
theorem dX11_power_23 : decode cX11_power 23 = .ok (.aload_n 0, 1) := by decide +kernel
theorem dX11_power_24 : decode cX11_power 24 = .ok (.getfield 67, 3) := by decide +kernel
theorem dX11_power_27 : decode cX11_power 27 = .ok (.iload_n 1, 1) := by decide +kernel
theorem dX11_power_28 : decode cX11_power 28 = .ok (.aaload, 1) := by decide +kernel
theorem dX11_power_29 : decode cX11_power 29 = .ok (.getfield 112, 3) := by decide +kernel
theorem dX11_power_32 : decode cX11_power 32 = .ok (.aload_n 0, 1) := by decide +kernel
theorem dX11_power_33 : decode cX11_power 33 = .ok (.getfield 19, 3) := by decide +kernel
theorem dX11_power_36 : decode cX11_power 36 = .ok (.aload_n 0, 1) := by decide +kernel
theorem dX11_power_37 : decode cX11_power 37 = .ok (.getfield 82, 3) := by decide +kernel
theorem dX11_power_40 : decode cX11_power 40 = .ok (.invokevirtual 148, 3) := by decide +kernel
theorem dX11_power_43 : decode cX11_power 43 = .ok (.iload_n 2, 1) := by decide +kernel
theorem dX11_power_44 : decode cX11_power 44 = .ok (.ifCond .ne 13, 3) := by decide +kernel
theorem dX11_power_47 : decode cX11_power 47 = .ok (.aload_n 0, 1) := by decide +kernel
theorem dX11_power_48 : decode cX11_power 48 = .ok (.getfield 40, 3) := by decide +kernel
theorem dX11_power_51 : decode cX11_power 51 = .ok (.getfield 152, 3) := by decide +kernel
theorem dX11_power_54 : decode cX11_power 54 = .ok (.goto 10, 3) := by decide +kernel
theorem dX11_power_57 : decode cX11_power 57 = .ok (.aload_n 0, 1) := by decide +kernel
theorem dX11_power_58 : decode cX11_power 58 = .ok (.getfield 40, 3) := by decide +kernel
theorem dX11_power_61 : decode cX11_power 61 = .ok (.getfield 155, 3) := by decide +kernel
theorem dX11_power_64 : decode cX11_power 64 = .ok (.ireturn, 1) := by decide +kernel
def f_X11_power_u17 (Q : Int → ml_St → Prop) (σ : ml_St) : Prop :=
Q (-1) σ
def f_X11_power_u64 (Q : Int → ml_St → Prop) (σ : ml_St) (s0 : Int) : Prop :=
Q s0 σ
def f_X11_power_u0 (Q : Int → ml_St → Prop) (σ : ml_St) (x1 : Int) (x2 : Int) : Prop :=
f_X11_isMade σ x1 (fun r1 σ1 => ∀ _ : ml_B r1,
(r1 = 0 →
f_X11_power_u17 Q σ1) ∧
(r1 ≠ 0 →
(x2 < 0 →
f_X11_power_u17 Q σ1) ∧
(¬ (x2 < 0) →
(x2 ≤ 1 →
(0 : Int) ≤ x1 ∧ (x1 : Int) < 16 ∧
∀ _ : I32 (σ1 1 11),
False) ∧
(¬ (x2 ≤ 1) →
f_X11_power_u17 Q σ1))))
def f_X11_power (σ : ml_St) (x1 : Int) (x2 : Int) (Q : Int → ml_St → Prop) : Prop := f_X11_power_u0 Q σ x1 x2
def rm_X11_power : Room := { frames := 2, cells := 0, slots := 0, locals := 42 }
set_option maxRecDepth 100000 in
set_option maxHeartbeats 4000000 in
theorem u_X11_power_17 {p : Program} {e : Env} {s : State} {m : MethodId} {args : Array Value} {below : List Frame} {meth : Method} {c : Code} {base : Nat} {D : va_G} {cA : Nat → ClassId} {n : Nat} {l : Launch} {Q : Int → ml_St → Prop} (X : ml_X p s m c meth args D cA cX11_power 3 RX11 (some .int)) (hn : 214 ≤ n) (σ : ml_St) (ls : Array Slot) (hl : lv_has ls 3 []) (hw : f_X11_power_u17 Q σ) : ml_V p l e rm_X11_power s m args below meth c (MQ below (ml_Qi I32 base D cA n Q) args s 0 0 (ml_A base)) base D cA 0 0 n n σ (F0 m 17 ls []) := by
  unfold f_X11_power_u17 at hw
  refine ml_iconst (pc := 17) X dX11_power_17 ?_
  exact ml_iret (pc := 18) X ⟨by decide, by decide⟩ hw dX11_power_18
set_option maxRecDepth 100000 in
set_option maxHeartbeats 4000000 in
theorem u_X11_power_64 {p : Program} {e : Env} {s : State} {m : MethodId} {args : Array Value} {below : List Frame} {meth : Method} {c : Code} {base : Nat} {D : va_G} {cA : Nat → ClassId} {n : Nat} {l : Launch} {Q : Int → ml_St → Prop} (X : ml_X p s m c meth args D cA cX11_power 3 RX11 (some .int)) (hn : 214 ≤ n) (σ : ml_St) (s0 : Int) (h_s0 : I32 s0) (ls : Array Slot) (hl : lv_has ls 3 []) (hw : f_X11_power_u64 Q σ s0) : ml_V p l e rm_X11_power s m args below meth c (MQ below (ml_Qi I32 base D cA n Q) args s 0 0 (ml_A base)) base D cA 0 0 n n σ (F0 m 64 ls [.int (Int32.ofInt s0)]) := by
  unfold f_X11_power_u64 at hw
  exact ml_iret (pc := 64) X h_s0 hw dX11_power_64
set_option maxRecDepth 100000 in
set_option maxHeartbeats 4000000 in
theorem u_X11_power_0 {p : Program} {e : Env} {s : State} {m : MethodId} {args : Array Value} {below : List Frame} {meth : Method} {c : Code} {base : Nat} {D : va_G} {cA : Nat → ClassId} {n : Nat} {l : Launch} {Q : Int → ml_St → Prop} (X : ml_X p s m c meth args D cA cX11_power 3 RX11 (some .int)) (hn : 214 ≤ n) (σ : ml_St) (x1 : Int) (x2 : Int) (h_x1 : I32 x1) (h_x2 : I32 x2) (ls : Array Slot) (hl : lv_has ls 3 [(0, .ref (base + (1 : Int).toNat)), (1, .int (Int32.ofInt x1)), (2, .int (Int32.ofInt x2))]) (hw : f_X11_power_u0 Q σ x1 x2) : ml_V p l e rm_X11_power s m args below meth c (MQ below (ml_Qi I32 base D cA n Q) args s 0 0 (ml_A base)) base D cA 0 0 n n σ (F0 m 0 ls []) := by
  unfold f_X11_power_u0 at hw
  refine ml_aload_n (pc := 0) X hl 0 rfl rfl dX11_power_0 ?_
  refine ml_iload_n (pc := 1) X hl 1 rfl rfl dX11_power_1 ?_
  refine ml_callzV (pc := 2) (rest := []) X [.int (Int32.ofInt x1)] (by decide) rfl (ml_c1 hn) (c_X11_isMade l base D cA n hn σ x1 h_x1 _ hw) cv_X11_121 ⟨rfl, rfl⟩ ⟨by decide, by decide⟩ rfl rfl hl (Nat.le_of_ble_eq_true rfl) ⟨Nat.zero_le _, Nat.zero_le _⟩ dX11_power_2 (fun r1 σ1 t1 hw => ?_)
  have hw := hw t1
  refine ml_if_eq (pc := 5) (tgt := 17) X t1.i dX11_power_5 (by decide) (fun c2 => ?_) (fun c2 => ?_)
  · have hw := hw.1 c2
    exact u_X11_power_17 X hn σ1   _ (lv_sub hl [] rfl) hw
  · have hw := hw.2 c2
    refine ml_iload_n (pc := 8) X hl 2 rfl rfl dX11_power_8 ?_
    refine ml_if_lt (pc := 9) (tgt := 17) X h_x2 dX11_power_9 (by decide) (fun c3 => ?_) (fun c3 => ?_)
    · have hw := hw.1 c3
      exact u_X11_power_17 X hn σ1   _ (lv_sub hl [] rfl) hw
    · have hw := hw.2 c3
      refine ml_iload_n (pc := 12) X hl 2 rfl rfl dX11_power_12 ?_
      refine ml_iconst (pc := 13) X dX11_power_13 ?_
      refine ml_icmp_le (pc := 14) (tgt := 19) X h_x2 ⟨by decide, by decide⟩ dX11_power_14 (by decide) (fun c4 => ?_) (fun c4 => ?_)
      · have hw := hw.1 c4
        refine ml_aload_n (pc := 19) X hl 0 rfl rfl dX11_power_19 ?_
        refine gf_X11_40 (pc := 20) X (ml_c1 hn) dX11_power_20 ?_
        refine ml_aload_n (pc := 23) X hl 0 rfl rfl dX11_power_23 ?_
        refine gf_X11_67 (pc := 24) X (ml_c1 hn) dX11_power_24 ?_
        refine ml_iload_n (pc := 27) X hl 1 rfl rfl dX11_power_27 ?_
        obtain ⟨a5, b5, hw⟩ := hw
        refine ml_aald_words (pc := 28) X hn a5 b5 dX11_power_28 ?_
        refine gf_X11_112 (pc := 29) X (ml_at_words hn a5 b5) dX11_power_29 ?_
        refine ml_aload_n (pc := 32) X hl 0 rfl rfl dX11_power_32 ?_
        refine gf_X11_19 (pc := 33) X (ml_c1 hn) dX11_power_33 ?_
        refine ml_aload_n (pc := 36) X hl 0 rfl rfl dX11_power_36 ?_
        refine gf_X11_82 (pc := 37) X (ml_c1 hn) dX11_power_37 (fun r6 => ?_)
        have hw := hw r6
        exact hw.elim
      · have hw := hw.2 c4
        exact u_X11_power_17 X hn σ1   _ (lv_sub hl [] rfl) hw
set_option maxRecDepth 100000 in
theorem c_X11_power (l : Launch) (base : Nat) (D : va_G) (cA : Nat → ClassId) (n : Nat) (hn : 214 ≤ n) (σ : ml_St) (x1 : Int) (x2 : Int) (h_x1 : I32 x1) (h_x2 : I32 x2) (Q : Int → ml_St → Prop) (hw : f_X11_power σ x1 x2 Q) : Met l yX11_power (Cond.code yX11_power cX11_power 3 (some .int) :: ml_T) rm_X11_power (va_Pc [.ref (base + (1 : Int).toNat), .int (Int32.ofInt x1), .int (Int32.ofInt x2)] (ml_U base D cA n σ)) (ml_Qi I32 base D cA n Q) 0 0 (ml_A base) := by
  refine Met.ofW (cc := cX11_power) (maxL := 3) (ret := (some .int)) (by decide) rfl ?_
  intro p e s m args below meth c s₁ B hml hv
  obtain ⟨rfl, hP, hK, hok, hro⟩ := hv
  have X : ml_X p s m c meth _ D cA cX11_power 3 RX11 (some .int) := ⟨B.exec, B.bytes, hml, findClass_of_methodNamed B.named, fun w hw => atoms_spec (ws := Cond.code yX11_power cX11_power 3 (some .int) :: ml_T) B.pre w (List.mem_cons_of_mem _ hw), hK, B.notSynchronized, B.returns⟩
  have hl := lv_entry [.ref (base + (1 : Int).toNat), .int (Int32.ofInt x1), .int (Int32.ofInt x2)] (n := 3) (Nat.le_of_ble_eq_true rfl)
  rw [lg_entry_eq]
  generalize (lg_sl [.ref (base + (1 : Int).toNat), .int (Int32.ofInt x1), .int (Int32.ofInt x2)] ++ List.replicate (3 - (lg_sl [.ref (base + (1 : Int).toNat), .int (Int32.ofInt x1), .int (Int32.ofInt x2)]).length) Slot.unset).toArray = ls at hl ⊢
  have hl : lv_has ls 3 [(0, .ref (base + (1 : Int).toNat)), (1, .int (Int32.ofInt x1)), (2, .int (Int32.ofInt x2))] := hl
  unfold f_X11_power at hw
  exact u_X11_power_0 X hn σ x1 x2 h_x1 h_x2 _ (lv_sub hl [0, 1, 2] rfl) hw s.heap [] hP va_S.rf hok hro
theorem dX11_rule_0 : decode cX11_rule 0 = .ok (.aload_n 0, 1) := by decide +kernel
theorem dX11_rule_1 : decode cX11_rule 1 = .ok (.iload_n 1, 1) := by decide +kernel
theorem dX11_rule_2 : decode cX11_rule 2 = .ok (.invokevirtual 121, 3) := by decide +kernel
theorem dX11_rule_5 : decode cX11_rule 5 = .ok (.ifCond .eq 12, 3) := by decide +kernel
theorem dX11_rule_8 : decode cX11_rule 8 = .ok (.iload_n 2, 1) := by decide +kernel
theorem dX11_rule_9 : decode cX11_rule 9 = .ok (.ifCond .lt 8, 3) := by decide +kernel
theorem dX11_rule_12 : decode cX11_rule 12 = .ok (.iload_n 2, 1) := by decide +kernel
theorem dX11_rule_13 : decode cX11_rule 13 = .ok (.iconst 2, 1) := by decide +kernel
theorem dX11_rule_14 : decode cX11_rule 14 = .ok (.if_icmp .le 7, 3) := by decide +kernel
theorem dX11_rule_17 : decode cX11_rule 17 = .ok (.ldc2_w 119, 3) := by decide +kernel
theorem dX11_rule_20 : decode cX11_rule 20 = .ok (.lreturn, 1) := by decide +kernel
theorem dX11_rule_21 : decode cX11_rule 21 = .ok (.aload_n 0, 1) := by decide +kernel
theorem dX11_rule_22 : decode cX11_rule 22 = .ok (.getfield 40, 3) := by decide +kernel
theorem dX11_rule_25 : decode cX11_rule 25 = .ok (.aload_n 0, 1) := by decide +kernel
theorem dX11_rule_26 : decode cX11_rule 26 = .ok (.getfield 67, 3) := by decide +kernel
theorem dX11_rule_29 : decode cX11_rule 29 = .ok (.iload_n 1, 1) := by decide +kernel
theorem dX11_rule_30 : decode cX11_rule 30 = .ok (.aaload, 1) := by decide +kernel
theorem dX11_rule_31 : decode cX11_rule 31 = .ok (.getfield 112, 3) := by decide +kernel
theorem dX11_rule_34 : decode cX11_rule 34 = .ok (.aload_n 0, 1) := by decide +kernel
theorem dX11_rule_35 : decode cX11_rule 35 = .ok (.getfield 19, 3) := by decide +kernel
theorem dX11_rule_38 : decode cX11_rule 38 = .ok (.aload_n 0, 1) := by decide +kernel
theorem dX11_rule_39 : decode cX11_rule 39 = .ok (.getfield 82, 3) := by decide +kernel
theorem dX11_rule_42 : decode cX11_rule 42 = .ok (.invokevirtual 148, 3) := by decide +kernel
theorem dX11_rule_45 : decode cX11_rule 45 = .ok (.aload_n 0, 1) := by decide +kernel
theorem dX11_rule_46 : decode cX11_rule 46 = .ok (.getfield 40, 3) := by decide +kernel
theorem dX11_rule_49 : decode cX11_rule 49 = .ok (.invokevirtual 158, 3) := by decide +kernel
theorem dX11_rule_52 : decode cX11_rule 52 = .ok (.iload_n 2, 1) := by decide +kernel
theorem dX11_rule_53 : decode cX11_rule 53 = .ok (.ifCond .ne 12, 3) := by decide +kernel
theorem dX11_rule_56 : decode cX11_rule 56 = .ok (.aload_n 0, 1) := by decide +kernel
theorem dX11_rule_57 : decode cX11_rule 57 = .ok (.getfield 40, 3) := by decide +kernel
theorem dX11_rule_60 : decode cX11_rule 60 = .ok (.getfield 161, 3) := by decide +kernel
theorem dX11_rule_63 : decode cX11_rule 63 = .ok (.i2l, 1) := by decide +kernel
theorem dX11_rule_64 : decode cX11_rule 64 = .ok (.lreturn, 1) := by decide +kernel
theorem dX11_rule_65 : decode cX11_rule 65 = .ok (.iload_n 2, 1) := by decide +kernel
theorem dX11_rule_66 : decode cX11_rule 66 = .ok (.iconst 1, 1) := by decide +kernel
theorem dX11_rule_67 : decode cX11_rule 67 = .ok (.if_icmp .ne 13, 3) := by decide +kernel
theorem dX11_rule_70 : decode cX11_rule 70 = .ok (.aload_n 0, 1) := by decide +kernel
theorem dX11_rule_71 : decode cX11_rule 71 = .ok (.getfield 40, 3) := by decide +kernel
theorem dX11_rule_74 : decode cX11_rule 74 = .ok (.getfield 164, 3) := by decide +kernel
theorem dX11_rule_77 : decode cX11_rule 77 = .ok (.goto 11, 3) := by decide +kernel
theorem dX11_rule_80 : decode cX11_rule 80 = .ok (.aload_n 0, 1) := by decide +kernel
theorem dX11_rule_81 : decode cX11_rule 81 = .ok (.getfield 40, 3) := by decide +kernel
theorem dX11_rule_84 : decode cX11_rule 84 = .ok (.getfield 167, 3) := by decide +kernel
theorem dX11_rule_87 : decode cX11_rule 87 = .ok (.i2l, 1) := by decide +kernel
theorem dX11_rule_88 : decode cX11_rule 88 = .ok (.lreturn, 1) := by decide +kernel
def f_X11_rule_u17 (Q : Int → ml_St → Prop) (σ : ml_St) : Prop :=
Q (-1) σ
def f_X11_rule_u88 (Q : Int → ml_St → Prop) (σ : ml_St) (s0 : Int) : Prop :=
Q s0 σ
def f_X11_rule_u0 (Q : Int → ml_St → Prop) (σ : ml_St) (x1 : Int) (x2 : Int) : Prop :=
f_X11_isMade σ x1 (fun r1 σ1 => ∀ _ : ml_B r1,
(r1 = 0 →
f_X11_rule_u17 Q σ1) ∧
(r1 ≠ 0 →
(x2 < 0 →
f_X11_rule_u17 Q σ1) ∧
(¬ (x2 < 0) →
(x2 ≤ 2 →
(0 : Int) ≤ x1 ∧ (x1 : Int) < 16 ∧
∀ _ : I32 (σ1 1 11),
False) ∧
(¬ (x2 ≤ 2) →
f_X11_rule_u17 Q σ1))))
def f_X11_rule (σ : ml_St) (x1 : Int) (x2 : Int) (Q : Int → ml_St → Prop) : Prop := f_X11_rule_u0 Q σ x1 x2
def rm_X11_rule : Room := { frames := 2, cells := 0, slots := 0, locals := 42 }
set_option maxRecDepth 100000 in
set_option maxHeartbeats 4000000 in
theorem u_X11_rule_17 {p : Program} {e : Env} {s : State} {m : MethodId} {args : Array Value} {below : List Frame} {meth : Method} {c : Code} {base : Nat} {D : va_G} {cA : Nat → ClassId} {n : Nat} {l : Launch} {Q : Int → ml_St → Prop} (X : ml_X p s m c meth args D cA cX11_rule 3 RX11 (some .long)) (hn : 214 ≤ n) (σ : ml_St) (ls : Array Slot) (hl : lv_has ls 3 []) (hw : f_X11_rule_u17 Q σ) : ml_V p l e rm_X11_rule s m args below meth c (MQ below (ml_Ql base D cA n Q) args s 0 0 (ml_A base)) base D cA 0 0 n n σ (F0 m 17 ls []) := by
  unfold f_X11_rule_u17 at hw
  refine ml_ldc2 (pc := 17) (v := (-1)) X dX11_rule_17 tc_3_125 ?_
  exact ml_lret (pc := 20) X ⟨by decide, by decide⟩ hw dX11_rule_20
set_option maxRecDepth 100000 in
set_option maxHeartbeats 4000000 in
theorem u_X11_rule_88 {p : Program} {e : Env} {s : State} {m : MethodId} {args : Array Value} {below : List Frame} {meth : Method} {c : Code} {base : Nat} {D : va_G} {cA : Nat → ClassId} {n : Nat} {l : Launch} {Q : Int → ml_St → Prop} (X : ml_X p s m c meth args D cA cX11_rule 3 RX11 (some .long)) (hn : 214 ≤ n) (σ : ml_St) (s0 : Int) (h_s0 : I64 s0) (ls : Array Slot) (hl : lv_has ls 3 []) (hw : f_X11_rule_u88 Q σ s0) : ml_V p l e rm_X11_rule s m args below meth c (MQ below (ml_Ql base D cA n Q) args s 0 0 (ml_A base)) base D cA 0 0 n n σ (F0 m 88 ls [.long (Int64.ofInt s0)]) := by
  unfold f_X11_rule_u88 at hw
  exact ml_lret (pc := 88) X h_s0 hw dX11_rule_88
set_option maxRecDepth 100000 in
set_option maxHeartbeats 4000000 in
theorem u_X11_rule_0 {p : Program} {e : Env} {s : State} {m : MethodId} {args : Array Value} {below : List Frame} {meth : Method} {c : Code} {base : Nat} {D : va_G} {cA : Nat → ClassId} {n : Nat} {l : Launch} {Q : Int → ml_St → Prop} (X : ml_X p s m c meth args D cA cX11_rule 3 RX11 (some .long)) (hn : 214 ≤ n) (σ : ml_St) (x1 : Int) (x2 : Int) (h_x1 : I32 x1) (h_x2 : I32 x2) (ls : Array Slot) (hl : lv_has ls 3 [(0, .ref (base + (1 : Int).toNat)), (1, .int (Int32.ofInt x1)), (2, .int (Int32.ofInt x2))]) (hw : f_X11_rule_u0 Q σ x1 x2) : ml_V p l e rm_X11_rule s m args below meth c (MQ below (ml_Ql base D cA n Q) args s 0 0 (ml_A base)) base D cA 0 0 n n σ (F0 m 0 ls []) := by
  unfold f_X11_rule_u0 at hw
  refine ml_aload_n (pc := 0) X hl 0 rfl rfl dX11_rule_0 ?_
  refine ml_iload_n (pc := 1) X hl 1 rfl rfl dX11_rule_1 ?_
  refine ml_callzV (pc := 2) (rest := []) X [.int (Int32.ofInt x1)] (by decide) rfl (ml_c1 hn) (c_X11_isMade l base D cA n hn σ x1 h_x1 _ hw) cv_X11_121 ⟨rfl, rfl⟩ ⟨by decide, by decide⟩ rfl rfl hl (Nat.le_of_ble_eq_true rfl) ⟨Nat.zero_le _, Nat.zero_le _⟩ dX11_rule_2 (fun r1 σ1 t1 hw => ?_)
  have hw := hw t1
  refine ml_if_eq (pc := 5) (tgt := 17) X t1.i dX11_rule_5 (by decide) (fun c2 => ?_) (fun c2 => ?_)
  · have hw := hw.1 c2
    exact u_X11_rule_17 X hn σ1   _ (lv_sub hl [] rfl) hw
  · have hw := hw.2 c2
    refine ml_iload_n (pc := 8) X hl 2 rfl rfl dX11_rule_8 ?_
    refine ml_if_lt (pc := 9) (tgt := 17) X h_x2 dX11_rule_9 (by decide) (fun c3 => ?_) (fun c3 => ?_)
    · have hw := hw.1 c3
      exact u_X11_rule_17 X hn σ1   _ (lv_sub hl [] rfl) hw
    · have hw := hw.2 c3
      refine ml_iload_n (pc := 12) X hl 2 rfl rfl dX11_rule_12 ?_
      refine ml_iconst (pc := 13) X dX11_rule_13 ?_
      refine ml_icmp_le (pc := 14) (tgt := 21) X h_x2 ⟨by decide, by decide⟩ dX11_rule_14 (by decide) (fun c4 => ?_) (fun c4 => ?_)
      · have hw := hw.1 c4
        refine ml_aload_n (pc := 21) X hl 0 rfl rfl dX11_rule_21 ?_
        refine gf_X11_40 (pc := 22) X (ml_c1 hn) dX11_rule_22 ?_
        refine ml_aload_n (pc := 25) X hl 0 rfl rfl dX11_rule_25 ?_
        refine gf_X11_67 (pc := 26) X (ml_c1 hn) dX11_rule_26 ?_
        refine ml_iload_n (pc := 29) X hl 1 rfl rfl dX11_rule_29 ?_
        obtain ⟨a5, b5, hw⟩ := hw
        refine ml_aald_words (pc := 30) X hn a5 b5 dX11_rule_30 ?_
        refine gf_X11_112 (pc := 31) X (ml_at_words hn a5 b5) dX11_rule_31 ?_
        refine ml_aload_n (pc := 34) X hl 0 rfl rfl dX11_rule_34 ?_
        refine gf_X11_19 (pc := 35) X (ml_c1 hn) dX11_rule_35 ?_
        refine ml_aload_n (pc := 38) X hl 0 rfl rfl dX11_rule_38 ?_
        refine gf_X11_82 (pc := 39) X (ml_c1 hn) dX11_rule_39 (fun r6 => ?_)
        have hw := hw r6
        exact hw.elim
      · have hw := hw.2 c4
        exact u_X11_rule_17 X hn σ1   _ (lv_sub hl [] rfl) hw
set_option maxRecDepth 100000 in
theorem c_X11_rule (l : Launch) (base : Nat) (D : va_G) (cA : Nat → ClassId) (n : Nat) (hn : 214 ≤ n) (σ : ml_St) (x1 : Int) (x2 : Int) (h_x1 : I32 x1) (h_x2 : I32 x2) (Q : Int → ml_St → Prop) (hw : f_X11_rule σ x1 x2 Q) : Met l yX11_rule (Cond.code yX11_rule cX11_rule 3 (some .long) :: ml_T) rm_X11_rule (va_Pc [.ref (base + (1 : Int).toNat), .int (Int32.ofInt x1), .int (Int32.ofInt x2)] (ml_U base D cA n σ)) (ml_Ql base D cA n Q) 0 0 (ml_A base) := by
  refine Met.ofW (cc := cX11_rule) (maxL := 3) (ret := (some .long)) (by decide) rfl ?_
  intro p e s m args below meth c s₁ B hml hv
  obtain ⟨rfl, hP, hK, hok, hro⟩ := hv
  have X : ml_X p s m c meth _ D cA cX11_rule 3 RX11 (some .long) := ⟨B.exec, B.bytes, hml, findClass_of_methodNamed B.named, fun w hw => atoms_spec (ws := Cond.code yX11_rule cX11_rule 3 (some .long) :: ml_T) B.pre w (List.mem_cons_of_mem _ hw), hK, B.notSynchronized, B.returns⟩
  have hl := lv_entry [.ref (base + (1 : Int).toNat), .int (Int32.ofInt x1), .int (Int32.ofInt x2)] (n := 3) (Nat.le_of_ble_eq_true rfl)
  rw [lg_entry_eq]
  generalize (lg_sl [.ref (base + (1 : Int).toNat), .int (Int32.ofInt x1), .int (Int32.ofInt x2)] ++ List.replicate (3 - (lg_sl [.ref (base + (1 : Int).toNat), .int (Int32.ofInt x1), .int (Int32.ofInt x2)]).length) Slot.unset).toArray = ls at hl ⊢
  have hl : lv_has ls 3 [(0, .ref (base + (1 : Int).toNat)), (1, .int (Int32.ofInt x1)), (2, .int (Int32.ofInt x2))] := hl
  unfold f_X11_rule at hw
  exact u_X11_rule_0 X hn σ x1 x2 h_x1 h_x2 _ (lv_sub hl [0, 1, 2] rfl) hw s.heap [] hP va_S.rf hok hro
theorem dX11_isPower_0 : decode cX11_isPower 0 = .ok (.lload_n 0, 1) := by decide +kernel
theorem dX11_isPower_1 : decode cX11_isPower 1 = .ok (.lconst 1, 1) := by decide +kernel
theorem dX11_isPower_2 : decode cX11_isPower 2 = .ok (.lcmp, 1) := by decide +kernel
theorem dX11_isPower_3 : decode cX11_isPower 3 = .ok (.ifCond .lt 15, 3) := by decide +kernel
theorem dX11_isPower_6 : decode cX11_isPower 6 = .ok (.lload_n 0, 1) := by decide +kernel
theorem dX11_isPower_7 : decode cX11_isPower 7 = .ok (.ldc2_w 178, 3) := by decide +kernel
theorem dX11_isPower_10 : decode cX11_isPower 10 = .ok (.lcmp, 1) := by decide +kernel
theorem dX11_isPower_11 : decode cX11_isPower 11 = .ok (.ifCond .gt 7, 3) := by decide +kernel
theorem dX11_isPower_14 : decode cX11_isPower 14 = .ok (.iconst 1, 1) := by decide +kernel
theorem dX11_isPower_15 : decode cX11_isPower 15 = .ok (.goto 4, 3) := by decide +kernel
theorem dX11_isPower_18 : decode cX11_isPower 18 = .ok (.iconst 0, 1) := by decide +kernel
theorem dX11_isPower_19 : decode cX11_isPower 19 = .ok (.ireturn, 1) := by decide +kernel
def f_X11_isPower_u19 (Q : Int → ml_St → Prop) (σ : ml_St) (s0 : Int) : Prop :=
Q s0 σ
def f_X11_isPower_u18 (Q : Int → ml_St → Prop) (σ : ml_St) : Prop :=
f_X11_isPower_u19 Q σ 0
def f_X11_isPower_u0 (Q : Int → ml_St → Prop) (σ : ml_St) (x0 : Int) : Prop :=
(x0 < 1 →
f_X11_isPower_u18 Q σ) ∧
(¬ (x0 < 1) →
(1000000000000000000 < x0 →
f_X11_isPower_u18 Q σ) ∧
(¬ (1000000000000000000 < x0) →
f_X11_isPower_u19 Q σ 1))
def f_X11_isPower (σ : ml_St) (x0 : Int) (Q : Int → ml_St → Prop) : Prop := f_X11_isPower_u0 Q σ x0
def rm_X11_isPower : Room := { frames := 0, cells := 0, slots := 0, locals := 0 }
set_option maxRecDepth 100000 in
set_option maxHeartbeats 4000000 in
theorem u_X11_isPower_19 {p : Program} {e : Env} {s : State} {m : MethodId} {args : Array Value} {below : List Frame} {meth : Method} {c : Code} {base : Nat} {D : va_G} {cA : Nat → ClassId} {n : Nat} {l : Launch} {Q : Int → ml_St → Prop} (X : ml_X p s m c meth args D cA cX11_isPower 2 RX11 (some .boolean)) (hn : 214 ≤ n) (σ : ml_St) (s0 : Int) (h_s0 : ml_B s0) (ls : Array Slot) (hl : lv_has ls 2 []) (hw : f_X11_isPower_u19 Q σ s0) : ml_V p l e rm_X11_isPower s m args below meth c (MQ below (ml_Qi ml_B base D cA n Q) args s 0 0 (ml_A base)) base D cA 0 0 n n σ (F0 m 19 ls [.int (Int32.ofInt s0)]) := by
  unfold f_X11_isPower_u19 at hw
  exact ml_zret (pc := 19) X h_s0 hw dX11_isPower_19
set_option maxRecDepth 100000 in
set_option maxHeartbeats 4000000 in
theorem u_X11_isPower_18 {p : Program} {e : Env} {s : State} {m : MethodId} {args : Array Value} {below : List Frame} {meth : Method} {c : Code} {base : Nat} {D : va_G} {cA : Nat → ClassId} {n : Nat} {l : Launch} {Q : Int → ml_St → Prop} (X : ml_X p s m c meth args D cA cX11_isPower 2 RX11 (some .boolean)) (hn : 214 ≤ n) (σ : ml_St) (ls : Array Slot) (hl : lv_has ls 2 []) (hw : f_X11_isPower_u18 Q σ) : ml_V p l e rm_X11_isPower s m args below meth c (MQ below (ml_Qi ml_B base D cA n Q) args s 0 0 (ml_A base)) base D cA 0 0 n n σ (F0 m 18 ls []) := by
  unfold f_X11_isPower_u18 at hw
  refine ml_iconst (pc := 18) X dX11_isPower_18 ?_
  exact u_X11_isPower_19 X hn σ 0 ⟨by decide, by decide⟩ _ (lv_sub hl [] rfl) hw
set_option maxRecDepth 100000 in
set_option maxHeartbeats 4000000 in
theorem u_X11_isPower_0 {p : Program} {e : Env} {s : State} {m : MethodId} {args : Array Value} {below : List Frame} {meth : Method} {c : Code} {base : Nat} {D : va_G} {cA : Nat → ClassId} {n : Nat} {l : Launch} {Q : Int → ml_St → Prop} (X : ml_X p s m c meth args D cA cX11_isPower 2 RX11 (some .boolean)) (hn : 214 ≤ n) (σ : ml_St) (x0 : Int) (h_x0 : I64 x0) (ls : Array Slot) (hl : lv_has ls 2 [(0, .long (Int64.ofInt x0))]) (hw : f_X11_isPower_u0 Q σ x0) : ml_V p l e rm_X11_isPower s m args below meth c (MQ below (ml_Qi ml_B base D cA n Q) args s 0 0 (ml_A base)) base D cA 0 0 n n σ (F0 m 0 ls []) := by
  unfold f_X11_isPower_u0 at hw
  refine ml_lload_n (pc := 0) X hl 0 rfl rfl dX11_isPower_0 ?_
  refine ml_lconst1 (pc := 1) X dX11_isPower_1 ?_
  refine ml_lcmp_lt (pc := 2) (tgt := 18) X h_x0 ⟨by decide, by decide⟩ dX11_isPower_2 dX11_isPower_3 (by decide) (fun c1 => ?_) (fun c1 => ?_)
  · have hw := hw.1 c1
    exact u_X11_isPower_18 X hn σ   _ (lv_sub hl [] rfl) hw
  · have hw := hw.2 c1
    refine ml_lload_n (pc := 6) X hl 0 rfl rfl dX11_isPower_6 ?_
    refine ml_ldc2 (pc := 7) (v := 1000000000000000000) X dX11_isPower_7 tc_3_203 ?_
    refine ml_lcmp_gt (pc := 10) (tgt := 18) X h_x0 ⟨by decide, by decide⟩ dX11_isPower_10 dX11_isPower_11 (by decide) (fun c2 => ?_) (fun c2 => ?_)
    · have hw := hw.1 c2
      exact u_X11_isPower_18 X hn σ   _ (lv_sub hl [] rfl) hw
    · have hw := hw.2 c2
      refine ml_iconst (pc := 14) X dX11_isPower_14 ?_
      refine ml_goto (pc := 15) (tgt := 19) X dX11_isPower_15 (by decide) ?_
      exact u_X11_isPower_19 X hn σ 1 ⟨by decide, by decide⟩ _ (lv_sub hl [] rfl) hw
set_option maxRecDepth 100000 in
theorem c_X11_isPower (l : Launch) (base : Nat) (D : va_G) (cA : Nat → ClassId) (n : Nat) (hn : 214 ≤ n) (σ : ml_St) (x0 : Int) (h_x0 : I64 x0) (Q : Int → ml_St → Prop) (hw : f_X11_isPower σ x0 Q) : Met l yX11_isPower (Cond.code yX11_isPower cX11_isPower 2 (some .boolean) :: ml_T) rm_X11_isPower (va_Pc [.long (Int64.ofInt x0)] (ml_U base D cA n σ)) (ml_Qi ml_B base D cA n Q) 0 0 (ml_A base) := by
  refine Met.ofW (cc := cX11_isPower) (maxL := 2) (ret := (some .boolean)) (by decide) rfl ?_
  intro p e s m args below meth c s₁ B hml hv
  obtain ⟨rfl, hP, hK, hok, hro⟩ := hv
  have X : ml_X p s m c meth _ D cA cX11_isPower 2 RX11 (some .boolean) := ⟨B.exec, B.bytes, hml, findClass_of_methodNamed B.named, fun w hw => atoms_spec (ws := Cond.code yX11_isPower cX11_isPower 2 (some .boolean) :: ml_T) B.pre w (List.mem_cons_of_mem _ hw), hK, B.notSynchronized, B.returns⟩
  have hl := lv_entry [.long (Int64.ofInt x0)] (n := 2) (Nat.le_of_ble_eq_true rfl)
  rw [lg_entry_eq]
  generalize (lg_sl [.long (Int64.ofInt x0)] ++ List.replicate (2 - (lg_sl [.long (Int64.ofInt x0)]).length) Slot.unset).toArray = ls at hl ⊢
  have hl : lv_has ls 2 [(0, .long (Int64.ofInt x0))] := hl
  unfold f_X11_isPower at hw
  exact u_X11_isPower_0 X hn σ x0 h_x0 _ (lv_sub hl [0] rfl) hw s.heap [] hP va_S.rf hok hro
theorem dX11_left_0 : decode cX11_left 0 = .ok (.aload_n 0, 1) := by decide +kernel
theorem dX11_left_1 : decode cX11_left 1 = .ok (.iload_n 1, 1) := by decide +kernel
theorem dX11_left_2 : decode cX11_left 2 = .ok (.invokevirtual 121, 3) := by decide +kernel
theorem dX11_left_5 : decode cX11_left 5 = .ok (.ifCond .eq 10, 3) := by decide +kernel
theorem dX11_left_8 : decode cX11_left 8 = .ok (.lload_n 2, 1) := by decide +kernel
theorem dX11_left_9 : decode cX11_left 9 = .ok (.invokestatic 170, 3) := by decide +kernel
theorem dX11_left_12 : decode cX11_left 12 = .ok (.ifCond .ne 7, 3) := by decide +kernel
theorem dX11_left_15 : decode cX11_left 15 = .ok (.ldc2_w 119, 3) := by decide +kernel
theorem dX11_left_18 : decode cX11_left 18 = .ok (.lreturn, 1) := by decide +kernel
theorem dX11_left_19 : decode cX11_left 19 = .ok (.aload_n 0, 1) := by decide +kernel
theorem dX11_left_20 : decode cX11_left 20 = .ok (.getfield 40, 3) := by decide +kernel
theorem dX11_left_23 : decode cX11_left 23 = .ok (.aload_n 0, 1) := by decide +kernel
theorem dX11_left_24 : decode cX11_left 24 = .ok (.getfield 67, 3) := by decide +kernel
theorem dX11_left_27 : decode cX11_left 27 = .ok (.iload_n 1, 1) := by decide +kernel
theorem dX11_left_28 : decode cX11_left 28 = .ok (.aaload, 1) := by decide +kernel
theorem dX11_left_29 : decode cX11_left 29 = .ok (.getfield 112, 3) := by decide +kernel
theorem dX11_left_32 : decode cX11_left 32 = .ok (.aload_n 0, 1) := by decide +kernel
theorem dX11_left_33 : decode cX11_left 33 = .ok (.getfield 19, 3) := by decide +kernel
theorem dX11_left_36 : decode cX11_left 36 = .ok (.aload_n 0, 1) := by decide +kernel
theorem dX11_left_37 : decode cX11_left 37 = .ok (.getfield 82, 3) := by decide +kernel
theorem dX11_left_40 : decode cX11_left 40 = .ok (.invokevirtual 148, 3) := by decide +kernel
theorem dX11_left_43 : decode cX11_left 43 = .ok (.aload_n 0, 1) := by decide +kernel
theorem dX11_left_44 : decode cX11_left 44 = .ok (.getfield 40, 3) := by decide +kernel
theorem dX11_left_47 : decode cX11_left 47 = .ok (.lload_n 2, 1) := by decide +kernel
theorem dX11_left_48 : decode cX11_left 48 = .ok (.invokevirtual 174, 3) := by decide +kernel
theorem dX11_left_51 : decode cX11_left 51 = .ok (.lreturn, 1) := by decide +kernel
def f_X11_left_u15 (Q : Int → ml_St → Prop) (σ : ml_St) : Prop :=
Q (-1) σ
def f_X11_left_u0 (Q : Int → ml_St → Prop) (σ : ml_St) (x1 : Int) (x2 : Int) : Prop :=
f_X11_isMade σ x1 (fun r1 σ1 => ∀ _ : ml_B r1,
(r1 = 0 →
f_X11_left_u15 Q σ1) ∧
(r1 ≠ 0 →
f_X11_isPower σ1 x2 (fun r3 σ3 => ∀ _ : ml_B r3,
(r3 ≠ 0 →
(0 : Int) ≤ x1 ∧ (x1 : Int) < 16 ∧
∀ _ : I32 (σ3 1 11),
False) ∧
(r3 = 0 →
f_X11_left_u15 Q σ3))))
def f_X11_left (σ : ml_St) (x1 : Int) (x2 : Int) (Q : Int → ml_St → Prop) : Prop := f_X11_left_u0 Q σ x1 x2
def rm_X11_left : Room := { frames := 2, cells := 0, slots := 0, locals := 42 }
set_option maxRecDepth 100000 in
set_option maxHeartbeats 4000000 in
theorem u_X11_left_15 {p : Program} {e : Env} {s : State} {m : MethodId} {args : Array Value} {below : List Frame} {meth : Method} {c : Code} {base : Nat} {D : va_G} {cA : Nat → ClassId} {n : Nat} {l : Launch} {Q : Int → ml_St → Prop} (X : ml_X p s m c meth args D cA cX11_left 4 RX11 (some .long)) (hn : 214 ≤ n) (σ : ml_St) (ls : Array Slot) (hl : lv_has ls 4 []) (hw : f_X11_left_u15 Q σ) : ml_V p l e rm_X11_left s m args below meth c (MQ below (ml_Ql base D cA n Q) args s 0 0 (ml_A base)) base D cA 0 0 n n σ (F0 m 15 ls []) := by
  unfold f_X11_left_u15 at hw
  refine ml_ldc2 (pc := 15) (v := (-1)) X dX11_left_15 tc_3_125 ?_
  exact ml_lret (pc := 18) X ⟨by decide, by decide⟩ hw dX11_left_18
set_option maxRecDepth 100000 in
set_option maxHeartbeats 4000000 in
theorem u_X11_left_0 {p : Program} {e : Env} {s : State} {m : MethodId} {args : Array Value} {below : List Frame} {meth : Method} {c : Code} {base : Nat} {D : va_G} {cA : Nat → ClassId} {n : Nat} {l : Launch} {Q : Int → ml_St → Prop} (X : ml_X p s m c meth args D cA cX11_left 4 RX11 (some .long)) (hn : 214 ≤ n) (σ : ml_St) (x1 : Int) (x2 : Int) (h_x1 : I32 x1) (h_x2 : I64 x2) (ls : Array Slot) (hl : lv_has ls 4 [(0, .ref (base + (1 : Int).toNat)), (1, .int (Int32.ofInt x1)), (2, .long (Int64.ofInt x2))]) (hw : f_X11_left_u0 Q σ x1 x2) : ml_V p l e rm_X11_left s m args below meth c (MQ below (ml_Ql base D cA n Q) args s 0 0 (ml_A base)) base D cA 0 0 n n σ (F0 m 0 ls []) := by
  unfold f_X11_left_u0 at hw
  refine ml_aload_n (pc := 0) X hl 0 rfl rfl dX11_left_0 ?_
  refine ml_iload_n (pc := 1) X hl 1 rfl rfl dX11_left_1 ?_
  refine ml_callzV (pc := 2) (rest := []) X [.int (Int32.ofInt x1)] (by decide) rfl (ml_c1 hn) (c_X11_isMade l base D cA n hn σ x1 h_x1 _ hw) cv_X11_121 ⟨rfl, rfl⟩ ⟨by decide, by decide⟩ rfl rfl hl (Nat.le_of_ble_eq_true rfl) ⟨Nat.zero_le _, Nat.zero_le _⟩ dX11_left_2 (fun r1 σ1 t1 hw => ?_)
  have hw := hw t1
  refine ml_if_eq (pc := 5) (tgt := 15) X t1.i dX11_left_5 (by decide) (fun c2 => ?_) (fun c2 => ?_)
  · have hw := hw.1 c2
    exact u_X11_left_15 X hn σ1   _ (lv_sub hl [] rfl) hw
  · have hw := hw.2 c2
    refine ml_lload_n (pc := 8) X hl 2 rfl rfl dX11_left_8 ?_
    refine ml_callzS (pc := 9) (rest := []) X [.long (Int64.ofInt x2)] (c_X11_isPower l base D cA n hn σ1 x2 h_x2 _ hw) cv_X11_170 ⟨rfl, rfl⟩ ⟨by decide, by decide⟩ rfl rfl hl (Nat.le_of_ble_eq_true rfl) ⟨Nat.zero_le _, Nat.zero_le _⟩ dX11_left_9 (fun r3 σ3 t3 hw => ?_)
    have hw := hw t3
    refine ml_if_ne (pc := 12) (tgt := 19) X t3.i dX11_left_12 (by decide) (fun c4 => ?_) (fun c4 => ?_)
    · have hw := hw.1 c4
      refine ml_aload_n (pc := 19) X hl 0 rfl rfl dX11_left_19 ?_
      refine gf_X11_40 (pc := 20) X (ml_c1 hn) dX11_left_20 ?_
      refine ml_aload_n (pc := 23) X hl 0 rfl rfl dX11_left_23 ?_
      refine gf_X11_67 (pc := 24) X (ml_c1 hn) dX11_left_24 ?_
      refine ml_iload_n (pc := 27) X hl 1 rfl rfl dX11_left_27 ?_
      obtain ⟨a5, b5, hw⟩ := hw
      refine ml_aald_words (pc := 28) X hn a5 b5 dX11_left_28 ?_
      refine gf_X11_112 (pc := 29) X (ml_at_words hn a5 b5) dX11_left_29 ?_
      refine ml_aload_n (pc := 32) X hl 0 rfl rfl dX11_left_32 ?_
      refine gf_X11_19 (pc := 33) X (ml_c1 hn) dX11_left_33 ?_
      refine ml_aload_n (pc := 36) X hl 0 rfl rfl dX11_left_36 ?_
      refine gf_X11_82 (pc := 37) X (ml_c1 hn) dX11_left_37 (fun r6 => ?_)
      have hw := hw r6
      exact hw.elim
    · have hw := hw.2 c4
      exact u_X11_left_15 X hn σ3   _ (lv_sub hl [] rfl) hw
set_option maxRecDepth 100000 in
theorem c_X11_left (l : Launch) (base : Nat) (D : va_G) (cA : Nat → ClassId) (n : Nat) (hn : 214 ≤ n) (σ : ml_St) (x1 : Int) (x2 : Int) (h_x1 : I32 x1) (h_x2 : I64 x2) (Q : Int → ml_St → Prop) (hw : f_X11_left σ x1 x2 Q) : Met l yX11_left (Cond.code yX11_left cX11_left 4 (some .long) :: ml_T) rm_X11_left (va_Pc [.ref (base + (1 : Int).toNat), .int (Int32.ofInt x1), .long (Int64.ofInt x2)] (ml_U base D cA n σ)) (ml_Ql base D cA n Q) 0 0 (ml_A base) := by
  refine Met.ofW (cc := cX11_left) (maxL := 4) (ret := (some .long)) (by decide) rfl ?_
  intro p e s m args below meth c s₁ B hml hv
  obtain ⟨rfl, hP, hK, hok, hro⟩ := hv
  have X : ml_X p s m c meth _ D cA cX11_left 4 RX11 (some .long) := ⟨B.exec, B.bytes, hml, findClass_of_methodNamed B.named, fun w hw => atoms_spec (ws := Cond.code yX11_left cX11_left 4 (some .long) :: ml_T) B.pre w (List.mem_cons_of_mem _ hw), hK, B.notSynchronized, B.returns⟩
  have hl := lv_entry [.ref (base + (1 : Int).toNat), .int (Int32.ofInt x1), .long (Int64.ofInt x2)] (n := 4) (Nat.le_of_ble_eq_true rfl)
  rw [lg_entry_eq]
  generalize (lg_sl [.ref (base + (1 : Int).toNat), .int (Int32.ofInt x1), .long (Int64.ofInt x2)] ++ List.replicate (4 - (lg_sl [.ref (base + (1 : Int).toNat), .int (Int32.ofInt x1), .long (Int64.ofInt x2)]).length) Slot.unset).toArray = ls at hl ⊢
  have hl : lv_has ls 4 [(0, .ref (base + (1 : Int).toNat)), (1, .int (Int32.ofInt x1)), (2, .long (Int64.ofInt x2))] := hl
  unfold f_X11_left at hw
  exact u_X11_left_0 X hn σ x1 x2 h_x1 h_x2 _ (lv_sub hl [0, 1, 2] rfl) hw s.heap [] hP va_S.rf hok hro
theorem dX11_isStretch_0 : decode cX11_isStretch 0 = .ok (.lload_n 0, 1) := by decide +kernel
theorem dX11_isStretch_1 : decode cX11_isStretch 1 = .ok (.invokestatic 170, 3) := by decide +kernel
theorem dX11_isStretch_4 : decode cX11_isStretch 4 = .ok (.ifCond .eq 20, 3) := by decide +kernel
theorem dX11_isStretch_7 : decode cX11_isStretch 7 = .ok (.lload_n 2, 1) := by decide +kernel
theorem dX11_isStretch_8 : decode cX11_isStretch 8 = .ok (.invokestatic 170, 3) := by decide +kernel
theorem dX11_isStretch_11 : decode cX11_isStretch 11 = .ok (.ifCond .eq 13, 3) := by decide +kernel
theorem dX11_isStretch_14 : decode cX11_isStretch 14 = .ok (.lload_n 0, 1) := by decide +kernel
theorem dX11_isStretch_15 : decode cX11_isStretch 15 = .ok (.lload_n 2, 1) := by decide +kernel
theorem dX11_isStretch_16 : decode cX11_isStretch 16 = .ok (.lcmp, 1) := by decide +kernel
theorem dX11_isStretch_17 : decode cX11_isStretch 17 = .ok (.ifCond .gt 7, 3) := by decide +kernel
theorem dX11_isStretch_20 : decode cX11_isStretch 20 = .ok (.iconst 1, 1) := by decide +kernel
theorem dX11_isStretch_21 : decode cX11_isStretch 21 = .ok (.goto 4, 3) := by decide +kernel
theorem dX11_isStretch_24 : decode cX11_isStretch 24 = .ok (.iconst 0, 1) := by decide +kernel
theorem dX11_isStretch_25 : decode cX11_isStretch 25 = .ok (.ireturn, 1) := by decide +kernel
def f_X11_isStretch_u25 (Q : Int → ml_St → Prop) (σ : ml_St) (s0 : Int) : Prop :=
Q s0 σ
def f_X11_isStretch_u24 (Q : Int → ml_St → Prop) (σ : ml_St) : Prop :=
f_X11_isStretch_u25 Q σ 0
def f_X11_isStretch_u0 (Q : Int → ml_St → Prop) (σ : ml_St) (x0 : Int) (x2 : Int) : Prop :=
f_X11_isPower σ x0 (fun r1 σ1 => ∀ _ : ml_B r1,
(r1 = 0 →
f_X11_isStretch_u24 Q σ1) ∧
(r1 ≠ 0 →
f_X11_isPower σ1 x2 (fun r3 σ3 => ∀ _ : ml_B r3,
(r3 = 0 →
f_X11_isStretch_u24 Q σ3) ∧
(r3 ≠ 0 →
(x2 < x0 →
f_X11_isStretch_u24 Q σ3) ∧
(¬ (x2 < x0) →
f_X11_isStretch_u25 Q σ3 1)))))
def f_X11_isStretch (σ : ml_St) (x0 : Int) (x2 : Int) (Q : Int → ml_St → Prop) : Prop := f_X11_isStretch_u0 Q σ x0 x2
def rm_X11_isStretch : Room := { frames := 1, cells := 0, slots := 0, locals := 21 }
set_option maxRecDepth 100000 in
set_option maxHeartbeats 4000000 in
theorem u_X11_isStretch_25 {p : Program} {e : Env} {s : State} {m : MethodId} {args : Array Value} {below : List Frame} {meth : Method} {c : Code} {base : Nat} {D : va_G} {cA : Nat → ClassId} {n : Nat} {l : Launch} {Q : Int → ml_St → Prop} (X : ml_X p s m c meth args D cA cX11_isStretch 4 RX11 (some .boolean)) (hn : 214 ≤ n) (σ : ml_St) (s0 : Int) (h_s0 : ml_B s0) (ls : Array Slot) (hl : lv_has ls 4 []) (hw : f_X11_isStretch_u25 Q σ s0) : ml_V p l e rm_X11_isStretch s m args below meth c (MQ below (ml_Qi ml_B base D cA n Q) args s 0 0 (ml_A base)) base D cA 0 0 n n σ (F0 m 25 ls [.int (Int32.ofInt s0)]) := by
  unfold f_X11_isStretch_u25 at hw
  exact ml_zret (pc := 25) X h_s0 hw dX11_isStretch_25
set_option maxRecDepth 100000 in
set_option maxHeartbeats 4000000 in
theorem u_X11_isStretch_24 {p : Program} {e : Env} {s : State} {m : MethodId} {args : Array Value} {below : List Frame} {meth : Method} {c : Code} {base : Nat} {D : va_G} {cA : Nat → ClassId} {n : Nat} {l : Launch} {Q : Int → ml_St → Prop} (X : ml_X p s m c meth args D cA cX11_isStretch 4 RX11 (some .boolean)) (hn : 214 ≤ n) (σ : ml_St) (ls : Array Slot) (hl : lv_has ls 4 []) (hw : f_X11_isStretch_u24 Q σ) : ml_V p l e rm_X11_isStretch s m args below meth c (MQ below (ml_Qi ml_B base D cA n Q) args s 0 0 (ml_A base)) base D cA 0 0 n n σ (F0 m 24 ls []) := by
  unfold f_X11_isStretch_u24 at hw
  refine ml_iconst (pc := 24) X dX11_isStretch_24 ?_
  exact u_X11_isStretch_25 X hn σ 0 ⟨by decide, by decide⟩ _ (lv_sub hl [] rfl) hw
set_option maxRecDepth 100000 in
set_option maxHeartbeats 4000000 in
theorem u_X11_isStretch_0 {p : Program} {e : Env} {s : State} {m : MethodId} {args : Array Value} {below : List Frame} {meth : Method} {c : Code} {base : Nat} {D : va_G} {cA : Nat → ClassId} {n : Nat} {l : Launch} {Q : Int → ml_St → Prop} (X : ml_X p s m c meth args D cA cX11_isStretch 4 RX11 (some .boolean)) (hn : 214 ≤ n) (σ : ml_St) (x0 : Int) (x2 : Int) (h_x0 : I64 x0) (h_x2 : I64 x2) (ls : Array Slot) (hl : lv_has ls 4 [(0, .long (Int64.ofInt x0)), (2, .long (Int64.ofInt x2))]) (hw : f_X11_isStretch_u0 Q σ x0 x2) : ml_V p l e rm_X11_isStretch s m args below meth c (MQ below (ml_Qi ml_B base D cA n Q) args s 0 0 (ml_A base)) base D cA 0 0 n n σ (F0 m 0 ls []) := by
  unfold f_X11_isStretch_u0 at hw
  refine ml_lload_n (pc := 0) X hl 0 rfl rfl dX11_isStretch_0 ?_
  refine ml_callzS (pc := 1) (rest := []) X [.long (Int64.ofInt x0)] (c_X11_isPower l base D cA n hn σ x0 h_x0 _ hw) cv_X11_170 ⟨rfl, rfl⟩ ⟨by decide, by decide⟩ rfl rfl hl (Nat.le_of_ble_eq_true rfl) ⟨Nat.zero_le _, Nat.zero_le _⟩ dX11_isStretch_1 (fun r1 σ1 t1 hw => ?_)
  have hw := hw t1
  refine ml_if_eq (pc := 4) (tgt := 24) X t1.i dX11_isStretch_4 (by decide) (fun c2 => ?_) (fun c2 => ?_)
  · have hw := hw.1 c2
    exact u_X11_isStretch_24 X hn σ1   _ (lv_sub hl [] rfl) hw
  · have hw := hw.2 c2
    refine ml_lload_n (pc := 7) X hl 1 rfl rfl dX11_isStretch_7 ?_
    refine ml_callzS (pc := 8) (rest := []) X [.long (Int64.ofInt x2)] (c_X11_isPower l base D cA n hn σ1 x2 h_x2 _ hw) cv_X11_170 ⟨rfl, rfl⟩ ⟨by decide, by decide⟩ rfl rfl hl (Nat.le_of_ble_eq_true rfl) ⟨Nat.zero_le _, Nat.zero_le _⟩ dX11_isStretch_8 (fun r3 σ3 t3 hw => ?_)
    have hw := hw t3
    refine ml_if_eq (pc := 11) (tgt := 24) X t3.i dX11_isStretch_11 (by decide) (fun c4 => ?_) (fun c4 => ?_)
    · have hw := hw.1 c4
      exact u_X11_isStretch_24 X hn σ3   _ (lv_sub hl [] rfl) hw
    · have hw := hw.2 c4
      refine ml_lload_n (pc := 14) X hl 0 rfl rfl dX11_isStretch_14 ?_
      refine ml_lload_n (pc := 15) X hl 1 rfl rfl dX11_isStretch_15 ?_
      refine ml_lcmp_gt (pc := 16) (tgt := 24) X h_x0 h_x2 dX11_isStretch_16 dX11_isStretch_17 (by decide) (fun c5 => ?_) (fun c5 => ?_)
      · have hw := hw.1 c5
        exact u_X11_isStretch_24 X hn σ3   _ (lv_sub hl [] rfl) hw
      · have hw := hw.2 c5
        refine ml_iconst (pc := 20) X dX11_isStretch_20 ?_
        refine ml_goto (pc := 21) (tgt := 25) X dX11_isStretch_21 (by decide) ?_
        exact u_X11_isStretch_25 X hn σ3 1 ⟨by decide, by decide⟩ _ (lv_sub hl [] rfl) hw
set_option maxRecDepth 100000 in
theorem c_X11_isStretch (l : Launch) (base : Nat) (D : va_G) (cA : Nat → ClassId) (n : Nat) (hn : 214 ≤ n) (σ : ml_St) (x0 : Int) (x2 : Int) (h_x0 : I64 x0) (h_x2 : I64 x2) (Q : Int → ml_St → Prop) (hw : f_X11_isStretch σ x0 x2 Q) : Met l yX11_isStretch (Cond.code yX11_isStretch cX11_isStretch 4 (some .boolean) :: ml_T) rm_X11_isStretch (va_Pc [.long (Int64.ofInt x0), .long (Int64.ofInt x2)] (ml_U base D cA n σ)) (ml_Qi ml_B base D cA n Q) 0 0 (ml_A base) := by
  refine Met.ofW (cc := cX11_isStretch) (maxL := 4) (ret := (some .boolean)) (by decide) rfl ?_
  intro p e s m args below meth c s₁ B hml hv
  obtain ⟨rfl, hP, hK, hok, hro⟩ := hv
  have X : ml_X p s m c meth _ D cA cX11_isStretch 4 RX11 (some .boolean) := ⟨B.exec, B.bytes, hml, findClass_of_methodNamed B.named, fun w hw => atoms_spec (ws := Cond.code yX11_isStretch cX11_isStretch 4 (some .boolean) :: ml_T) B.pre w (List.mem_cons_of_mem _ hw), hK, B.notSynchronized, B.returns⟩
  have hl := lv_entry [.long (Int64.ofInt x0), .long (Int64.ofInt x2)] (n := 4) (Nat.le_of_ble_eq_true rfl)
  rw [lg_entry_eq]
  generalize (lg_sl [.long (Int64.ofInt x0), .long (Int64.ofInt x2)] ++ List.replicate (4 - (lg_sl [.long (Int64.ofInt x0), .long (Int64.ofInt x2)]).length) Slot.unset).toArray = ls at hl ⊢
  have hl : lv_has ls 4 [(0, .long (Int64.ofInt x0)), (2, .long (Int64.ofInt x2))] := hl
  unfold f_X11_isStretch at hw
  exact u_X11_isStretch_0 X hn σ x0 x2 h_x0 h_x2 _ (lv_sub hl [0, 1] rfl) hw s.heap [] hP va_S.rf hok hro
theorem dX11_those_0 : decode cX11_those 0 = .ok (.aload_n 0, 1) := by decide +kernel
theorem dX11_those_1 : decode cX11_those 1 = .ok (.iload_n 1, 1) := by decide +kernel
theorem dX11_those_2 : decode cX11_those 2 = .ok (.invokevirtual 121, 3) := by decide +kernel
theorem dX11_those_5 : decode cX11_those 5 = .ok (.ifCond .eq 27, 3) := by decide +kernel
theorem dX11_those_8 : decode cX11_those 8 = .ok (.lload_n 2, 1) := by decide +kernel
theorem dX11_those_9 : decode cX11_those 9 = .ok (.lconst 0, 1) := by decide +kernel
theorem dX11_those_10 : decode cX11_those 10 = .ok (.lcmp, 1) := by decide +kernel
theorem dX11_those_11 : decode cX11_those 11 = .ok (.ifCond .lt 21, 3) := by decide +kernel
theorem dX11_those_14 : decode cX11_those 14 = .ok (.lload_n 2, 1) := by decide +kernel
theorem dX11_those_15 : decode cX11_those 15 = .ok (.ldc2_w 178, 3) := by decide +kernel
theorem dX11_those_18 : decode cX11_those 18 = .ok (.lcmp, 1) := by decide +kernel
theorem dX11_those_19 : decode cX11_those 19 = .ok (.ifCond .gt 13, 3) := by decide +kernel
theorem dX11_those_22 : decode cX11_those 22 = .ok (.lload 4, 2) := by decide +kernel
theorem dX11_those_24 : decode cX11_those 24 = .ok (.lload 6, 2) := by decide +kernel
theorem dX11_those_26 : decode cX11_those 26 = .ok (.invokestatic 180, 3) := by decide +kernel
theorem dX11_those_29 : decode cX11_those 29 = .ok (.ifCond .ne 7, 3) := by decide +kernel
theorem dX11_those_32 : decode cX11_those 32 = .ok (.ldc2_w 119, 3) := by decide +kernel
theorem dX11_those_35 : decode cX11_those 35 = .ok (.lreturn, 1) := by decide +kernel
theorem dX11_those_36 : decode cX11_those 36 = .ok (.aload_n 0, 1) := by decide +kernel
theorem dX11_those_37 : decode cX11_those 37 = .ok (.getfield 40, 3) := by decide +kernel
theorem dX11_those_40 : decode cX11_those 40 = .ok (.aload_n 0, 1) := by decide +kernel
theorem dX11_those_41 : decode cX11_those 41 = .ok (.getfield 67, 3) := by decide +kernel
theorem dX11_those_44 : decode cX11_those 44 = .ok (.iload_n 1, 1) := by decide +kernel
theorem dX11_those_45 : decode cX11_those 45 = .ok (.aaload, 1) := by decide +kernel
theorem dX11_those_46 : decode cX11_those 46 = .ok (.getfield 112, 3) := by decide +kernel
theorem dX11_those_49 : decode cX11_those 49 = .ok (.aload_n 0, 1) := by decide +kernel
theorem dX11_those_50 : decode cX11_those 50 = .ok (.getfield 19, 3) := by decide +kernel
theorem dX11_those_53 : decode cX11_those 53 = .ok (.aload_n 0, 1) := by decide +kernel
theorem dX11_those_54 : decode cX11_those 54 = .ok (.getfield 82, 3) := by decide +kernel
theorem dX11_those_57 : decode cX11_those 57 = .ok (.invokevirtual 148, 3) := by decide +kernel
theorem dX11_those_60 : decode cX11_those 60 = .ok (.aload_n 0, 1) := by decide +kernel
theorem dX11_those_61 : decode cX11_those 61 = .ok (.getfield 40, 3) := by decide +kernel
theorem dX11_those_64 : decode cX11_those 64 = .ok (.invokevirtual 158, 3) := by decide +kernel
theorem dX11_those_67 : decode cX11_those 67 = .ok (.aload_n 0, 1) := by decide +kernel
theorem dX11_those_68 : decode cX11_those 68 = .ok (.getfield 40, 3) := by decide +kernel
theorem dX11_those_71 : decode cX11_those 71 = .ok (.lload_n 2, 1) := by decide +kernel
theorem dX11_those_72 : decode cX11_those 72 = .ok (.lload 4, 2) := by decide +kernel
theorem dX11_those_74 : decode cX11_those 74 = .ok (.lload 6, 2) := by decide +kernel
theorem dX11_those_76 : decode cX11_those 76 = .ok (.invokevirtual 184, 3) := by decide +kernel
theorem dX11_those_79 : decode cX11_those 79 = .ok (.lreturn, 1) := by decide +kernel
def f_X11_those_u32 (Q : Int → ml_St → Prop) (σ : ml_St) : Prop :=
Q (-1) σ
def f_X11_those_u0 (Q : Int → ml_St → Prop) (σ : ml_St) (x1 : Int) (x2 : Int) (x4 : Int) (x6 : Int) : Prop :=
f_X11_isMade σ x1 (fun r1 σ1 => ∀ _ : ml_B r1,
(r1 = 0 →
f_X11_those_u32 Q σ1) ∧
(r1 ≠ 0 →
(x2 < 0 →
f_X11_those_u32 Q σ1) ∧
(¬ (x2 < 0) →
(1000000000000000000 < x2 →
f_X11_those_u32 Q σ1) ∧
(¬ (1000000000000000000 < x2) →
f_X11_isStretch σ1 x4 x6 (fun r5 σ5 => ∀ _ : ml_B r5,
(r5 ≠ 0 →
(0 : Int) ≤ x1 ∧ (x1 : Int) < 16 ∧
∀ _ : I32 (σ5 1 11),
False) ∧
(r5 = 0 →
f_X11_those_u32 Q σ5))))))
def f_X11_those (σ : ml_St) (x1 : Int) (x2 : Int) (x4 : Int) (x6 : Int) (Q : Int → ml_St → Prop) : Prop := f_X11_those_u0 Q σ x1 x2 x4 x6
def rm_X11_those : Room := { frames := 2, cells := 0, slots := 0, locals := 44 }
set_option maxRecDepth 100000 in
set_option maxHeartbeats 4000000 in
theorem u_X11_those_32 {p : Program} {e : Env} {s : State} {m : MethodId} {args : Array Value} {below : List Frame} {meth : Method} {c : Code} {base : Nat} {D : va_G} {cA : Nat → ClassId} {n : Nat} {l : Launch} {Q : Int → ml_St → Prop} (X : ml_X p s m c meth args D cA cX11_those 8 RX11 (some .long)) (hn : 214 ≤ n) (σ : ml_St) (ls : Array Slot) (hl : lv_has ls 8 []) (hw : f_X11_those_u32 Q σ) : ml_V p l e rm_X11_those s m args below meth c (MQ below (ml_Ql base D cA n Q) args s 0 0 (ml_A base)) base D cA 0 0 n n σ (F0 m 32 ls []) := by
  unfold f_X11_those_u32 at hw
  refine ml_ldc2 (pc := 32) (v := (-1)) X dX11_those_32 tc_3_125 ?_
  exact ml_lret (pc := 35) X ⟨by decide, by decide⟩ hw dX11_those_35
set_option maxRecDepth 100000 in
set_option maxHeartbeats 4000000 in
theorem u_X11_those_0 {p : Program} {e : Env} {s : State} {m : MethodId} {args : Array Value} {below : List Frame} {meth : Method} {c : Code} {base : Nat} {D : va_G} {cA : Nat → ClassId} {n : Nat} {l : Launch} {Q : Int → ml_St → Prop} (X : ml_X p s m c meth args D cA cX11_those 8 RX11 (some .long)) (hn : 214 ≤ n) (σ : ml_St) (x1 : Int) (x2 : Int) (x4 : Int) (x6 : Int) (h_x1 : I32 x1) (h_x2 : I64 x2) (h_x4 : I64 x4) (h_x6 : I64 x6) (ls : Array Slot) (hl : lv_has ls 8 [(0, .ref (base + (1 : Int).toNat)), (1, .int (Int32.ofInt x1)), (2, .long (Int64.ofInt x2)), (4, .long (Int64.ofInt x4)), (6, .long (Int64.ofInt x6))]) (hw : f_X11_those_u0 Q σ x1 x2 x4 x6) : ml_V p l e rm_X11_those s m args below meth c (MQ below (ml_Ql base D cA n Q) args s 0 0 (ml_A base)) base D cA 0 0 n n σ (F0 m 0 ls []) := by
  unfold f_X11_those_u0 at hw
  refine ml_aload_n (pc := 0) X hl 0 rfl rfl dX11_those_0 ?_
  refine ml_iload_n (pc := 1) X hl 1 rfl rfl dX11_those_1 ?_
  refine ml_callzV (pc := 2) (rest := []) X [.int (Int32.ofInt x1)] (by decide) rfl (ml_c1 hn) (c_X11_isMade l base D cA n hn σ x1 h_x1 _ hw) cv_X11_121 ⟨rfl, rfl⟩ ⟨by decide, by decide⟩ rfl rfl hl (Nat.le_of_ble_eq_true rfl) ⟨Nat.zero_le _, Nat.zero_le _⟩ dX11_those_2 (fun r1 σ1 t1 hw => ?_)
  have hw := hw t1
  refine ml_if_eq (pc := 5) (tgt := 32) X t1.i dX11_those_5 (by decide) (fun c2 => ?_) (fun c2 => ?_)
  · have hw := hw.1 c2
    exact u_X11_those_32 X hn σ1   _ (lv_sub hl [] rfl) hw
  · have hw := hw.2 c2
    refine ml_lload_n (pc := 8) X hl 2 rfl rfl dX11_those_8 ?_
    refine ml_lconst0 (pc := 9) X dX11_those_9 ?_
    refine ml_lcmp_lt (pc := 10) (tgt := 32) X h_x2 ⟨by decide, by decide⟩ dX11_those_10 dX11_those_11 (by decide) (fun c3 => ?_) (fun c3 => ?_)
    · have hw := hw.1 c3
      exact u_X11_those_32 X hn σ1   _ (lv_sub hl [] rfl) hw
    · have hw := hw.2 c3
      refine ml_lload_n (pc := 14) X hl 2 rfl rfl dX11_those_14 ?_
      refine ml_ldc2 (pc := 15) (v := 1000000000000000000) X dX11_those_15 tc_3_203 ?_
      refine ml_lcmp_gt (pc := 18) (tgt := 32) X h_x2 ⟨by decide, by decide⟩ dX11_those_18 dX11_those_19 (by decide) (fun c4 => ?_) (fun c4 => ?_)
      · have hw := hw.1 c4
        exact u_X11_those_32 X hn σ1   _ (lv_sub hl [] rfl) hw
      · have hw := hw.2 c4
        refine ml_lload (pc := 22) X hl 3 rfl dX11_those_22 ?_
        refine ml_lload (pc := 24) X hl 4 rfl dX11_those_24 ?_
        refine ml_callzS (pc := 26) (rest := []) X [.long (Int64.ofInt x4), .long (Int64.ofInt x6)] (c_X11_isStretch l base D cA n hn σ1 x4 x6 h_x4 h_x6 _ hw) cv_X11_180 ⟨rfl, rfl⟩ ⟨by decide, by decide⟩ rfl rfl hl (Nat.le_of_ble_eq_true rfl) ⟨Nat.zero_le _, Nat.zero_le _⟩ dX11_those_26 (fun r5 σ5 t5 hw => ?_)
        have hw := hw t5
        refine ml_if_ne (pc := 29) (tgt := 36) X t5.i dX11_those_29 (by decide) (fun c6 => ?_) (fun c6 => ?_)
        · have hw := hw.1 c6
          refine ml_aload_n (pc := 36) X hl 0 rfl rfl dX11_those_36 ?_
          refine gf_X11_40 (pc := 37) X (ml_c1 hn) dX11_those_37 ?_
          refine ml_aload_n (pc := 40) X hl 0 rfl rfl dX11_those_40 ?_
          refine gf_X11_67 (pc := 41) X (ml_c1 hn) dX11_those_41 ?_
          refine ml_iload_n (pc := 44) X hl 1 rfl rfl dX11_those_44 ?_
          obtain ⟨a7, b7, hw⟩ := hw
          refine ml_aald_words (pc := 45) X hn a7 b7 dX11_those_45 ?_
          refine gf_X11_112 (pc := 46) X (ml_at_words hn a7 b7) dX11_those_46 ?_
          refine ml_aload_n (pc := 49) X hl 0 rfl rfl dX11_those_49 ?_
          refine gf_X11_19 (pc := 50) X (ml_c1 hn) dX11_those_50 ?_
          refine ml_aload_n (pc := 53) X hl 0 rfl rfl dX11_those_53 ?_
          refine gf_X11_82 (pc := 54) X (ml_c1 hn) dX11_those_54 (fun r8 => ?_)
          have hw := hw r8
          exact hw.elim
        · have hw := hw.2 c6
          exact u_X11_those_32 X hn σ5   _ (lv_sub hl [] rfl) hw
set_option maxRecDepth 100000 in
theorem c_X11_those (l : Launch) (base : Nat) (D : va_G) (cA : Nat → ClassId) (n : Nat) (hn : 214 ≤ n) (σ : ml_St) (x1 : Int) (x2 : Int) (x4 : Int) (x6 : Int) (h_x1 : I32 x1) (h_x2 : I64 x2) (h_x4 : I64 x4) (h_x6 : I64 x6) (Q : Int → ml_St → Prop) (hw : f_X11_those σ x1 x2 x4 x6 Q) : Met l yX11_those (Cond.code yX11_those cX11_those 8 (some .long) :: ml_T) rm_X11_those (va_Pc [.ref (base + (1 : Int).toNat), .int (Int32.ofInt x1), .long (Int64.ofInt x2), .long (Int64.ofInt x4), .long (Int64.ofInt x6)] (ml_U base D cA n σ)) (ml_Ql base D cA n Q) 0 0 (ml_A base) := by
  refine Met.ofW (cc := cX11_those) (maxL := 8) (ret := (some .long)) (by decide) rfl ?_
  intro p e s m args below meth c s₁ B hml hv
  obtain ⟨rfl, hP, hK, hok, hro⟩ := hv
  have X : ml_X p s m c meth _ D cA cX11_those 8 RX11 (some .long) := ⟨B.exec, B.bytes, hml, findClass_of_methodNamed B.named, fun w hw => atoms_spec (ws := Cond.code yX11_those cX11_those 8 (some .long) :: ml_T) B.pre w (List.mem_cons_of_mem _ hw), hK, B.notSynchronized, B.returns⟩
  have hl := lv_entry [.ref (base + (1 : Int).toNat), .int (Int32.ofInt x1), .long (Int64.ofInt x2), .long (Int64.ofInt x4), .long (Int64.ofInt x6)] (n := 8) (Nat.le_of_ble_eq_true rfl)
  rw [lg_entry_eq]
  generalize (lg_sl [.ref (base + (1 : Int).toNat), .int (Int32.ofInt x1), .long (Int64.ofInt x2), .long (Int64.ofInt x4), .long (Int64.ofInt x6)] ++ List.replicate (8 - (lg_sl [.ref (base + (1 : Int).toNat), .int (Int32.ofInt x1), .long (Int64.ofInt x2), .long (Int64.ofInt x4), .long (Int64.ofInt x6)]).length) Slot.unset).toArray = ls at hl ⊢
  have hl : lv_has ls 8 [(0, .ref (base + (1 : Int).toNat)), (1, .int (Int32.ofInt x1)), (2, .long (Int64.ofInt x2)), (4, .long (Int64.ofInt x4)), (6, .long (Int64.ofInt x6))] := hl
  unfold f_X11_those at hw
  exact u_X11_those_0 X hn σ x1 x2 x4 x6 h_x1 h_x2 h_x4 h_x6 _ (lv_sub hl [0, 1, 2, 3, 4] rfl) hw s.heap [] hP va_S.rf hok hro
theorem dX11_first_0 : decode cX11_first 0 = .ok (.aload_n 0, 1) := by decide +kernel
theorem dX11_first_1 : decode cX11_first 1 = .ok (.iload_n 1, 1) := by decide +kernel
theorem dX11_first_2 : decode cX11_first 2 = .ok (.invokevirtual 121, 3) := by decide +kernel
theorem dX11_first_5 : decode cX11_first 5 = .ok (.ifCond .eq 17, 3) := by decide +kernel
theorem dX11_first_8 : decode cX11_first 8 = .ok (.lload_n 2, 1) := by decide +kernel
theorem dX11_first_9 : decode cX11_first 9 = .ok (.lconst 0, 1) := by decide +kernel
theorem dX11_first_10 : decode cX11_first 10 = .ok (.lcmp, 1) := by decide +kernel
theorem dX11_first_11 : decode cX11_first 11 = .ok (.ifCond .lt 11, 3) := by decide +kernel
theorem dX11_first_14 : decode cX11_first 14 = .ok (.lload_n 2, 1) := by decide +kernel
theorem dX11_first_15 : decode cX11_first 15 = .ok (.ldc2_w 178, 3) := by decide +kernel
theorem dX11_first_18 : decode cX11_first 18 = .ok (.lcmp, 1) := by decide +kernel
theorem dX11_first_19 : decode cX11_first 19 = .ok (.ifCond .le 7, 3) := by decide +kernel
theorem dX11_first_22 : decode cX11_first 22 = .ok (.ldc2_w 119, 3) := by decide +kernel
theorem dX11_first_25 : decode cX11_first 25 = .ok (.lreturn, 1) := by decide +kernel
theorem dX11_first_26 : decode cX11_first 26 = .ok (.aload_n 0, 1) := by decide +kernel
theorem dX11_first_27 : decode cX11_first 27 = .ok (.getfield 40, 3) := by decide +kernel
theorem dX11_first_30 : decode cX11_first 30 = .ok (.aload_n 0, 1) := by decide +kernel
theorem dX11_first_31 : decode cX11_first 31 = .ok (.getfield 67, 3) := by decide +kernel
theorem dX11_first_34 : decode cX11_first 34 = .ok (.iload_n 1, 1) := by decide +kernel
theorem dX11_first_35 : decode cX11_first 35 = .ok (.aaload, 1) := by decide +kernel
theorem dX11_first_36 : decode cX11_first 36 = .ok (.getfield 112, 3) := by decide +kernel
theorem dX11_first_39 : decode cX11_first 39 = .ok (.aload_n 0, 1) := by decide +kernel
theorem dX11_first_40 : decode cX11_first 40 = .ok (.getfield 19, 3) := by decide +kernel
theorem dX11_first_43 : decode cX11_first 43 = .ok (.aload_n 0, 1) := by decide +kernel
theorem dX11_first_44 : decode cX11_first 44 = .ok (.getfield 82, 3) := by decide +kernel
theorem dX11_first_47 : decode cX11_first 47 = .ok (.invokevirtual 148, 3) := by decide +kernel
theorem dX11_first_50 : decode cX11_first 50 = .ok (.aload_n 0, 1) := by decide +kernel
theorem dX11_first_51 : decode cX11_first 51 = .ok (.getfield 40, 3) := by decide +kernel
theorem dX11_first_54 : decode cX11_first 54 = .ok (.invokevirtual 158, 3) := by decide +kernel
theorem dX11_first_57 : decode cX11_first 57 = .ok (.aload_n 0, 1) := by decide +kernel
theorem dX11_first_58 : decode cX11_first 58 = .ok (.getfield 40, 3) := by decide +kernel
theorem dX11_first_61 : decode cX11_first 61 = .ok (.lload_n 2, 1) := by decide +kernel
theorem dX11_first_62 : decode cX11_first 62 = .ok (.invokevirtual 188, 3) := by decide +kernel
theorem dX11_first_65 : decode cX11_first 65 = .ok (.lreturn, 1) := by decide +kernel
def f_X11_first_u22 (Q : Int → ml_St → Prop) (σ : ml_St) : Prop :=
Q (-1) σ
def f_X11_first_u0 (Q : Int → ml_St → Prop) (σ : ml_St) (x1 : Int) (x2 : Int) : Prop :=
f_X11_isMade σ x1 (fun r1 σ1 => ∀ _ : ml_B r1,
(r1 = 0 →
f_X11_first_u22 Q σ1) ∧
(r1 ≠ 0 →
(x2 < 0 →
f_X11_first_u22 Q σ1) ∧
(¬ (x2 < 0) →
(x2 ≤ 1000000000000000000 →
(0 : Int) ≤ x1 ∧ (x1 : Int) < 16 ∧
∀ _ : I32 (σ1 1 11),
False) ∧
(¬ (x2 ≤ 1000000000000000000) →
f_X11_first_u22 Q σ1))))
def f_X11_first (σ : ml_St) (x1 : Int) (x2 : Int) (Q : Int → ml_St → Prop) : Prop := f_X11_first_u0 Q σ x1 x2
def rm_X11_first : Room := { frames := 2, cells := 0, slots := 0, locals := 42 }
set_option maxRecDepth 100000 in
set_option maxHeartbeats 4000000 in
theorem u_X11_first_22 {p : Program} {e : Env} {s : State} {m : MethodId} {args : Array Value} {below : List Frame} {meth : Method} {c : Code} {base : Nat} {D : va_G} {cA : Nat → ClassId} {n : Nat} {l : Launch} {Q : Int → ml_St → Prop} (X : ml_X p s m c meth args D cA cX11_first 4 RX11 (some .long)) (hn : 214 ≤ n) (σ : ml_St) (ls : Array Slot) (hl : lv_has ls 4 []) (hw : f_X11_first_u22 Q σ) : ml_V p l e rm_X11_first s m args below meth c (MQ below (ml_Ql base D cA n Q) args s 0 0 (ml_A base)) base D cA 0 0 n n σ (F0 m 22 ls []) := by
  unfold f_X11_first_u22 at hw
  refine ml_ldc2 (pc := 22) (v := (-1)) X dX11_first_22 tc_3_125 ?_
  exact ml_lret (pc := 25) X ⟨by decide, by decide⟩ hw dX11_first_25
set_option maxRecDepth 100000 in
set_option maxHeartbeats 4000000 in
theorem u_X11_first_0 {p : Program} {e : Env} {s : State} {m : MethodId} {args : Array Value} {below : List Frame} {meth : Method} {c : Code} {base : Nat} {D : va_G} {cA : Nat → ClassId} {n : Nat} {l : Launch} {Q : Int → ml_St → Prop} (X : ml_X p s m c meth args D cA cX11_first 4 RX11 (some .long)) (hn : 214 ≤ n) (σ : ml_St) (x1 : Int) (x2 : Int) (h_x1 : I32 x1) (h_x2 : I64 x2) (ls : Array Slot) (hl : lv_has ls 4 [(0, .ref (base + (1 : Int).toNat)), (1, .int (Int32.ofInt x1)), (2, .long (Int64.ofInt x2))]) (hw : f_X11_first_u0 Q σ x1 x2) : ml_V p l e rm_X11_first s m args below meth c (MQ below (ml_Ql base D cA n Q) args s 0 0 (ml_A base)) base D cA 0 0 n n σ (F0 m 0 ls []) := by
  unfold f_X11_first_u0 at hw
  refine ml_aload_n (pc := 0) X hl 0 rfl rfl dX11_first_0 ?_
  refine ml_iload_n (pc := 1) X hl 1 rfl rfl dX11_first_1 ?_
  refine ml_callzV (pc := 2) (rest := []) X [.int (Int32.ofInt x1)] (by decide) rfl (ml_c1 hn) (c_X11_isMade l base D cA n hn σ x1 h_x1 _ hw) cv_X11_121 ⟨rfl, rfl⟩ ⟨by decide, by decide⟩ rfl rfl hl (Nat.le_of_ble_eq_true rfl) ⟨Nat.zero_le _, Nat.zero_le _⟩ dX11_first_2 (fun r1 σ1 t1 hw => ?_)
  have hw := hw t1
  refine ml_if_eq (pc := 5) (tgt := 22) X t1.i dX11_first_5 (by decide) (fun c2 => ?_) (fun c2 => ?_)
  · have hw := hw.1 c2
    exact u_X11_first_22 X hn σ1   _ (lv_sub hl [] rfl) hw
  · have hw := hw.2 c2
    refine ml_lload_n (pc := 8) X hl 2 rfl rfl dX11_first_8 ?_
    refine ml_lconst0 (pc := 9) X dX11_first_9 ?_
    refine ml_lcmp_lt (pc := 10) (tgt := 22) X h_x2 ⟨by decide, by decide⟩ dX11_first_10 dX11_first_11 (by decide) (fun c3 => ?_) (fun c3 => ?_)
    · have hw := hw.1 c3
      exact u_X11_first_22 X hn σ1   _ (lv_sub hl [] rfl) hw
    · have hw := hw.2 c3
      refine ml_lload_n (pc := 14) X hl 2 rfl rfl dX11_first_14 ?_
      refine ml_ldc2 (pc := 15) (v := 1000000000000000000) X dX11_first_15 tc_3_203 ?_
      refine ml_lcmp_le (pc := 18) (tgt := 26) X h_x2 ⟨by decide, by decide⟩ dX11_first_18 dX11_first_19 (by decide) (fun c4 => ?_) (fun c4 => ?_)
      · have hw := hw.1 c4
        refine ml_aload_n (pc := 26) X hl 0 rfl rfl dX11_first_26 ?_
        refine gf_X11_40 (pc := 27) X (ml_c1 hn) dX11_first_27 ?_
        refine ml_aload_n (pc := 30) X hl 0 rfl rfl dX11_first_30 ?_
        refine gf_X11_67 (pc := 31) X (ml_c1 hn) dX11_first_31 ?_
        refine ml_iload_n (pc := 34) X hl 1 rfl rfl dX11_first_34 ?_
        obtain ⟨a5, b5, hw⟩ := hw
        refine ml_aald_words (pc := 35) X hn a5 b5 dX11_first_35 ?_
        refine gf_X11_112 (pc := 36) X (ml_at_words hn a5 b5) dX11_first_36 ?_
        refine ml_aload_n (pc := 39) X hl 0 rfl rfl dX11_first_39 ?_
        refine gf_X11_19 (pc := 40) X (ml_c1 hn) dX11_first_40 ?_
        refine ml_aload_n (pc := 43) X hl 0 rfl rfl dX11_first_43 ?_
        refine gf_X11_82 (pc := 44) X (ml_c1 hn) dX11_first_44 (fun r6 => ?_)
        have hw := hw r6
        exact hw.elim
      · have hw := hw.2 c4
        exact u_X11_first_22 X hn σ1   _ (lv_sub hl [] rfl) hw
set_option maxRecDepth 100000 in
theorem c_X11_first (l : Launch) (base : Nat) (D : va_G) (cA : Nat → ClassId) (n : Nat) (hn : 214 ≤ n) (σ : ml_St) (x1 : Int) (x2 : Int) (h_x1 : I32 x1) (h_x2 : I64 x2) (Q : Int → ml_St → Prop) (hw : f_X11_first σ x1 x2 Q) : Met l yX11_first (Cond.code yX11_first cX11_first 4 (some .long) :: ml_T) rm_X11_first (va_Pc [.ref (base + (1 : Int).toNat), .int (Int32.ofInt x1), .long (Int64.ofInt x2)] (ml_U base D cA n σ)) (ml_Ql base D cA n Q) 0 0 (ml_A base) := by
  refine Met.ofW (cc := cX11_first) (maxL := 4) (ret := (some .long)) (by decide) rfl ?_
  intro p e s m args below meth c s₁ B hml hv
  obtain ⟨rfl, hP, hK, hok, hro⟩ := hv
  have X : ml_X p s m c meth _ D cA cX11_first 4 RX11 (some .long) := ⟨B.exec, B.bytes, hml, findClass_of_methodNamed B.named, fun w hw => atoms_spec (ws := Cond.code yX11_first cX11_first 4 (some .long) :: ml_T) B.pre w (List.mem_cons_of_mem _ hw), hK, B.notSynchronized, B.returns⟩
  have hl := lv_entry [.ref (base + (1 : Int).toNat), .int (Int32.ofInt x1), .long (Int64.ofInt x2)] (n := 4) (Nat.le_of_ble_eq_true rfl)
  rw [lg_entry_eq]
  generalize (lg_sl [.ref (base + (1 : Int).toNat), .int (Int32.ofInt x1), .long (Int64.ofInt x2)] ++ List.replicate (4 - (lg_sl [.ref (base + (1 : Int).toNat), .int (Int32.ofInt x1), .long (Int64.ofInt x2)]).length) Slot.unset).toArray = ls at hl ⊢
  have hl : lv_has ls 4 [(0, .ref (base + (1 : Int).toNat)), (1, .int (Int32.ofInt x1)), (2, .long (Int64.ofInt x2))] := hl
  unfold f_X11_first at hw
  exact u_X11_first_0 X hn σ x1 x2 h_x1 h_x2 _ (lv_sub hl [0, 1, 2] rfl) hw s.heap [] hP va_S.rf hok hro
theorem dX11_both_0 : decode cX11_both 0 = .ok (.aload_n 0, 1) := by decide +kernel
theorem dX11_both_1 : decode cX11_both 1 = .ok (.iload_n 1, 1) := by decide +kernel
theorem dX11_both_2 : decode cX11_both 2 = .ok (.invokevirtual 121, 3) := by decide +kernel
theorem dX11_both_5 : decode cX11_both 5 = .ok (.ifCond .eq 11, 3) := by decide +kernel
theorem dX11_both_8 : decode cX11_both 8 = .ok (.aload_n 0, 1) := by decide +kernel
theorem dX11_both_9 : decode cX11_both 9 = .ok (.iload_n 2, 1) := by decide +kernel
theorem dX11_both_10 : decode cX11_both 10 = .ok (.invokevirtual 121, 3) := by decide +kernel
theorem dX11_both_13 : decode cX11_both 13 = .ok (.ifCond .ne 5, 3) := by decide +kernel
theorem dX11_both_16 : decode cX11_both 16 = .ok (.iconst (-1), 1) := by decide +kernel
theorem dX11_both_17 : decode cX11_both 17 = .ok (.ireturn, 1) := by decide +kernel
theorem dX11_both_18 : decode cX11_both 18 = .ok (.aload_n 0, 1) := by decide +kernel
theorem dX11_both_19 : decode cX11_both 19 = .ok (.getfield 67, 3) := by decide +kernel
theorem dX11_both_22 : decode cX11_both 22 = .ok (.iload_n 1, 1) := by decide +kernel
theorem dX11_both_23 : decode cX11_both 23 = .ok (.aaload, 1) := by decide +kernel
theorem dX11_both_24 : decode cX11_both 24 = .ok (.getfield 112, 3) := by decide +kernel
theorem dX11_both_27 : decode cX11_both 27 = .ok (.astore 4, 2) := by decide +kernel
theorem dX11_both_29 : decode cX11_both 29 = .ok (.aload_n 0, 1) := by decide +kernel
theorem dX11_both_30 : decode cX11_both 30 = .ok (.getfield 67, 3) := by decide +kernel
theorem dX11_both_33 : decode cX11_both 33 = .ok (.iload_n 2, 1) := by decide +kernel
theorem dX11_both_34 : decode cX11_both 34 = .ok (.aaload, 1) := by decide +kernel
theorem dX11_both_35 : decode cX11_both 35 = .ok (.getfield 112, 3) := by decide +kernel
theorem dX11_both_38 : decode cX11_both 38 = .ok (.astore 5, 2) := by decide +kernel
theorem dX11_both_40 : decode cX11_both 40 = .ok (.iload_n 3, 1) := by decide +kernel
theorem dX11_both_41 : decode cX11_both 41 = .ok (.tableswitch 123 0 3 #[31, 51, 75, 99], 31) := by decide +kernel
theorem dX11_both_72 : decode cX11_both 72 = .ok (.aload 4, 2) := by decide +kernel
theorem dX11_both_74 : decode cX11_both 74 = .ok (.aload 5, 2) := by decide +kernel
theorem dX11_both_76 : decode cX11_both 76 = .ok (.aload_n 0, 1) := by decide +kernel
theorem dX11_both_77 : decode cX11_both 77 = .ok (.getfield 82, 3) := by decide +kernel
theorem dX11_both_80 : decode cX11_both 80 = .ok (.invokevirtual 191, 3) := by decide +kernel
theorem dX11_both_83 : decode cX11_both 83 = .ok (.ifCond .eq 7, 3) := by decide +kernel
theorem dX11_both_86 : decode cX11_both 86 = .ok (.iconst 1, 1) := by decide +kernel
theorem dX11_both_87 : decode cX11_both 87 = .ok (.goto 4, 3) := by decide +kernel
theorem dX11_both_90 : decode cX11_both 90 = .ok (.iconst 0, 1) := by decide +kernel
theorem dX11_both_91 : decode cX11_both 91 = .ok (.ireturn, 1) := by decide +kernel
theorem dX11_both_92 : decode cX11_both 92 = .ok (.aload_n 0, 1) := by decide +kernel
theorem dX11_both_93 : decode cX11_both 93 = .ok (.getfield 33, 3) := by decide +kernel
theorem dX11_both_96 : decode cX11_both 96 = .ok (.aload 4, 2) := by decide +kernel
theorem dX11_both_98 : decode cX11_both 98 = .ok (.aload 5, 2) := by decide +kernel
theorem dX11_both_100 : decode cX11_both 100 = .ok (.aload_n 0, 1) := by decide +kernel
theorem dX11_both_101 : decode cX11_both 101 = .ok (.getfield 82, 3) := by decide +kernel
theorem dX11_both_104 : decode cX11_both 104 = .ok (.invokevirtual 195, 3) := by decide +kernel
theorem dX11_both_107 : decode cX11_both 107 = .ok (.ifCond .eq 7, 3) := by decide +kernel
theorem dX11_both_110 : decode cX11_both 110 = .ok (.iconst 1, 1) := by decide +kernel
theorem dX11_both_111 : decode cX11_both 111 = .ok (.goto 4, 3) := by decide +kernel
theorem dX11_both_114 : decode cX11_both 114 = .ok (.iconst 0, 1) := by decide +kernel
theorem dX11_both_115 : decode cX11_both 115 = .ok (.ireturn, 1) := by decide +kernel
theorem dX11_both_116 : decode cX11_both 116 = .ok (.aload_n 0, 1) := by decide +kernel
theorem dX11_both_117 : decode cX11_both 117 = .ok (.getfield 33, 3) := by decide +kernel
theorem dX11_both_120 : decode cX11_both 120 = .ok (.aload 4, 2) := by decide +kernel
theorem dX11_both_122 : decode cX11_both 122 = .ok (.aload 5, 2) := by decide +kernel
theorem dX11_both_124 : decode cX11_both 124 = .ok (.aload_n 0, 1) := by decide +kernel
theorem dX11_both_125 : decode cX11_both 125 = .ok (.getfield 82, 3) := by decide +kernel
theorem dX11_both_128 : decode cX11_both 128 = .ok (.invokevirtual 199, 3) := by decide +kernel
theorem dX11_both_131 : decode cX11_both 131 = .ok (.ifCond .eq 7, 3) := by decide +kernel
theorem dX11_both_134 : decode cX11_both 134 = .ok (.iconst 1, 1) := by decide +kernel
theorem dX11_both_135 : decode cX11_both 135 = .ok (.goto 4, 3) := by decide +kernel
theorem dX11_both_138 : decode cX11_both 138 = .ok (.iconst 0, 1) := by decide +kernel
theorem dX11_both_139 : decode cX11_both 139 = .ok (.ireturn, 1) := by decide +kernel
theorem dX11_both_140 : decode cX11_both 140 = .ok (.aload_n 0, 1) := by decide +kernel
theorem dX11_both_141 : decode cX11_both 141 = .ok (.getfield 33, 3) := by decide +kernel
theorem dX11_both_144 : decode cX11_both 144 = .ok (.aload 4, 2) := by decide +kernel
theorem dX11_both_146 : decode cX11_both 146 = .ok (.aload 5, 2) := by decide +kernel
theorem dX11_both_148 : decode cX11_both 148 = .ok (.aload_n 0, 1) := by decide +kernel
theorem dX11_both_149 : decode cX11_both 149 = .ok (.getfield 82, 3) := by decide +kernel
theorem dX11_both_152 : decode cX11_both 152 = .ok (.invokevirtual 202, 3) := by decide +kernel
theorem dX11_both_155 : decode cX11_both 155 = .ok (.ifCond .eq 7, 3) := by decide +kernel
theorem dX11_both_158 : decode cX11_both 158 = .ok (.iconst 1, 1) := by decide +kernel
theorem dX11_both_159 : decode cX11_both 159 = .ok (.goto 4, 3) := by decide +kernel
theorem dX11_both_162 : decode cX11_both 162 = .ok (.iconst 0, 1) := by decide +kernel
theorem dX11_both_163 : decode cX11_both 163 = .ok (.ireturn, 1) := by decide +kernel
theorem dX11_both_164 : decode cX11_both 164 = .ok (.iconst (-1), 1) := by decide +kernel
theorem dX11_both_165 : decode cX11_both 165 = .ok (.ireturn, 1) := by decide +kernel
def f_X11_both_u16 (Q : Int → ml_St → Prop) (σ : ml_St) : Prop :=
Q (-1) σ
def f_X11_both_u91 (Q : Int → ml_St → Prop) (σ : ml_St) (s0 : Int) : Prop :=
Q s0 σ
def f_X11_both_u115 (Q : Int → ml_St → Prop) (σ : ml_St) (s0 : Int) : Prop :=
Q s0 σ
def f_X11_both_u139 (Q : Int → ml_St → Prop) (σ : ml_St) (s0 : Int) : Prop :=
Q s0 σ
def f_X11_both_u163 (Q : Int → ml_St → Prop) (σ : ml_St) (s0 : Int) : Prop :=
Q s0 σ
def f_X11_both_u0 (Q : Int → ml_St → Prop) (σ : ml_St) (x1 : Int) (x2 : Int) (x3 : Int) : Prop :=
f_X11_isMade σ x1 (fun r1 σ1 => ∀ _ : ml_B r1,
(r1 = 0 →
f_X11_both_u16 Q σ1) ∧
(r1 ≠ 0 →
f_X11_isMade σ1 x2 (fun r3 σ3 => ∀ _ : ml_B r3,
(r3 ≠ 0 →
(0 : Int) ≤ x1 ∧ (x1 : Int) < 16 ∧
(0 : Int) ≤ x2 ∧ (x2 : Int) < 16 ∧
(x3 = 0 →
∀ _ : I32 (σ3 1 11),
False) ∧
(x3 = 1 →
∀ _ : I32 (σ3 1 11),
False) ∧
(x3 = 2 →
∀ _ : I32 (σ3 1 11),
False) ∧
(x3 = 3 →
∀ _ : I32 (σ3 1 11),
False) ∧
(x3 < 0 ∨ 3 < x3 →
Q (-1) σ3)) ∧
(r3 = 0 →
f_X11_both_u16 Q σ3))))
def f_X11_both (σ : ml_St) (x1 : Int) (x2 : Int) (x3 : Int) (Q : Int → ml_St → Prop) : Prop := f_X11_both_u0 Q σ x1 x2 x3
def rm_X11_both : Room := { frames := 2, cells := 0, slots := 0, locals := 42 }
set_option maxRecDepth 100000 in
set_option maxHeartbeats 4000000 in
theorem u_X11_both_16 {p : Program} {e : Env} {s : State} {m : MethodId} {args : Array Value} {below : List Frame} {meth : Method} {c : Code} {base : Nat} {D : va_G} {cA : Nat → ClassId} {n : Nat} {l : Launch} {Q : Int → ml_St → Prop} (X : ml_X p s m c meth args D cA cX11_both 6 RX11 (some .int)) (hn : 214 ≤ n) (σ : ml_St) (ls : Array Slot) (hl : lv_has ls 6 []) (hw : f_X11_both_u16 Q σ) : ml_V p l e rm_X11_both s m args below meth c (MQ below (ml_Qi I32 base D cA n Q) args s 0 0 (ml_A base)) base D cA 0 0 n n σ (F0 m 16 ls []) := by
  unfold f_X11_both_u16 at hw
  refine ml_iconst (pc := 16) X dX11_both_16 ?_
  exact ml_iret (pc := 17) X ⟨by decide, by decide⟩ hw dX11_both_17
set_option maxRecDepth 100000 in
set_option maxHeartbeats 4000000 in
theorem u_X11_both_91 {p : Program} {e : Env} {s : State} {m : MethodId} {args : Array Value} {below : List Frame} {meth : Method} {c : Code} {base : Nat} {D : va_G} {cA : Nat → ClassId} {n : Nat} {l : Launch} {Q : Int → ml_St → Prop} (X : ml_X p s m c meth args D cA cX11_both 6 RX11 (some .int)) (hn : 214 ≤ n) (σ : ml_St) (s0 : Int) (h_s0 : ml_B s0) (ls : Array Slot) (hl : lv_has ls 6 []) (hw : f_X11_both_u91 Q σ s0) : ml_V p l e rm_X11_both s m args below meth c (MQ below (ml_Qi I32 base D cA n Q) args s 0 0 (ml_A base)) base D cA 0 0 n n σ (F0 m 91 ls [.int (Int32.ofInt s0)]) := by
  unfold f_X11_both_u91 at hw
  exact ml_iret (pc := 91) X h_s0.i hw dX11_both_91
set_option maxRecDepth 100000 in
set_option maxHeartbeats 4000000 in
theorem u_X11_both_115 {p : Program} {e : Env} {s : State} {m : MethodId} {args : Array Value} {below : List Frame} {meth : Method} {c : Code} {base : Nat} {D : va_G} {cA : Nat → ClassId} {n : Nat} {l : Launch} {Q : Int → ml_St → Prop} (X : ml_X p s m c meth args D cA cX11_both 6 RX11 (some .int)) (hn : 214 ≤ n) (σ : ml_St) (s0 : Int) (h_s0 : ml_B s0) (ls : Array Slot) (hl : lv_has ls 6 []) (hw : f_X11_both_u115 Q σ s0) : ml_V p l e rm_X11_both s m args below meth c (MQ below (ml_Qi I32 base D cA n Q) args s 0 0 (ml_A base)) base D cA 0 0 n n σ (F0 m 115 ls [.int (Int32.ofInt s0)]) := by
  unfold f_X11_both_u115 at hw
  exact ml_iret (pc := 115) X h_s0.i hw dX11_both_115
set_option maxRecDepth 100000 in
set_option maxHeartbeats 4000000 in
theorem u_X11_both_139 {p : Program} {e : Env} {s : State} {m : MethodId} {args : Array Value} {below : List Frame} {meth : Method} {c : Code} {base : Nat} {D : va_G} {cA : Nat → ClassId} {n : Nat} {l : Launch} {Q : Int → ml_St → Prop} (X : ml_X p s m c meth args D cA cX11_both 6 RX11 (some .int)) (hn : 214 ≤ n) (σ : ml_St) (s0 : Int) (h_s0 : ml_B s0) (ls : Array Slot) (hl : lv_has ls 6 []) (hw : f_X11_both_u139 Q σ s0) : ml_V p l e rm_X11_both s m args below meth c (MQ below (ml_Qi I32 base D cA n Q) args s 0 0 (ml_A base)) base D cA 0 0 n n σ (F0 m 139 ls [.int (Int32.ofInt s0)]) := by
  unfold f_X11_both_u139 at hw
  exact ml_iret (pc := 139) X h_s0.i hw dX11_both_139
set_option maxRecDepth 100000 in
set_option maxHeartbeats 4000000 in
theorem u_X11_both_163 {p : Program} {e : Env} {s : State} {m : MethodId} {args : Array Value} {below : List Frame} {meth : Method} {c : Code} {base : Nat} {D : va_G} {cA : Nat → ClassId} {n : Nat} {l : Launch} {Q : Int → ml_St → Prop} (X : ml_X p s m c meth args D cA cX11_both 6 RX11 (some .int)) (hn : 214 ≤ n) (σ : ml_St) (s0 : Int) (h_s0 : ml_B s0) (ls : Array Slot) (hl : lv_has ls 6 []) (hw : f_X11_both_u163 Q σ s0) : ml_V p l e rm_X11_both s m args below meth c (MQ below (ml_Qi I32 base D cA n Q) args s 0 0 (ml_A base)) base D cA 0 0 n n σ (F0 m 163 ls [.int (Int32.ofInt s0)]) := by
  unfold f_X11_both_u163 at hw
  exact ml_iret (pc := 163) X h_s0.i hw dX11_both_163
set_option maxRecDepth 100000 in
set_option maxHeartbeats 4000000 in
theorem u_X11_both_0 {p : Program} {e : Env} {s : State} {m : MethodId} {args : Array Value} {below : List Frame} {meth : Method} {c : Code} {base : Nat} {D : va_G} {cA : Nat → ClassId} {n : Nat} {l : Launch} {Q : Int → ml_St → Prop} (X : ml_X p s m c meth args D cA cX11_both 6 RX11 (some .int)) (hn : 214 ≤ n) (σ : ml_St) (x1 : Int) (x2 : Int) (x3 : Int) (h_x1 : I32 x1) (h_x2 : I32 x2) (h_x3 : I32 x3) (ls : Array Slot) (hl : lv_has ls 6 [(0, .ref (base + (1 : Int).toNat)), (1, .int (Int32.ofInt x1)), (2, .int (Int32.ofInt x2)), (3, .int (Int32.ofInt x3))]) (hw : f_X11_both_u0 Q σ x1 x2 x3) : ml_V p l e rm_X11_both s m args below meth c (MQ below (ml_Qi I32 base D cA n Q) args s 0 0 (ml_A base)) base D cA 0 0 n n σ (F0 m 0 ls []) := by
  unfold f_X11_both_u0 at hw
  refine ml_aload_n (pc := 0) X hl 0 rfl rfl dX11_both_0 ?_
  refine ml_iload_n (pc := 1) X hl 1 rfl rfl dX11_both_1 ?_
  refine ml_callzV (pc := 2) (rest := []) X [.int (Int32.ofInt x1)] (by decide) rfl (ml_c1 hn) (c_X11_isMade l base D cA n hn σ x1 h_x1 _ hw) cv_X11_121 ⟨rfl, rfl⟩ ⟨by decide, by decide⟩ rfl rfl hl (Nat.le_of_ble_eq_true rfl) ⟨Nat.zero_le _, Nat.zero_le _⟩ dX11_both_2 (fun r1 σ1 t1 hw => ?_)
  have hw := hw t1
  refine ml_if_eq (pc := 5) (tgt := 16) X t1.i dX11_both_5 (by decide) (fun c2 => ?_) (fun c2 => ?_)
  · have hw := hw.1 c2
    exact u_X11_both_16 X hn σ1   _ (lv_sub hl [] rfl) hw
  · have hw := hw.2 c2
    refine ml_aload_n (pc := 8) X hl 0 rfl rfl dX11_both_8 ?_
    refine ml_iload_n (pc := 9) X hl 2 rfl rfl dX11_both_9 ?_
    refine ml_callzV (pc := 10) (rest := []) X [.int (Int32.ofInt x2)] (by decide) rfl (ml_c1 hn) (c_X11_isMade l base D cA n hn σ1 x2 h_x2 _ hw) cv_X11_121 ⟨rfl, rfl⟩ ⟨by decide, by decide⟩ rfl rfl hl (Nat.le_of_ble_eq_true rfl) ⟨Nat.zero_le _, Nat.zero_le _⟩ dX11_both_10 (fun r3 σ3 t3 hw => ?_)
    have hw := hw t3
    refine ml_if_ne (pc := 13) (tgt := 18) X t3.i dX11_both_13 (by decide) (fun c4 => ?_) (fun c4 => ?_)
    · have hw := hw.1 c4
      refine ml_aload_n (pc := 18) X hl 0 rfl rfl dX11_both_18 ?_
      refine gf_X11_67 (pc := 19) X (ml_c1 hn) dX11_both_19 ?_
      refine ml_iload_n (pc := 22) X hl 1 rfl rfl dX11_both_22 ?_
      obtain ⟨a5, b5, hw⟩ := hw
      refine ml_aald_words (pc := 23) X hn a5 b5 dX11_both_23 ?_
      refine gf_X11_112 (pc := 24) X (ml_at_words hn a5 b5) dX11_both_24 ?_
      refine ml_astore (pc := 27) X hl (by decide) (lst' := [(4, .ref (base + (((119 + 6 * x1) + 2) : Int).toNat)), (0, .ref (base + (1 : Int).toNat)), (1, .int (Int32.ofInt x1)), (2, .int (Int32.ofInt x2)), (3, .int (Int32.ofInt x3))]) rfl dX11_both_27 (fun ls hl => ?_)
      refine ml_aload_n (pc := 29) X hl 1 rfl rfl dX11_both_29 ?_
      refine gf_X11_67 (pc := 30) X (ml_c1 hn) dX11_both_30 ?_
      refine ml_iload_n (pc := 33) X hl 3 rfl rfl dX11_both_33 ?_
      obtain ⟨a6, b6, hw⟩ := hw
      refine ml_aald_words (pc := 34) X hn a6 b6 dX11_both_34 ?_
      refine gf_X11_112 (pc := 35) X (ml_at_words hn a6 b6) dX11_both_35 ?_
      refine ml_astore (pc := 38) X hl (by decide) (lst' := [(5, .ref (base + (((119 + 6 * x2) + 2) : Int).toNat)), (4, .ref (base + (((119 + 6 * x1) + 2) : Int).toNat)), (0, .ref (base + (1 : Int).toNat)), (1, .int (Int32.ofInt x1)), (2, .int (Int32.ofInt x2)), (3, .int (Int32.ofInt x3))]) rfl dX11_both_38 (fun ls hl => ?_)
      refine ml_iload_n (pc := 40) X hl 5 rfl rfl dX11_both_40 ?_
      rcases (show x3 = 0 ∨ x3 = 1 ∨ x3 = 2 ∨ x3 = 3 ∨ (x3 < 0 ∨ 3 < x3) by omega) with c7 | c7 | c7 | c7 | c7
      · have hw := hw.1 c7
        refine ml_tIn (pc := 41) (off := 31) (tgt := 72) X c7 dX11_both_41 (by decide) (by decide) (by decide +kernel) (by decide) ?_
        refine ml_aload (pc := 72) X hl 1 rfl dX11_both_72 ?_
        refine ml_aload (pc := 74) X hl 0 rfl dX11_both_74 ?_
        refine ml_aload_n (pc := 76) X hl 2 rfl rfl dX11_both_76 ?_
        refine gf_X11_82 (pc := 77) X (ml_c1 hn) dX11_both_77 (fun r8 => ?_)
        have hw := hw r8
        exact hw.elim
      · have hw := hw.2.1 c7
        refine ml_tIn (pc := 41) (off := 51) (tgt := 92) X c7 dX11_both_41 (by decide) (by decide) (by decide +kernel) (by decide) ?_
        refine ml_aload_n (pc := 92) X hl 2 rfl rfl dX11_both_92 ?_
        refine gf_X11_33 (pc := 93) X (ml_c1 hn) dX11_both_93 ?_
        refine ml_aload (pc := 96) X hl 1 rfl dX11_both_96 ?_
        refine ml_aload (pc := 98) X hl 0 rfl dX11_both_98 ?_
        refine ml_aload_n (pc := 100) X hl 2 rfl rfl dX11_both_100 ?_
        refine gf_X11_82 (pc := 101) X (ml_c1 hn) dX11_both_101 (fun r9 => ?_)
        have hw := hw r9
        exact hw.elim
      · have hw := hw.2.2.1 c7
        refine ml_tIn (pc := 41) (off := 75) (tgt := 116) X c7 dX11_both_41 (by decide) (by decide) (by decide +kernel) (by decide) ?_
        refine ml_aload_n (pc := 116) X hl 2 rfl rfl dX11_both_116 ?_
        refine gf_X11_33 (pc := 117) X (ml_c1 hn) dX11_both_117 ?_
        refine ml_aload (pc := 120) X hl 1 rfl dX11_both_120 ?_
        refine ml_aload (pc := 122) X hl 0 rfl dX11_both_122 ?_
        refine ml_aload_n (pc := 124) X hl 2 rfl rfl dX11_both_124 ?_
        refine gf_X11_82 (pc := 125) X (ml_c1 hn) dX11_both_125 (fun r10 => ?_)
        have hw := hw r10
        exact hw.elim
      · have hw := hw.2.2.2.1 c7
        refine ml_tIn (pc := 41) (off := 99) (tgt := 140) X c7 dX11_both_41 (by decide) (by decide) (by decide +kernel) (by decide) ?_
        refine ml_aload_n (pc := 140) X hl 2 rfl rfl dX11_both_140 ?_
        refine gf_X11_33 (pc := 141) X (ml_c1 hn) dX11_both_141 ?_
        refine ml_aload (pc := 144) X hl 1 rfl dX11_both_144 ?_
        refine ml_aload (pc := 146) X hl 0 rfl dX11_both_146 ?_
        refine ml_aload_n (pc := 148) X hl 2 rfl rfl dX11_both_148 ?_
        refine gf_X11_82 (pc := 149) X (ml_c1 hn) dX11_both_149 (fun r11 => ?_)
        have hw := hw r11
        exact hw.elim
      · have hw := hw.2.2.2.2 c7
        refine ml_tOut (pc := 41) (tgt := 164) X h_x3 dX11_both_41 c7 (by decide) ?_
        refine ml_iconst (pc := 164) X dX11_both_164 ?_
        exact ml_iret (pc := 165) X ⟨by decide, by decide⟩ hw dX11_both_165
    · have hw := hw.2 c4
      exact u_X11_both_16 X hn σ3   _ (lv_sub hl [] rfl) hw
set_option maxRecDepth 100000 in
theorem c_X11_both (l : Launch) (base : Nat) (D : va_G) (cA : Nat → ClassId) (n : Nat) (hn : 214 ≤ n) (σ : ml_St) (x1 : Int) (x2 : Int) (x3 : Int) (h_x1 : I32 x1) (h_x2 : I32 x2) (h_x3 : I32 x3) (Q : Int → ml_St → Prop) (hw : f_X11_both σ x1 x2 x3 Q) : Met l yX11_both (Cond.code yX11_both cX11_both 6 (some .int) :: ml_T) rm_X11_both (va_Pc [.ref (base + (1 : Int).toNat), .int (Int32.ofInt x1), .int (Int32.ofInt x2), .int (Int32.ofInt x3)] (ml_U base D cA n σ)) (ml_Qi I32 base D cA n Q) 0 0 (ml_A base) := by
  refine Met.ofW (cc := cX11_both) (maxL := 6) (ret := (some .int)) (by decide) rfl ?_
  intro p e s m args below meth c s₁ B hml hv
  obtain ⟨rfl, hP, hK, hok, hro⟩ := hv
  have X : ml_X p s m c meth _ D cA cX11_both 6 RX11 (some .int) := ⟨B.exec, B.bytes, hml, findClass_of_methodNamed B.named, fun w hw => atoms_spec (ws := Cond.code yX11_both cX11_both 6 (some .int) :: ml_T) B.pre w (List.mem_cons_of_mem _ hw), hK, B.notSynchronized, B.returns⟩
  have hl := lv_entry [.ref (base + (1 : Int).toNat), .int (Int32.ofInt x1), .int (Int32.ofInt x2), .int (Int32.ofInt x3)] (n := 6) (Nat.le_of_ble_eq_true rfl)
  rw [lg_entry_eq]
  generalize (lg_sl [.ref (base + (1 : Int).toNat), .int (Int32.ofInt x1), .int (Int32.ofInt x2), .int (Int32.ofInt x3)] ++ List.replicate (6 - (lg_sl [.ref (base + (1 : Int).toNat), .int (Int32.ofInt x1), .int (Int32.ofInt x2), .int (Int32.ofInt x3)]).length) Slot.unset).toArray = ls at hl ⊢
  have hl : lv_has ls 6 [(0, .ref (base + (1 : Int).toNat)), (1, .int (Int32.ofInt x1)), (2, .int (Int32.ofInt x2)), (3, .int (Int32.ofInt x3))] := hl
  unfold f_X11_both at hw
  exact u_X11_both_0 X hn σ x1 x2 x3 h_x1 h_x2 h_x3 _ (lv_sub hl [0, 1, 2, 3] rfl) hw s.heap [] hP va_S.rf hok hro
theorem dX11_is_0 : decode cX11_is 0 = .ok (.aload_n 0, 1) := by decide +kernel
theorem dX11_is_1 : decode cX11_is 1 = .ok (.iload_n 1, 1) := by decide +kernel
theorem dX11_is_2 : decode cX11_is 2 = .ok (.invokevirtual 104, 3) := by decide +kernel
theorem dX11_is_5 : decode cX11_is 5 = .ok (.ifCond .ne 5, 3) := by decide +kernel
theorem dX11_is_8 : decode cX11_is 8 = .ok (.iconst (-1), 1) := by decide +kernel
theorem dX11_is_9 : decode cX11_is 9 = .ok (.ireturn, 1) := by decide +kernel
theorem dX11_is_10 : decode cX11_is 10 = .ok (.iload_n 2, 1) := by decide +kernel
theorem dX11_is_11 : decode cX11_is 11 = .ok (.tableswitch 110 0 3 #[29, 50, 71, 89], 29) := by decide +kernel
theorem dX11_is_40 : decode cX11_is 40 = .ok (.aload_n 0, 1) := by decide +kernel
theorem dX11_is_41 : decode cX11_is 41 = .ok (.getfield 67, 3) := by decide +kernel
theorem dX11_is_44 : decode cX11_is 44 = .ok (.iload_n 1, 1) := by decide +kernel
theorem dX11_is_45 : decode cX11_is 45 = .ok (.aaload, 1) := by decide +kernel
theorem dX11_is_46 : decode cX11_is 46 = .ok (.getfield 112, 3) := by decide +kernel
theorem dX11_is_49 : decode cX11_is 49 = .ok (.getfield 205, 3) := by decide +kernel
theorem dX11_is_52 : decode cX11_is 52 = .ok (.ifCond .eq 7, 3) := by decide +kernel
theorem dX11_is_55 : decode cX11_is 55 = .ok (.iconst 0, 1) := by decide +kernel
theorem dX11_is_56 : decode cX11_is 56 = .ok (.goto 4, 3) := by decide +kernel
theorem dX11_is_59 : decode cX11_is 59 = .ok (.iconst 1, 1) := by decide +kernel
theorem dX11_is_60 : decode cX11_is 60 = .ok (.ireturn, 1) := by decide +kernel
theorem dX11_is_61 : decode cX11_is 61 = .ok (.aload_n 0, 1) := by decide +kernel
theorem dX11_is_62 : decode cX11_is 62 = .ok (.getfield 67, 3) := by decide +kernel
theorem dX11_is_65 : decode cX11_is 65 = .ok (.iload_n 1, 1) := by decide +kernel
theorem dX11_is_66 : decode cX11_is 66 = .ok (.aaload, 1) := by decide +kernel
theorem dX11_is_67 : decode cX11_is 67 = .ok (.getfield 112, 3) := by decide +kernel
theorem dX11_is_70 : decode cX11_is 70 = .ok (.getfield 209, 3) := by decide +kernel
theorem dX11_is_73 : decode cX11_is 73 = .ok (.ifCond .eq 7, 3) := by decide +kernel
theorem dX11_is_76 : decode cX11_is 76 = .ok (.iconst 0, 1) := by decide +kernel
theorem dX11_is_77 : decode cX11_is 77 = .ok (.goto 4, 3) := by decide +kernel
theorem dX11_is_80 : decode cX11_is 80 = .ok (.iconst 1, 1) := by decide +kernel
theorem dX11_is_81 : decode cX11_is 81 = .ok (.ireturn, 1) := by decide +kernel
theorem dX11_is_82 : decode cX11_is 82 = .ok (.aload_n 0, 1) := by decide +kernel
theorem dX11_is_83 : decode cX11_is 83 = .ok (.getfield 67, 3) := by decide +kernel
theorem dX11_is_86 : decode cX11_is 86 = .ok (.iload_n 1, 1) := by decide +kernel
theorem dX11_is_87 : decode cX11_is 87 = .ok (.aaload, 1) := by decide +kernel
theorem dX11_is_88 : decode cX11_is 88 = .ok (.getfield 212, 3) := by decide +kernel
theorem dX11_is_91 : decode cX11_is 91 = .ok (.ifCond .eq 7, 3) := by decide +kernel
theorem dX11_is_94 : decode cX11_is 94 = .ok (.iconst 1, 1) := by decide +kernel
theorem dX11_is_95 : decode cX11_is 95 = .ok (.goto 4, 3) := by decide +kernel
theorem dX11_is_98 : decode cX11_is 98 = .ok (.iconst 0, 1) := by decide +kernel
theorem dX11_is_99 : decode cX11_is 99 = .ok (.ireturn, 1) := by decide +kernel
theorem dX11_is_100 : decode cX11_is 100 = .ok (.aload_n 0, 1) := by decide +kernel
theorem dX11_is_101 : decode cX11_is 101 = .ok (.getfield 67, 3) := by decide +kernel
theorem dX11_is_104 : decode cX11_is 104 = .ok (.iload_n 1, 1) := by decide +kernel
theorem dX11_is_105 : decode cX11_is 105 = .ok (.aaload, 1) := by decide +kernel
theorem dX11_is_106 : decode cX11_is 106 = .ok (.getfield 112, 3) := by decide +kernel
theorem dX11_is_109 : decode cX11_is 109 = .ok (.invokevirtual 215, 3) := by decide +kernel
theorem dX11_is_112 : decode cX11_is 112 = .ok (.ifCond .eq 7, 3) := by decide +kernel
theorem dX11_is_115 : decode cX11_is 115 = .ok (.iconst 1, 1) := by decide +kernel
theorem dX11_is_116 : decode cX11_is 116 = .ok (.goto 4, 3) := by decide +kernel
theorem dX11_is_119 : decode cX11_is 119 = .ok (.iconst 0, 1) := by decide +kernel
theorem dX11_is_120 : decode cX11_is 120 = .ok (.ireturn, 1) := by decide +kernel
theorem dX11_is_121 : decode cX11_is 121 = .ok (.iconst (-1), 1) := by decide +kernel
theorem dX11_is_122 : decode cX11_is 122 = .ok (.ireturn, 1) := by decide +kernel
def f_X11_is_u60 (Q : Int → ml_St → Prop) (σ : ml_St) (s0 : Int) : Prop :=
Q s0 σ
def f_X11_is_u81 (Q : Int → ml_St → Prop) (σ : ml_St) (s0 : Int) : Prop :=
Q s0 σ
def f_X11_is_u99 (Q : Int → ml_St → Prop) (σ : ml_St) (s0 : Int) : Prop :=
Q s0 σ
def f_X11_is_u120 (Q : Int → ml_St → Prop) (σ : ml_St) (s0 : Int) : Prop :=
Q s0 σ
def f_X11_is_u0 (Q : Int → ml_St → Prop) (σ : ml_St) (x1 : Int) (x2 : Int) : Prop :=
f_X11_isTold σ x1 (fun r1 σ1 => ∀ _ : ml_B r1,
(r1 ≠ 0 →
(x2 = 0 →
(0 : Int) ≤ x1 ∧ (x1 : Int) < 16 ∧
∀ _ : ml_B (σ1 ((119 + 6 * x1) + 2) 6),
(((σ1 ((119 + 6 * x1) + 2) 6) : Int) = 0 →
f_X11_is_u60 Q σ1 1) ∧
((σ1 ((119 + 6 * x1) + 2) 6) ≠ 0 →
f_X11_is_u60 Q σ1 0)) ∧
(x2 = 1 →
(0 : Int) ≤ x1 ∧ (x1 : Int) < 16 ∧
∀ _ : ml_B (σ1 ((119 + 6 * x1) + 2) 7),
(((σ1 ((119 + 6 * x1) + 2) 7) : Int) = 0 →
f_X11_is_u81 Q σ1 1) ∧
((σ1 ((119 + 6 * x1) + 2) 7) ≠ 0 →
f_X11_is_u81 Q σ1 0)) ∧
(x2 = 2 →
(0 : Int) ≤ x1 ∧ (x1 : Int) < 16 ∧
∀ _ : ml_B (σ1 (119 + 6 * x1) 2),
(((σ1 (119 + 6 * x1) 2) : Int) = 0 →
f_X11_is_u99 Q σ1 0) ∧
((σ1 (119 + 6 * x1) 2) ≠ 0 →
f_X11_is_u99 Q σ1 1)) ∧
(x2 = 3 →
(0 : Int) ≤ x1 ∧ (x1 : Int) < 16 ∧
False) ∧
(x2 < 0 ∨ 3 < x2 →
Q (-1) σ1)) ∧
(r1 = 0 →
Q (-1) σ1))
def f_X11_is (σ : ml_St) (x1 : Int) (x2 : Int) (Q : Int → ml_St → Prop) : Prop := f_X11_is_u0 Q σ x1 x2
def rm_X11_is : Room := { frames := 1, cells := 0, slots := 0, locals := 21 }
set_option maxRecDepth 100000 in
set_option maxHeartbeats 4000000 in
theorem u_X11_is_60 {p : Program} {e : Env} {s : State} {m : MethodId} {args : Array Value} {below : List Frame} {meth : Method} {c : Code} {base : Nat} {D : va_G} {cA : Nat → ClassId} {n : Nat} {l : Launch} {Q : Int → ml_St → Prop} (X : ml_X p s m c meth args D cA cX11_is 3 RX11 (some .int)) (hn : 214 ≤ n) (σ : ml_St) (s0 : Int) (h_s0 : ml_B s0) (ls : Array Slot) (hl : lv_has ls 3 []) (hw : f_X11_is_u60 Q σ s0) : ml_V p l e rm_X11_is s m args below meth c (MQ below (ml_Qi I32 base D cA n Q) args s 0 0 (ml_A base)) base D cA 0 0 n n σ (F0 m 60 ls [.int (Int32.ofInt s0)]) := by
  unfold f_X11_is_u60 at hw
  exact ml_iret (pc := 60) X h_s0.i hw dX11_is_60
set_option maxRecDepth 100000 in
set_option maxHeartbeats 4000000 in
theorem u_X11_is_81 {p : Program} {e : Env} {s : State} {m : MethodId} {args : Array Value} {below : List Frame} {meth : Method} {c : Code} {base : Nat} {D : va_G} {cA : Nat → ClassId} {n : Nat} {l : Launch} {Q : Int → ml_St → Prop} (X : ml_X p s m c meth args D cA cX11_is 3 RX11 (some .int)) (hn : 214 ≤ n) (σ : ml_St) (s0 : Int) (h_s0 : ml_B s0) (ls : Array Slot) (hl : lv_has ls 3 []) (hw : f_X11_is_u81 Q σ s0) : ml_V p l e rm_X11_is s m args below meth c (MQ below (ml_Qi I32 base D cA n Q) args s 0 0 (ml_A base)) base D cA 0 0 n n σ (F0 m 81 ls [.int (Int32.ofInt s0)]) := by
  unfold f_X11_is_u81 at hw
  exact ml_iret (pc := 81) X h_s0.i hw dX11_is_81
set_option maxRecDepth 100000 in
set_option maxHeartbeats 4000000 in
theorem u_X11_is_99 {p : Program} {e : Env} {s : State} {m : MethodId} {args : Array Value} {below : List Frame} {meth : Method} {c : Code} {base : Nat} {D : va_G} {cA : Nat → ClassId} {n : Nat} {l : Launch} {Q : Int → ml_St → Prop} (X : ml_X p s m c meth args D cA cX11_is 3 RX11 (some .int)) (hn : 214 ≤ n) (σ : ml_St) (s0 : Int) (h_s0 : ml_B s0) (ls : Array Slot) (hl : lv_has ls 3 []) (hw : f_X11_is_u99 Q σ s0) : ml_V p l e rm_X11_is s m args below meth c (MQ below (ml_Qi I32 base D cA n Q) args s 0 0 (ml_A base)) base D cA 0 0 n n σ (F0 m 99 ls [.int (Int32.ofInt s0)]) := by
  unfold f_X11_is_u99 at hw
  exact ml_iret (pc := 99) X h_s0.i hw dX11_is_99
set_option maxRecDepth 100000 in
set_option maxHeartbeats 4000000 in
theorem u_X11_is_120 {p : Program} {e : Env} {s : State} {m : MethodId} {args : Array Value} {below : List Frame} {meth : Method} {c : Code} {base : Nat} {D : va_G} {cA : Nat → ClassId} {n : Nat} {l : Launch} {Q : Int → ml_St → Prop} (X : ml_X p s m c meth args D cA cX11_is 3 RX11 (some .int)) (hn : 214 ≤ n) (σ : ml_St) (s0 : Int) (h_s0 : ml_B s0) (ls : Array Slot) (hl : lv_has ls 3 []) (hw : f_X11_is_u120 Q σ s0) : ml_V p l e rm_X11_is s m args below meth c (MQ below (ml_Qi I32 base D cA n Q) args s 0 0 (ml_A base)) base D cA 0 0 n n σ (F0 m 120 ls [.int (Int32.ofInt s0)]) := by
  unfold f_X11_is_u120 at hw
  exact ml_iret (pc := 120) X h_s0.i hw dX11_is_120
set_option maxRecDepth 100000 in
set_option maxHeartbeats 4000000 in
theorem u_X11_is_0 {p : Program} {e : Env} {s : State} {m : MethodId} {args : Array Value} {below : List Frame} {meth : Method} {c : Code} {base : Nat} {D : va_G} {cA : Nat → ClassId} {n : Nat} {l : Launch} {Q : Int → ml_St → Prop} (X : ml_X p s m c meth args D cA cX11_is 3 RX11 (some .int)) (hn : 214 ≤ n) (σ : ml_St) (x1 : Int) (x2 : Int) (h_x1 : I32 x1) (h_x2 : I32 x2) (ls : Array Slot) (hl : lv_has ls 3 [(0, .ref (base + (1 : Int).toNat)), (1, .int (Int32.ofInt x1)), (2, .int (Int32.ofInt x2))]) (hw : f_X11_is_u0 Q σ x1 x2) : ml_V p l e rm_X11_is s m args below meth c (MQ below (ml_Qi I32 base D cA n Q) args s 0 0 (ml_A base)) base D cA 0 0 n n σ (F0 m 0 ls []) := by
  unfold f_X11_is_u0 at hw
  refine ml_aload_n (pc := 0) X hl 0 rfl rfl dX11_is_0 ?_
  refine ml_iload_n (pc := 1) X hl 1 rfl rfl dX11_is_1 ?_
  refine ml_callzV (pc := 2) (rest := []) X [.int (Int32.ofInt x1)] (by decide) rfl (ml_c1 hn) (c_X11_isTold l base D cA n hn σ x1 h_x1 _ hw) cv_X11_104 ⟨rfl, rfl⟩ ⟨by decide, by decide⟩ rfl rfl hl (Nat.le_of_ble_eq_true rfl) ⟨Nat.zero_le _, Nat.zero_le _⟩ dX11_is_2 (fun r1 σ1 t1 hw => ?_)
  have hw := hw t1
  refine ml_if_ne (pc := 5) (tgt := 10) X t1.i dX11_is_5 (by decide) (fun c2 => ?_) (fun c2 => ?_)
  · have hw := hw.1 c2
    refine ml_iload_n (pc := 10) X hl 2 rfl rfl dX11_is_10 ?_
    rcases (show x2 = 0 ∨ x2 = 1 ∨ x2 = 2 ∨ x2 = 3 ∨ (x2 < 0 ∨ 3 < x2) by omega) with c3 | c3 | c3 | c3 | c3
    · have hw := hw.1 c3
      refine ml_tIn (pc := 11) (off := 29) (tgt := 40) X c3 dX11_is_11 (by decide) (by decide) (by decide +kernel) (by decide) ?_
      refine ml_aload_n (pc := 40) X hl 0 rfl rfl dX11_is_40 ?_
      refine gf_X11_67 (pc := 41) X (ml_c1 hn) dX11_is_41 ?_
      refine ml_iload_n (pc := 44) X hl 1 rfl rfl dX11_is_44 ?_
      obtain ⟨a4, b4, hw⟩ := hw
      refine ml_aald_words (pc := 45) X hn a4 b4 dX11_is_45 ?_
      refine gf_X11_112 (pc := 46) X (ml_at_words hn a4 b4) dX11_is_46 ?_
      refine gf_X11_205 (pc := 49) X (ml_r20_2 hn (ml_at_words hn a4 b4)) dX11_is_49 (fun r5 => ?_)
      have hw := hw r5
      refine ml_if_eq (pc := 52) (tgt := 59) X r5.i dX11_is_52 (by decide) (fun c6 => ?_) (fun c6 => ?_)
      · have hw := hw.1 c6
        refine ml_iconst (pc := 59) X dX11_is_59 ?_
        exact u_X11_is_60 X hn σ1 1 ⟨by decide, by decide⟩ _ (lv_sub hl [] rfl) hw
      · have hw := hw.2 c6
        refine ml_iconst (pc := 55) X dX11_is_55 ?_
        refine ml_goto (pc := 56) (tgt := 60) X dX11_is_56 (by decide) ?_
        exact u_X11_is_60 X hn σ1 0 ⟨by decide, by decide⟩ _ (lv_sub hl [] rfl) hw
    · have hw := hw.2.1 c3
      refine ml_tIn (pc := 11) (off := 50) (tgt := 61) X c3 dX11_is_11 (by decide) (by decide) (by decide +kernel) (by decide) ?_
      refine ml_aload_n (pc := 61) X hl 0 rfl rfl dX11_is_61 ?_
      refine gf_X11_67 (pc := 62) X (ml_c1 hn) dX11_is_62 ?_
      refine ml_iload_n (pc := 65) X hl 1 rfl rfl dX11_is_65 ?_
      obtain ⟨a7, b7, hw⟩ := hw
      refine ml_aald_words (pc := 66) X hn a7 b7 dX11_is_66 ?_
      refine gf_X11_112 (pc := 67) X (ml_at_words hn a7 b7) dX11_is_67 ?_
      refine gf_X11_209 (pc := 70) X (ml_r20_2 hn (ml_at_words hn a7 b7)) dX11_is_70 (fun r8 => ?_)
      have hw := hw r8
      refine ml_if_eq (pc := 73) (tgt := 80) X r8.i dX11_is_73 (by decide) (fun c9 => ?_) (fun c9 => ?_)
      · have hw := hw.1 c9
        refine ml_iconst (pc := 80) X dX11_is_80 ?_
        exact u_X11_is_81 X hn σ1 1 ⟨by decide, by decide⟩ _ (lv_sub hl [] rfl) hw
      · have hw := hw.2 c9
        refine ml_iconst (pc := 76) X dX11_is_76 ?_
        refine ml_goto (pc := 77) (tgt := 81) X dX11_is_77 (by decide) ?_
        exact u_X11_is_81 X hn σ1 0 ⟨by decide, by decide⟩ _ (lv_sub hl [] rfl) hw
    · have hw := hw.2.2.1 c3
      refine ml_tIn (pc := 11) (off := 71) (tgt := 82) X c3 dX11_is_11 (by decide) (by decide) (by decide +kernel) (by decide) ?_
      refine ml_aload_n (pc := 82) X hl 0 rfl rfl dX11_is_82 ?_
      refine gf_X11_67 (pc := 83) X (ml_c1 hn) dX11_is_83 ?_
      refine ml_iload_n (pc := 86) X hl 1 rfl rfl dX11_is_86 ?_
      obtain ⟨a10, b10, hw⟩ := hw
      refine ml_aald_words (pc := 87) X hn a10 b10 dX11_is_87 ?_
      refine gf_X11_212 (pc := 88) X (ml_at_words hn a10 b10) dX11_is_88 (fun r11 => ?_)
      have hw := hw r11
      refine ml_if_eq (pc := 91) (tgt := 98) X r11.i dX11_is_91 (by decide) (fun c12 => ?_) (fun c12 => ?_)
      · have hw := hw.1 c12
        refine ml_iconst (pc := 98) X dX11_is_98 ?_
        exact u_X11_is_99 X hn σ1 0 ⟨by decide, by decide⟩ _ (lv_sub hl [] rfl) hw
      · have hw := hw.2 c12
        refine ml_iconst (pc := 94) X dX11_is_94 ?_
        refine ml_goto (pc := 95) (tgt := 99) X dX11_is_95 (by decide) ?_
        exact u_X11_is_99 X hn σ1 1 ⟨by decide, by decide⟩ _ (lv_sub hl [] rfl) hw
    · have hw := hw.2.2.2.1 c3
      refine ml_tIn (pc := 11) (off := 89) (tgt := 100) X c3 dX11_is_11 (by decide) (by decide) (by decide +kernel) (by decide) ?_
      refine ml_aload_n (pc := 100) X hl 0 rfl rfl dX11_is_100 ?_
      refine gf_X11_67 (pc := 101) X (ml_c1 hn) dX11_is_101 ?_
      refine ml_iload_n (pc := 104) X hl 1 rfl rfl dX11_is_104 ?_
      obtain ⟨a13, b13, hw⟩ := hw
      refine ml_aald_words (pc := 105) X hn a13 b13 dX11_is_105 ?_
      refine gf_X11_112 (pc := 106) X (ml_at_words hn a13 b13) dX11_is_106 ?_
      exact hw.elim
    · have hw := hw.2.2.2.2 c3
      refine ml_tOut (pc := 11) (tgt := 121) X h_x2 dX11_is_11 c3 (by decide) ?_
      refine ml_iconst (pc := 121) X dX11_is_121 ?_
      exact ml_iret (pc := 122) X ⟨by decide, by decide⟩ hw dX11_is_122
  · have hw := hw.2 c2
    refine ml_iconst (pc := 8) X dX11_is_8 ?_
    exact ml_iret (pc := 9) X ⟨by decide, by decide⟩ hw dX11_is_9
set_option maxRecDepth 100000 in
theorem c_X11_is (l : Launch) (base : Nat) (D : va_G) (cA : Nat → ClassId) (n : Nat) (hn : 214 ≤ n) (σ : ml_St) (x1 : Int) (x2 : Int) (h_x1 : I32 x1) (h_x2 : I32 x2) (Q : Int → ml_St → Prop) (hw : f_X11_is σ x1 x2 Q) : Met l yX11_is (Cond.code yX11_is cX11_is 3 (some .int) :: ml_T) rm_X11_is (va_Pc [.ref (base + (1 : Int).toNat), .int (Int32.ofInt x1), .int (Int32.ofInt x2)] (ml_U base D cA n σ)) (ml_Qi I32 base D cA n Q) 0 0 (ml_A base) := by
  refine Met.ofW (cc := cX11_is) (maxL := 3) (ret := (some .int)) (by decide) rfl ?_
  intro p e s m args below meth c s₁ B hml hv
  obtain ⟨rfl, hP, hK, hok, hro⟩ := hv
  have X : ml_X p s m c meth _ D cA cX11_is 3 RX11 (some .int) := ⟨B.exec, B.bytes, hml, findClass_of_methodNamed B.named, fun w hw => atoms_spec (ws := Cond.code yX11_is cX11_is 3 (some .int) :: ml_T) B.pre w (List.mem_cons_of_mem _ hw), hK, B.notSynchronized, B.returns⟩
  have hl := lv_entry [.ref (base + (1 : Int).toNat), .int (Int32.ofInt x1), .int (Int32.ofInt x2)] (n := 3) (Nat.le_of_ble_eq_true rfl)
  rw [lg_entry_eq]
  generalize (lg_sl [.ref (base + (1 : Int).toNat), .int (Int32.ofInt x1), .int (Int32.ofInt x2)] ++ List.replicate (3 - (lg_sl [.ref (base + (1 : Int).toNat), .int (Int32.ofInt x1), .int (Int32.ofInt x2)]).length) Slot.unset).toArray = ls at hl ⊢
  have hl : lv_has ls 3 [(0, .ref (base + (1 : Int).toNat)), (1, .int (Int32.ofInt x1)), (2, .int (Int32.ofInt x2))] := hl
  unfold f_X11_is at hw
  exact u_X11_is_0 X hn σ x1 x2 h_x1 h_x2 _ (lv_sub hl [0, 1, 2] rfl) hw s.heap [] hP va_S.rf hok hro
