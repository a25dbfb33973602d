theorem dX0_goRound_0 : decode cX0_goRound 0 = .ok (.iconst 0, 1) := by decide +kernel
theorem dX0_goRound_1 : decode cX0_goRound 1 = .ok (.istore_n 2, 1) := by decide +kernel
theorem dX0_goRound_2 : decode cX0_goRound 2 = .ok (.iload_n 2, 1) := by decide +kernel
theorem dX0_goRound_3 : decode cX0_goRound 3 = .ok (.iconst 2, 1) := by decide +kernel
theorem dX0_goRound_4 : decode cX0_goRound 4 = .ok (.iload_n 1, 1) := by decide +kernel
theorem dX0_goRound_5 : decode cX0_goRound 5 = .ok (.imul, 1) := by decide +kernel
theorem dX0_goRound_6 : decode cX0_goRound 6 = .ok (.if_icmp .ge 29, 3) := by decide +kernel
theorem dX0_goRound_9 : decode cX0_goRound 9 = .ok (.aload_n 0, 1) := by decide +kernel
theorem dX0_goRound_10 : decode cX0_goRound 10 = .ok (.getfield 9, 3) := by decide +kernel
theorem dX0_goRound_13 : decode cX0_goRound 13 = .ok (.iload_n 2, 1) := by decide +kernel
theorem dX0_goRound_14 : decode cX0_goRound 14 = .ok (.iload_n 2, 1) := by decide +kernel
theorem dX0_goRound_15 : decode cX0_goRound 15 = .ok (.iload_n 1, 1) := by decide +kernel
theorem dX0_goRound_16 : decode cX0_goRound 16 = .ok (.if_icmp .ge 9, 3) := by decide +kernel
theorem dX0_goRound_19 : decode cX0_goRound 19 = .ok (.iload_n 2, 1) := by decide +kernel
theorem dX0_goRound_20 : decode cX0_goRound 20 = .ok (.iload_n 1, 1) := by decide +kernel
theorem dX0_goRound_21 : decode cX0_goRound 21 = .ok (.iadd, 1) := by decide +kernel
theorem dX0_goRound_22 : decode cX0_goRound 22 = .ok (.goto 6, 3) := by decide +kernel
theorem dX0_goRound_25 : decode cX0_goRound 25 = .ok (.iload_n 2, 1) := by decide +kernel
theorem dX0_goRound_26 : decode cX0_goRound 26 = .ok (.iload_n 1, 1) := by decide +kernel
theorem dX0_goRound_27 : decode cX0_goRound 27 = .ok (.isub, 1) := by decide +kernel
theorem dX0_goRound_28 : decode cX0_goRound 28 = .ok (.iastore, 1) := by decide +kernel
theorem dX0_goRound_29 : decode cX0_goRound 29 = .ok (.iinc 2 1, 3) := by decide +kernel
theorem dX0_goRound_32 : decode cX0_goRound 32 = .ok (.goto (-30), 3) := by decide +kernel
theorem dX0_goRound_35 : decode cX0_goRound 35 = .ok (.aload_n 0, 1) := by decide +kernel
theorem dX0_goRound_36 : decode cX0_goRound 36 = .ok (.iconst 0, 1) := by decide +kernel
theorem dX0_goRound_37 : decode cX0_goRound 37 = .ok (.putfield 15, 3) := by decide +kernel
theorem dX0_goRound_40 : decode cX0_goRound 40 = .ok (.return_, 1) := by decide +kernel
def f_X0_goRound_u28 (Q : ml_St → Prop) (K2 : ml_St → Int → Int → Prop) (σ : ml_St) (x1 : Int) (x2 : Int) (s1 : Int) (s2 : Int) : Prop :=
(0 : Int) ≤ s1 ∧ (s1 : Int) < 10 ∧
∀ σ1, σ1 = ml_up σ 5 s1 s2 →
I32 (x2 + 1) ∧
∀ y2 : Int, y2 = x2 + 1 →
K2 σ1 x1 y2
def f_X0_goRound_u2 (Q : ml_St → Prop) (K35 : ml_St → Prop) : Nat → ml_St → Int → Int → Prop
| 0, _, _, _ => False
| N + 1, σ, x1, x2 =>
I32 (2 * x1) ∧
((2 * x1) ≤ x2 →
K35 σ) ∧
(¬ ((2 * x1) ≤ x2) →
(x1 ≤ x2 →
I32 (x2 - x1) ∧
f_X0_goRound_u28 Q (f_X0_goRound_u2 Q K35 N) σ x1 x2 x2 (x2 - x1)) ∧
(¬ (x1 ≤ x2) →
I32 (x2 + x1) ∧
f_X0_goRound_u28 Q (f_X0_goRound_u2 Q K35 N) σ x1 x2 x2 (x2 + x1)))
def f_X0_goRound_u35 (Q : ml_St → Prop) (σ : ml_St) : Prop :=
∀ σ1, σ1 = ml_up σ 4 1 0 →
Q σ1
def f_X0_goRound_u0 (Q : ml_St → Prop) (σ : ml_St) (x1 : Int) : Prop :=
∃ N1, f_X0_goRound_u2 Q (f_X0_goRound_u35 Q) N1 σ x1 0
def f_X0_goRound (σ : ml_St) (x1 : Int) (Q : ml_St → Prop) : Prop := f_X0_goRound_u0 Q σ x1
def rm_X0_goRound : Room := { frames := 0, cells := 0, slots := 0, locals := 0 }
set_option maxRecDepth 100000 in
set_option maxHeartbeats 4000000 in
theorem u_X0_goRound_28 {p : Program} {e : Env} {s : State} {m : MethodId} {args : Array Value} {below : List Frame} {meth : Method} {c : Code} {base : Nat} {D : va_G} {cA : Nat → ClassId} {n : Nat} {l : Launch} {Q : ml_St → Prop} {K2 : ml_St → Int → Int → Prop} (X : ml_X p s m c meth args D cA cX0_goRound 3 RX0 none) (hn : 214 ≤ n) (hK2 : ∀ (σ : ml_St) (x1 : Int) (x2 : Int) (h_x1 : I32 x1) (h_x2 : I32 x2) (ls : Array Slot), lv_has ls 3 [(0, .ref (base + (4 : Int).toNat)), (1, .int (Int32.ofInt x1)), (2, .int (Int32.ofInt x2))] → K2 σ x1 x2 → ml_V p l e rm_X0_goRound s m args below meth c (MQ below (ml_Qv base D cA n Q) args s 0 0 (ml_A base)) base D cA 0 0 n n σ (F0 m 2 ls [])) (σ : ml_St) (x1 : Int) (x2 : Int) (s1 : Int) (s2 : Int) (h_x1 : I32 x1) (h_x2 : I32 x2) (h_s1 : I32 s1) (h_s2 : I32 s2) (ls : Array Slot) (hl : lv_has ls 3 [(0, .ref (base + (4 : Int).toNat)), (1, .int (Int32.ofInt x1)), (2, .int (Int32.ofInt x2))]) (hw : f_X0_goRound_u28 Q K2 σ x1 x2 s1 s2) : ml_V p l e rm_X0_goRound s m args below meth c (MQ below (ml_Qv base D cA n Q) args s 0 0 (ml_A base)) base D cA 0 0 n n σ (F0 m 28 ls [.int (Int32.ofInt s2), .int (Int32.ofInt s1), .ref (base + (5 : Int).toNat)]) := by
  unfold f_X0_goRound_u28 at hw
  obtain ⟨a1, b1, hw⟩ := hw
  refine ml_iast (pc := 28) (N := 10) X (ml_c5 hn) a1 b1 h_s2 dX0_goRound_28 (fun σ1 g1 => ?_)
  have hw := hw σ1 g1
  obtain ⟨v2, hw⟩ := hw
  obtain ⟨y2, e2⟩ : ∃ y : Int, y = x2 + 1 := ⟨_, rfl⟩
  have hw := hw y2 e2
  rw [← e2] at v2
  refine ml_iinc (pc := 29) X e2 hl 2 rfl (by decide) (lst' := [(2, .int (Int32.ofInt y2)), (0, .ref (base + (4 : Int).toNat)), (1, .int (Int32.ofInt x1))]) rfl dX0_goRound_29 (fun ls hl => ?_)
  refine ml_goto (pc := 32) (tgt := 2) X dX0_goRound_32 (by decide) ?_
  exact hK2 σ1 x1 y2 h_x1 v2 _ (lv_sub hl [1, 2, 0] rfl) hw
set_option maxRecDepth 100000 in
set_option maxHeartbeats 4000000 in
theorem u_X0_goRound_2 {p : Program} {e : Env} {s : State} {m : MethodId} {args : Array Value} {below : List Frame} {meth : Method} {c : Code} {base : Nat} {D : va_G} {cA : Nat → ClassId} {n : Nat} {l : Launch} {Q : ml_St → Prop} {K35 : ml_St → Prop} (X : ml_X p s m c meth args D cA cX0_goRound 3 RX0 none) (hn : 214 ≤ n) (hK35 : ∀ (σ : ml_St) (ls : Array Slot), lv_has ls 3 [(0, .ref (base + (4 : Int).toNat))] → K35 σ → ml_V p l e rm_X0_goRound s m args below meth c (MQ below (ml_Qv base D cA n Q) args s 0 0 (ml_A base)) base D cA 0 0 n n σ (F0 m 35 ls [])) : ∀ (N : Nat) (σ : ml_St) (x1 : Int) (x2 : Int) (h_x1 : I32 x1) (h_x2 : I32 x2) (ls : Array Slot), lv_has ls 3 [(0, .ref (base + (4 : Int).toNat)), (1, .int (Int32.ofInt x1)), (2, .int (Int32.ofInt x2))] → f_X0_goRound_u2 Q K35 N σ x1 x2 → ml_V p l e rm_X0_goRound s m args below meth c (MQ below (ml_Qv base D cA n Q) args s 0 0 (ml_A base)) base D cA 0 0 n n σ (F0 m 2 ls []) := by
  intro N
  induction N with
  | zero => intro σ x1 x2 h_x1 h_x2 ls hl hw; exact False.elim hw
  | succ N ih =>
    intro σ x1 x2 h_x1 h_x2 ls hl hw
    unfold f_X0_goRound_u2 at hw
    refine ml_iload_n (pc := 2) X hl 2 rfl rfl dX0_goRound_2 ?_
    refine ml_iconst (pc := 3) X dX0_goRound_3 ?_
    refine ml_iload_n (pc := 4) X hl 1 rfl rfl dX0_goRound_4 ?_
    obtain ⟨v1, hw⟩ := hw
    refine ml_imul (pc := 5) X dX0_goRound_5 ?_
    refine ml_icmp_ge (pc := 6) (tgt := 35) X h_x2 v1 dX0_goRound_6 (by decide) (fun c2 => ?_) (fun c2 => ?_)
    · have hw := hw.1 c2
      exact hK35 σ   _ (lv_sub hl [0] rfl) hw
    · have hw := hw.2 c2
      refine ml_aload_n (pc := 9) X hl 0 rfl rfl dX0_goRound_9 ?_
      refine gf_X0_9 (pc := 10) X (ml_c4 hn) dX0_goRound_10 ?_
      refine ml_iload_n (pc := 13) X hl 2 rfl rfl dX0_goRound_13 ?_
      refine ml_iload_n (pc := 14) X hl 2 rfl rfl dX0_goRound_14 ?_
      refine ml_iload_n (pc := 15) X hl 1 rfl rfl dX0_goRound_15 ?_
      refine ml_icmp_ge (pc := 16) (tgt := 25) X h_x2 h_x1 dX0_goRound_16 (by decide) (fun c3 => ?_) (fun c3 => ?_)
      · have hw := hw.1 c3
        refine ml_iload_n (pc := 25) X hl 2 rfl rfl dX0_goRound_25 ?_
        refine ml_iload_n (pc := 26) X hl 1 rfl rfl dX0_goRound_26 ?_
        obtain ⟨v4, hw⟩ := hw
        refine ml_isub (pc := 27) X dX0_goRound_27 ?_
        exact u_X0_goRound_28 X hn ih σ x1 x2 x2 (x2 - x1) h_x1 h_x2 h_x2 v4 _ (lv_sub hl [0, 1, 2] rfl) hw
      · have hw := hw.2 c3
        refine ml_iload_n (pc := 19) X hl 2 rfl rfl dX0_goRound_19 ?_
        refine ml_iload_n (pc := 20) X hl 1 rfl rfl dX0_goRound_20 ?_
        obtain ⟨v5, hw⟩ := hw
        refine ml_iadd (pc := 21) X dX0_goRound_21 ?_
        refine ml_goto (pc := 22) (tgt := 28) X dX0_goRound_22 (by decide) ?_
        exact u_X0_goRound_28 X hn ih σ x1 x2 x2 (x2 + x1) h_x1 h_x2 h_x2 v5 _ (lv_sub hl [0, 1, 2] rfl) hw
set_option maxRecDepth 100000 in
set_option maxHeartbeats 4000000 in
theorem u_X0_goRound_35 {p : Program} {e : Env} {s : State} {m : MethodId} {args : Array Value} {below : List Frame} {meth : Method} {c : Code} {base : Nat} {D : va_G} {cA : Nat → ClassId} {n : Nat} {l : Launch} {Q : ml_St → Prop} (X : ml_X p s m c meth args D cA cX0_goRound 3 RX0 none) (hn : 214 ≤ n) (σ : ml_St) (ls : Array Slot) (hl : lv_has ls 3 [(0, .ref (base + (4 : Int).toNat))]) (hw : f_X0_goRound_u35 Q σ) : ml_V p l e rm_X0_goRound s m args below meth c (MQ below (ml_Qv base D cA n Q) args s 0 0 (ml_A base)) base D cA 0 0 n n σ (F0 m 35 ls []) := by
  unfold f_X0_goRound_u35 at hw
  refine ml_aload_n (pc := 35) X hl 0 rfl rfl dX0_goRound_35 ?_
  refine ml_iconst (pc := 36) X dX0_goRound_36 ?_
  refine pf_X0_15 (pc := 37) X (ml_c4 hn) ⟨by decide, by decide⟩ dX0_goRound_37 (fun σ1 g1 => ?_)
  have hw := hw σ1 g1
  exact ml_vret (pc := 40) X hw dX0_goRound_40
set_option maxRecDepth 100000 in
set_option maxHeartbeats 4000000 in
theorem u_X0_goRound_0 {p : Program} {e : Env} {s : State} {m : MethodId} {args : Array Value} {below : List Frame} {meth : Method} {c : Code} {base : Nat} {D : va_G} {cA : Nat → ClassId} {n : Nat} {l : Launch} {Q : ml_St → Prop} (X : ml_X p s m c meth args D cA cX0_goRound 3 RX0 none) (hn : 214 ≤ n) (σ : ml_St) (x1 : Int) (h_x1 : I32 x1) (ls : Array Slot) (hl : lv_has ls 3 [(0, .ref (base + (4 : Int).toNat)), (1, .int (Int32.ofInt x1))]) (hw : f_X0_goRound_u0 Q σ x1) : ml_V p l e rm_X0_goRound s m args below meth c (MQ below (ml_Qv base D cA n Q) args s 0 0 (ml_A base)) base D cA 0 0 n n σ (F0 m 0 ls []) := by
  unfold f_X0_goRound_u0 at hw
  refine ml_iconst (pc := 0) X dX0_goRound_0 ?_
  refine ml_istore_n (pc := 1) X rfl hl (by decide) (lst' := [(2, .int (Int32.ofInt 0)), (0, .ref (base + (4 : Int).toNat)), (1, .int (Int32.ofInt x1))]) rfl dX0_goRound_1 (fun ls hl => ?_)
  obtain ⟨N0, hw⟩ := hw
  exact u_X0_goRound_2 X hn (fun σ   ls hl hw => u_X0_goRound_35 X hn σ   ls hl hw) N0 σ x1 0 h_x1 ⟨by decide, by decide⟩ _ (lv_sub hl [1, 2, 0] rfl) hw
set_option maxRecDepth 100000 in
theorem c_X0_goRound (l : Launch) (base : Nat) (D : va_G) (cA : Nat → ClassId) (n : Nat) (hn : 214 ≤ n) (σ : ml_St) (x1 : Int) (h_x1 : I32 x1) (Q : ml_St → Prop) (hw : f_X0_goRound σ x1 Q) : Met l yX0_goRound (Cond.code yX0_goRound cX0_goRound 3 none :: ml_T) rm_X0_goRound (va_Pc [.ref (base + (4 : Int).toNat), .int (Int32.ofInt x1)] (ml_U base D cA n σ)) (ml_Qv base D cA n Q) 0 0 (ml_A base) := by
  refine Met.ofW (cc := cX0_goRound) (maxL := 3) (ret := none) (by decide) rfl ?_
  intro p e s m args below meth c s₁ B hml hv
  obtain ⟨rfl, hP, hK, hok, hro⟩ := hv
  have X : ml_X p s m c meth _ D cA cX0_goRound 3 RX0 none := ⟨B.exec, B.bytes, hml, findClass_of_methodNamed B.named, fun w hw => atoms_spec (ws := Cond.code yX0_goRound cX0_goRound 3 none :: ml_T) B.pre w (List.mem_cons_of_mem _ hw), hK, B.notSynchronized, B.returns⟩
  have hl := lv_entry [.ref (base + (4 : Int).toNat), .int (Int32.ofInt x1)] (n := 3) (Nat.le_of_ble_eq_true rfl)
  rw [lg_entry_eq]
  generalize (lg_sl [.ref (base + (4 : Int).toNat), .int (Int32.ofInt x1)] ++ List.replicate (3 - (lg_sl [.ref (base + (4 : Int).toNat), .int (Int32.ofInt x1)]).length) Slot.unset).toArray = ls at hl ⊢
  have hl : lv_has ls 3 [(0, .ref (base + (4 : Int).toNat)), (1, .int (Int32.ofInt x1))] := hl
  unfold f_X0_goRound at hw
  exact u_X0_goRound_0 X hn σ x1 h_x1 _ (lv_sub hl [0, 1] rfl) hw s.heap [] hP va_S.rf hok hro
theorem dX11_rails_0 : decode cX11_rails 0 = .ok (.iload_n 1, 1) := by decide +kernel
theorem dX11_rails_1 : decode cX11_rails 1 = .ok (.iconst 2, 1) := by decide +kernel
theorem dX11_rails_2 : decode cX11_rails 2 = .ok (.if_icmp .lt 15, 3) := by decide +kernel
theorem dX11_rails_5 : decode cX11_rails 5 = .ok (.iload_n 1, 1) := by decide +kernel
theorem dX11_rails_6 : decode cX11_rails 6 = .ok (.iconst 5, 1) := by decide +kernel
theorem dX11_rails_7 : decode cX11_rails 7 = .ok (.if_icmp .gt 10, 3) := by decide +kernel
theorem dX11_rails_10 : decode cX11_rails 10 = .ok (.aload_n 0, 1) := by decide +kernel
theorem dX11_rails_11 : decode cX11_rails 11 = .ok (.getfield 86, 3) := by decide +kernel
theorem dX11_rails_14 : decode cX11_rails 14 = .ok (.ifCond .le 5, 3) := by decide +kernel
theorem dX11_rails_17 : decode cX11_rails 17 = .ok (.iconst 0, 1) := by decide +kernel
theorem dX11_rails_18 : decode cX11_rails 18 = .ok (.ireturn, 1) := by decide +kernel
theorem dX11_rails_19 : decode cX11_rails 19 = .ok (.aload_n 0, 1) := by decide +kernel
theorem dX11_rails_20 : decode cX11_rails 20 = .ok (.iload_n 1, 1) := by decide +kernel
theorem dX11_rails_21 : decode cX11_rails 21 = .ok (.putfield 82, 3) := by decide +kernel
theorem dX11_rails_24 : decode cX11_rails 24 = .ok (.aload_n 0, 1) := by decide +kernel
theorem dX11_rails_25 : decode cX11_rails 25 = .ok (.getfield 19, 3) := by decide +kernel
theorem dX11_rails_28 : decode cX11_rails 28 = .ok (.iload_n 1, 1) := by decide +kernel
theorem dX11_rails_29 : decode cX11_rails 29 = .ok (.invokevirtual 90, 3) := by decide +kernel
theorem dX11_rails_32 : decode cX11_rails 32 = .ok (.iconst 1, 1) := by decide +kernel
theorem dX11_rails_33 : decode cX11_rails 33 = .ok (.ireturn, 1) := by decide +kernel
def f_X11_rails_u17 (Q : Int → ml_St → Prop) (σ : ml_St) : Prop :=
Q 0 σ
def f_X11_rails_u0 (Q : Int → ml_St → Prop) (σ : ml_St) (x1 : Int) : Prop :=
(x1 < 2 →
f_X11_rails_u17 Q σ) ∧
(¬ (x1 < 2) →
(5 < x1 →
f_X11_rails_u17 Q σ) ∧
(¬ (5 < x1) →
∀ _ : I32 (σ 1 12),
(((σ 1 12) : Int) ≤ 0 →
∀ σ5, σ5 = ml_up σ 1 11 x1 →
f_X0_goRound σ5 x1 (fun σ6 =>
Q 1 σ6)) ∧
(¬ (((σ 1 12) : Int) ≤ 0) →
f_X11_rails_u17 Q σ)))
def f_X11_rails (σ : ml_St) (x1 : Int) (Q : Int → ml_St → Prop) : Prop := f_X11_rails_u0 Q σ x1
def rm_X11_rails : Room := { frames := 1, cells := 0, slots := 0, locals := 22 }
set_option maxRecDepth 100000 in
set_option maxHeartbeats 4000000 in
theorem u_X11_rails_17 {p : Program} {e : Env} {s : State} {m : MethodId} {args : Array Value} {below : List Frame} {meth : Method} {c : Code} {base : Nat} {D : va_G} {cA : Nat → ClassId} {n : Nat} {l : Launch} {Q : Int → ml_St → Prop} (X : ml_X p s m c meth args D cA cX11_rails 2 RX11 (some .boolean)) (hn : 214 ≤ n) (σ : ml_St) (ls : Array Slot) (hl : lv_has ls 2 []) (hw : f_X11_rails_u17 Q σ) : ml_V p l e rm_X11_rails s m args below meth c (MQ below (ml_Qi ml_B base D cA n Q) args s 0 0 (ml_A base)) base D cA 0 0 n n σ (F0 m 17 ls []) := by
  unfold f_X11_rails_u17 at hw
  refine ml_iconst (pc := 17) X dX11_rails_17 ?_
  exact ml_zret (pc := 18) X ⟨by decide, by decide⟩ hw dX11_rails_18
set_option maxRecDepth 100000 in
set_option maxHeartbeats 4000000 in
theorem u_X11_rails_0 {p : Program} {e : Env} {s : State} {m : MethodId} {args : Array Value} {below : List Frame} {meth : Method} {c : Code} {base : Nat} {D : va_G} {cA : Nat → ClassId} {n : Nat} {l : Launch} {Q : Int → ml_St → Prop} (X : ml_X p s m c meth args D cA cX11_rails 2 RX11 (some .boolean)) (hn : 214 ≤ n) (σ : ml_St) (x1 : Int) (h_x1 : I32 x1) (ls : Array Slot) (hl : lv_has ls 2 [(0, .ref (base + (1 : Int).toNat)), (1, .int (Int32.ofInt x1))]) (hw : f_X11_rails_u0 Q σ x1) : ml_V p l e rm_X11_rails s m args below meth c (MQ below (ml_Qi ml_B base D cA n Q) args s 0 0 (ml_A base)) base D cA 0 0 n n σ (F0 m 0 ls []) := by
  unfold f_X11_rails_u0 at hw
  refine ml_iload_n (pc := 0) X hl 1 rfl rfl dX11_rails_0 ?_
  refine ml_iconst (pc := 1) X dX11_rails_1 ?_
  refine ml_icmp_lt (pc := 2) (tgt := 17) X h_x1 ⟨by decide, by decide⟩ dX11_rails_2 (by decide) (fun c1 => ?_) (fun c1 => ?_)
  · have hw := hw.1 c1
    exact u_X11_rails_17 X hn σ   _ (lv_sub hl [] rfl) hw
  · have hw := hw.2 c1
    refine ml_iload_n (pc := 5) X hl 1 rfl rfl dX11_rails_5 ?_
    refine ml_iconst (pc := 6) X dX11_rails_6 ?_
    refine ml_icmp_gt (pc := 7) (tgt := 17) X h_x1 ⟨by decide, by decide⟩ dX11_rails_7 (by decide) (fun c2 => ?_) (fun c2 => ?_)
    · have hw := hw.1 c2
      exact u_X11_rails_17 X hn σ   _ (lv_sub hl [] rfl) hw
    · have hw := hw.2 c2
      refine ml_aload_n (pc := 10) X hl 0 rfl rfl dX11_rails_10 ?_
      refine gf_X11_86 (pc := 11) X (ml_c1 hn) dX11_rails_11 (fun r3 => ?_)
      have hw := hw r3
      refine ml_if_le (pc := 14) (tgt := 19) X r3 dX11_rails_14 (by decide) (fun c4 => ?_) (fun c4 => ?_)
      · have hw := hw.1 c4
        refine ml_aload_n (pc := 19) X hl 0 rfl rfl dX11_rails_19 ?_
        refine ml_iload_n (pc := 20) X hl 1 rfl rfl dX11_rails_20 ?_
        refine pf_X11_82 (pc := 21) X (ml_c1 hn) h_x1 dX11_rails_21 (fun σ5 g5 => ?_)
        have hw := hw σ5 g5
        refine ml_aload_n (pc := 24) X hl 0 rfl rfl dX11_rails_24 ?_
        refine gf_X11_19 (pc := 25) X (ml_c1 hn) dX11_rails_25 ?_
        refine ml_iload_n (pc := 28) X hl 1 rfl rfl dX11_rails_28 ?_
        refine ml_callvV (pc := 29) (rest := []) X [.int (Int32.ofInt x1)] (by decide) rfl (ml_c4 hn) (c_X0_goRound l base D cA n hn σ5 x1 h_x1 _ hw) cv_X11_90 ⟨rfl, rfl⟩ ⟨by decide, by decide⟩ rfl rfl hl (Nat.le_of_ble_eq_true rfl) ⟨Nat.zero_le _, Nat.zero_le _⟩ dX11_rails_29 (fun σ6 hw => ?_)
        refine ml_iconst (pc := 32) X dX11_rails_32 ?_
        exact ml_zret (pc := 33) X ⟨by decide, by decide⟩ hw dX11_rails_33
      · have hw := hw.2 c4
        exact u_X11_rails_17 X hn σ   _ (lv_sub hl [] rfl) hw
set_option maxRecDepth 100000 in
theorem c_X11_rails (l : Launch) (base : Nat) (D : va_G) (cA : Nat → ClassId) (n : Nat) (hn : 214 ≤ n) (σ : ml_St) (x1 : Int) (h_x1 : I32 x1) (Q : Int → ml_St → Prop) (hw : f_X11_rails σ x1 Q) : Met l yX11_rails (Cond.code yX11_rails cX11_rails 2 (some .boolean) :: ml_T) rm_X11_rails (va_Pc [.ref (base + (1 : Int).toNat), .int (Int32.ofInt x1)] (ml_U base D cA n σ)) (ml_Qi ml_B base D cA n Q) 0 0 (ml_A base) := by
  refine Met.ofW (cc := cX11_rails) (maxL := 2) (ret := (some .boolean)) (by decide) rfl ?_
  intro p e s m args below meth c s₁ B hml hv
  obtain ⟨rfl, hP, hK, hok, hro⟩ := hv
  have X : ml_X p s m c meth _ D cA cX11_rails 2 RX11 (some .boolean) := ⟨B.exec, B.bytes, hml, findClass_of_methodNamed B.named, fun w hw => atoms_spec (ws := Cond.code yX11_rails cX11_rails 2 (some .boolean) :: ml_T) B.pre w (List.mem_cons_of_mem _ hw), hK, B.notSynchronized, B.returns⟩
  have hl := lv_entry [.ref (base + (1 : Int).toNat), .int (Int32.ofInt x1)] (n := 2) (Nat.le_of_ble_eq_true rfl)
  rw [lg_entry_eq]
  generalize (lg_sl [.ref (base + (1 : Int).toNat), .int (Int32.ofInt x1)] ++ List.replicate (2 - (lg_sl [.ref (base + (1 : Int).toNat), .int (Int32.ofInt x1)]).length) Slot.unset).toArray = ls at hl ⊢
  have hl : lv_has ls 2 [(0, .ref (base + (1 : Int).toNat)), (1, .int (Int32.ofInt x1))] := hl
  unfold f_X11_rails at hw
  exact u_X11_rails_0 X hn σ x1 h_x1 _ (lv_sub hl [0, 1] rfl) hw s.heap [] hP va_S.rf hok hro
theorem dX8_add_0 : decode cX8_add 0 = .ok (.bipush 24, 2) := by decide +kernel
theorem dX8_add_2 : decode cX8_add 2 = .ok (.istore_n 2, 1) := by decide +kernel
theorem dX8_add_3 : decode cX8_add 3 = .ok (.iload_n 2, 1) := by decide +kernel
theorem dX8_add_4 : decode cX8_add 4 = .ok (.ifCond .lt 45, 3) := by decide +kernel
theorem dX8_add_7 : decode cX8_add 7 = .ok (.aload_n 0, 1) := by decide +kernel
theorem dX8_add_8 : decode cX8_add 8 = .ok (.getfield 15, 3) := by decide +kernel
theorem dX8_add_11 : decode cX8_add 11 = .ok (.sipush 200, 3) := by decide +kernel
theorem dX8_add_14 : decode cX8_add 14 = .ok (.if_icmp .ge 35, 3) := by decide +kernel
theorem dX8_add_17 : decode cX8_add 17 = .ok (.aload_n 0, 1) := by decide +kernel
theorem dX8_add_18 : decode cX8_add 18 = .ok (.getfield 9, 3) := by decide +kernel
theorem dX8_add_21 : decode cX8_add 21 = .ok (.aload_n 0, 1) := by decide +kernel
theorem dX8_add_22 : decode cX8_add 22 = .ok (.getfield 15, 3) := by decide +kernel
theorem dX8_add_25 : decode cX8_add 25 = .ok (.iload_n 1, 1) := by decide +kernel
theorem dX8_add_26 : decode cX8_add 26 = .ok (.iload_n 2, 1) := by decide +kernel
theorem dX8_add_27 : decode cX8_add 27 = .ok (.ishr, 1) := by decide +kernel
theorem dX8_add_28 : decode cX8_add 28 = .ok (.sipush 255, 3) := by decide +kernel
theorem dX8_add_31 : decode cX8_add 31 = .ok (.iand, 1) := by decide +kernel
theorem dX8_add_32 : decode cX8_add 32 = .ok (.iastore, 1) := by decide +kernel
theorem dX8_add_33 : decode cX8_add 33 = .ok (.aload_n 0, 1) := by decide +kernel
theorem dX8_add_34 : decode cX8_add 34 = .ok (.dup, 1) := by decide +kernel
theorem dX8_add_35 : decode cX8_add 35 = .ok (.getfield 15, 3) := by decide +kernel
theorem dX8_add_38 : decode cX8_add 38 = .ok (.iconst 1, 1) := by decide +kernel
theorem dX8_add_39 : decode cX8_add 39 = .ok (.iadd, 1) := by decide +kernel
theorem dX8_add_40 : decode cX8_add 40 = .ok (.putfield 15, 3) := by decide +kernel
theorem dX8_add_43 : decode cX8_add 43 = .ok (.iinc 2 (-8), 3) := by decide +kernel
theorem dX8_add_46 : decode cX8_add 46 = .ok (.goto (-43), 3) := by decide +kernel
theorem dX8_add_49 : decode cX8_add 49 = .ok (.return_, 1) := by decide +kernel
def f_X8_add_u3 (Q : ml_St → Prop) (K49 : ml_St → Prop) : Nat → ml_St → Int → Int → Prop
| 0, _, _, _ => False
| N + 1, σ, x1, x2 =>
(x2 < 0 →
K49 σ) ∧
(¬ (x2 < 0) →
∀ _ : I32 (σ 2 1),
(200 ≤ ((σ 2 1) : Int) →
K49 σ) ∧
(¬ (200 ≤ ((σ 2 1) : Int)) →
∀ _ : I32 (σ 2 1),
(0 : Int) ≤ (σ 2 1) ∧ ((σ 2 1) : Int) < 200 ∧
∀ σ5, σ5 = ml_up σ 3 (σ 2 1) (b_and (b_shr x1 x2) 255) →
∀ _ : I32 (σ5 2 1),
I32 ((σ5 2 1) + 1) ∧
∀ σ8, σ8 = ml_up σ5 2 1 ((σ5 2 1) + 1) →
I32 (x2 + (-8)) ∧
∀ y9 : Int, y9 = x2 + (-8) →
f_X8_add_u3 Q K49 N σ8 x1 y9))
def f_X8_add_u49 (Q : ml_St → Prop) (σ : ml_St) : Prop :=
Q σ
def f_X8_add_u0 (Q : ml_St → Prop) (σ : ml_St) (x1 : Int) : Prop :=
∃ N1, f_X8_add_u3 Q (f_X8_add_u49 Q) N1 σ x1 24
def f_X8_add (σ : ml_St) (x1 : Int) (Q : ml_St → Prop) : Prop := f_X8_add_u0 Q σ x1
def rm_X8_add : Room := { frames := 0, cells := 0, slots := 0, locals := 0 }
set_option maxRecDepth 100000 in
set_option maxHeartbeats 4000000 in
theorem u_X8_add_3 {p : Program} {e : Env} {s : State} {m : MethodId} {args : Array Value} {below : List Frame} {meth : Method} {c : Code} {base : Nat} {D : va_G} {cA : Nat → ClassId} {n : Nat} {l : Launch} {Q : ml_St → Prop} {K49 : ml_St → Prop} (X : ml_X p s m c meth args D cA cX8_add 3 RX8 none) (hn : 214 ≤ n) (hK49 : ∀ (σ : ml_St) (ls : Array Slot), lv_has ls 3 [] → K49 σ → ml_V p l e rm_X8_add s m args below meth c (MQ below (ml_Qv base D cA n Q) args s 0 0 (ml_A base)) base D cA 0 0 n n σ (F0 m 49 ls [])) : ∀ (N : Nat) (σ : ml_St) (x1 : Int) (x2 : Int) (h_x1 : I32 x1) (h_x2 : I32 x2) (ls : Array Slot), lv_has ls 3 [(0, .ref (base + (2 : Int).toNat)), (1, .int (Int32.ofInt x1)), (2, .int (Int32.ofInt x2))] → f_X8_add_u3 Q K49 N σ x1 x2 → ml_V p l e rm_X8_add s m args below meth c (MQ below (ml_Qv base D cA n Q) args s 0 0 (ml_A base)) base D cA 0 0 n n σ (F0 m 3 ls []) := by
  intro N
  induction N with
  | zero => intro σ x1 x2 h_x1 h_x2 ls hl hw; exact False.elim hw
  | succ N ih =>
    intro σ x1 x2 h_x1 h_x2 ls hl hw
    unfold f_X8_add_u3 at hw
    refine ml_iload_n (pc := 3) X hl 2 rfl rfl dX8_add_3 ?_
    refine ml_if_lt (pc := 4) (tgt := 49) X h_x2 dX8_add_4 (by decide) (fun c1 => ?_) (fun c1 => ?_)
    · have hw := hw.1 c1
      exact hK49 σ   _ (lv_sub hl [] rfl) hw
    · have hw := hw.2 c1
      refine ml_aload_n (pc := 7) X hl 0 rfl rfl dX8_add_7 ?_
      refine gf_X8_15 (pc := 8) X (ml_c2 hn) dX8_add_8 (fun r2 => ?_)
      have hw := hw r2
      refine ml_sipush (pc := 11) X dX8_add_11 (by decide) ?_
      refine ml_icmp_ge (pc := 14) (tgt := 49) X r2 ⟨by decide, by decide⟩ dX8_add_14 (by decide) (fun c3 => ?_) (fun c3 => ?_)
      · have hw := hw.1 c3
        exact hK49 σ   _ (lv_sub hl [] rfl) hw
      · have hw := hw.2 c3
        refine ml_aload_n (pc := 17) X hl 0 rfl rfl dX8_add_17 ?_
        refine gf_X8_9 (pc := 18) X (ml_c2 hn) dX8_add_18 ?_
        refine ml_aload_n (pc := 21) X hl 0 rfl rfl dX8_add_21 ?_
        refine gf_X8_15 (pc := 22) X (ml_c2 hn) dX8_add_22 (fun r4 => ?_)
        have hw := hw r4
        refine ml_iload_n (pc := 25) X hl 1 rfl rfl dX8_add_25 ?_
        refine ml_iload_n (pc := 26) X hl 2 rfl rfl dX8_add_26 ?_
        refine ml_ishr (pc := 27) X dX8_add_27 ?_
        refine ml_sipush (pc := 28) X dX8_add_28 (by decide) ?_
        refine ml_iand (pc := 31) X dX8_add_31 ?_
        obtain ⟨a5, b5, hw⟩ := hw
        refine ml_iast (pc := 32) (N := 200) X (ml_c3 hn) a5 b5 (b_and_r _ _) dX8_add_32 (fun σ5 g5 => ?_)
        have hw := hw σ5 g5
        refine ml_aload_n (pc := 33) X hl 0 rfl rfl dX8_add_33 ?_
        refine ml_dup (pc := 34) X dX8_add_34 rfl ?_
        refine gf_X8_15 (pc := 35) X (ml_c2 hn) dX8_add_35 (fun r6 => ?_)
        have hw := hw r6
        refine ml_iconst (pc := 38) X dX8_add_38 ?_
        obtain ⟨v7, hw⟩ := hw
        refine ml_iadd (pc := 39) X dX8_add_39 ?_
        refine pf_X8_15 (pc := 40) X (ml_c2 hn) v7 dX8_add_40 (fun σ8 g8 => ?_)
        have hw := hw σ8 g8
        obtain ⟨v9, hw⟩ := hw
        obtain ⟨y9, e9⟩ : ∃ y : Int, y = x2 + (-8) := ⟨_, rfl⟩
        have hw := hw y9 e9
        rw [← e9] at v9
        refine ml_iinc (pc := 43) X e9 hl 2 rfl (by decide) (lst' := [(2, .int (Int32.ofInt y9)), (0, .ref (base + (2 : Int).toNat)), (1, .int (Int32.ofInt x1))]) rfl dX8_add_43 (fun ls hl => ?_)
        refine ml_goto (pc := 46) (tgt := 3) X dX8_add_46 (by decide) ?_
        exact ih σ8 x1 y9 h_x1 v9 _ (lv_sub hl [1, 2, 0] rfl) hw
set_option maxRecDepth 100000 in
set_option maxHeartbeats 4000000 in
theorem u_X8_add_49 {p : Program} {e : Env} {s : State} {m : MethodId} {args : Array Value} {below : List Frame} {meth : Method} {c : Code} {base : Nat} {D : va_G} {cA : Nat → ClassId} {n : Nat} {l : Launch} {Q : ml_St → Prop} (X : ml_X p s m c meth args D cA cX8_add 3 RX8 none) (hn : 214 ≤ n) (σ : ml_St) (ls : Array Slot) (hl : lv_has ls 3 []) (hw : f_X8_add_u49 Q σ) : ml_V p l e rm_X8_add s m args below meth c (MQ below (ml_Qv base D cA n Q) args s 0 0 (ml_A base)) base D cA 0 0 n n σ (F0 m 49 ls []) := by
  unfold f_X8_add_u49 at hw
  exact ml_vret (pc := 49) X hw dX8_add_49
set_option maxRecDepth 100000 in
set_option maxHeartbeats 4000000 in
theorem u_X8_add_0 {p : Program} {e : Env} {s : State} {m : MethodId} {args : Array Value} {below : List Frame} {meth : Method} {c : Code} {base : Nat} {D : va_G} {cA : Nat → ClassId} {n : Nat} {l : Launch} {Q : ml_St → Prop} (X : ml_X p s m c meth args D cA cX8_add 3 RX8 none) (hn : 214 ≤ n) (σ : ml_St) (x1 : Int) (h_x1 : I32 x1) (ls : Array Slot) (hl : lv_has ls 3 [(0, .ref (base + (2 : Int).toNat)), (1, .int (Int32.ofInt x1))]) (hw : f_X8_add_u0 Q σ x1) : ml_V p l e rm_X8_add s m args below meth c (MQ below (ml_Qv base D cA n Q) args s 0 0 (ml_A base)) base D cA 0 0 n n σ (F0 m 0 ls []) := by
  unfold f_X8_add_u0 at hw
  refine ml_bipush (pc := 0) X dX8_add_0 (by decide) ?_
  refine ml_istore_n (pc := 2) X rfl hl (by decide) (lst' := [(2, .int (Int32.ofInt 24)), (0, .ref (base + (2 : Int).toNat)), (1, .int (Int32.ofInt x1))]) rfl dX8_add_2 (fun ls hl => ?_)
  obtain ⟨N0, hw⟩ := hw
  exact u_X8_add_3 X hn (fun σ   ls hl hw => u_X8_add_49 X hn σ   ls hl hw) N0 σ x1 24 h_x1 ⟨by decide, by decide⟩ _ (lv_sub hl [1, 2, 0] rfl) hw
set_option maxRecDepth 100000 in
theorem c_X8_add (l : Launch) (base : Nat) (D : va_G) (cA : Nat → ClassId) (n : Nat) (hn : 214 ≤ n) (σ : ml_St) (x1 : Int) (h_x1 : I32 x1) (Q : ml_St → Prop) (hw : f_X8_add σ x1 Q) : Met l yX8_add (Cond.code yX8_add cX8_add 3 none :: ml_T) rm_X8_add (va_Pc [.ref (base + (2 : Int).toNat), .int (Int32.ofInt x1)] (ml_U base D cA n σ)) (ml_Qv base D cA n Q) 0 0 (ml_A base) := by
  refine Met.ofW (cc := cX8_add) (maxL := 3) (ret := none) (by decide) rfl ?_
  intro p e s m args below meth c s₁ B hml hv
  obtain ⟨rfl, hP, hK, hok, hro⟩ := hv
  have X : ml_X p s m c meth _ D cA cX8_add 3 RX8 none := ⟨B.exec, B.bytes, hml, findClass_of_methodNamed B.named, fun w hw => atoms_spec (ws := Cond.code yX8_add cX8_add 3 none :: ml_T) B.pre w (List.mem_cons_of_mem _ hw), hK, B.notSynchronized, B.returns⟩
  have hl := lv_entry [.ref (base + (2 : Int).toNat), .int (Int32.ofInt x1)] (n := 3) (Nat.le_of_ble_eq_true rfl)
  rw [lg_entry_eq]
  generalize (lg_sl [.ref (base + (2 : Int).toNat), .int (Int32.ofInt x1)] ++ List.replicate (3 - (lg_sl [.ref (base + (2 : Int).toNat), .int (Int32.ofInt x1)]).length) Slot.unset).toArray = ls at hl ⊢
  have hl : lv_has ls 3 [(0, .ref (base + (2 : Int).toNat)), (1, .int (Int32.ofInt x1))] := hl
  unfold f_X8_add at hw
  exact u_X8_add_0 X hn σ x1 h_x1 _ (lv_sub hl [0, 1] rfl) hw s.heap [] hP va_S.rf hok hro
theorem dX11_feed_0 : decode cX11_feed 0 = .ok (.aload_n 0, 1) := by decide +kernel
theorem dX11_feed_1 : decode cX11_feed 1 = .ok (.getfield 10, 3) := by decide +kernel
theorem dX11_feed_4 : decode cX11_feed 4 = .ok (.getfield 94, 3) := by decide +kernel
theorem dX11_feed_7 : decode cX11_feed 7 = .ok (.bipush 20, 2) := by decide +kernel
theorem dX11_feed_9 : decode cX11_feed 9 = .ok (.iadd, 1) := by decide +kernel
theorem dX11_feed_10 : decode cX11_feed 10 = .ok (.sipush 200, 3) := by decide +kernel
theorem dX11_feed_13 : decode cX11_feed 13 = .ok (.if_icmp .le 5, 3) := by decide +kernel
theorem dX11_feed_16 : decode cX11_feed 16 = .ok (.iconst (-1), 1) := by decide +kernel
theorem dX11_feed_17 : decode cX11_feed 17 = .ok (.ireturn, 1) := by decide +kernel
theorem dX11_feed_18 : decode cX11_feed 18 = .ok (.aload_n 0, 1) := by decide +kernel
theorem dX11_feed_19 : decode cX11_feed 19 = .ok (.getfield 10, 3) := by decide +kernel
theorem dX11_feed_22 : decode cX11_feed 22 = .ok (.iload_n 1, 1) := by decide +kernel
theorem dX11_feed_23 : decode cX11_feed 23 = .ok (.invokevirtual 97, 3) := by decide +kernel
theorem dX11_feed_26 : decode cX11_feed 26 = .ok (.aload_n 0, 1) := by decide +kernel
theorem dX11_feed_27 : decode cX11_feed 27 = .ok (.getfield 10, 3) := by decide +kernel
theorem dX11_feed_30 : decode cX11_feed 30 = .ok (.iload_n 2, 1) := by decide +kernel
theorem dX11_feed_31 : decode cX11_feed 31 = .ok (.invokevirtual 97, 3) := by decide +kernel
theorem dX11_feed_34 : decode cX11_feed 34 = .ok (.aload_n 0, 1) := by decide +kernel
theorem dX11_feed_35 : decode cX11_feed 35 = .ok (.getfield 10, 3) := by decide +kernel
theorem dX11_feed_38 : decode cX11_feed 38 = .ok (.iload_n 3, 1) := by decide +kernel
theorem dX11_feed_39 : decode cX11_feed 39 = .ok (.invokevirtual 97, 3) := by decide +kernel
theorem dX11_feed_42 : decode cX11_feed 42 = .ok (.aload_n 0, 1) := by decide +kernel
theorem dX11_feed_43 : decode cX11_feed 43 = .ok (.getfield 10, 3) := by decide +kernel
theorem dX11_feed_46 : decode cX11_feed 46 = .ok (.iload 4, 2) := by decide +kernel
theorem dX11_feed_48 : decode cX11_feed 48 = .ok (.invokevirtual 97, 3) := by decide +kernel
theorem dX11_feed_51 : decode cX11_feed 51 = .ok (.aload_n 0, 1) := by decide +kernel
theorem dX11_feed_52 : decode cX11_feed 52 = .ok (.getfield 10, 3) := by decide +kernel
theorem dX11_feed_55 : decode cX11_feed 55 = .ok (.iload 5, 2) := by decide +kernel
theorem dX11_feed_57 : decode cX11_feed 57 = .ok (.invokevirtual 97, 3) := by decide +kernel
theorem dX11_feed_60 : decode cX11_feed 60 = .ok (.aload_n 0, 1) := by decide +kernel
theorem dX11_feed_61 : decode cX11_feed 61 = .ok (.getfield 10, 3) := by decide +kernel
theorem dX11_feed_64 : decode cX11_feed 64 = .ok (.getfield 94, 3) := by decide +kernel
theorem dX11_feed_67 : decode cX11_feed 67 = .ok (.ireturn, 1) := by decide +kernel
def f_X11_feed_u0 (Q : Int → ml_St → Prop) (σ : ml_St) (x1 : Int) (x2 : Int) (x3 : Int) (x4 : Int) (x5 : Int) : Prop :=
∀ _ : I32 (σ 2 1),
I32 ((σ 2 1) + 20) ∧
((((σ 2 1) + 20) : Int) ≤ 200 →
f_X8_add σ x1 (fun σ4 =>
f_X8_add σ4 x2 (fun σ5 =>
f_X8_add σ5 x3 (fun σ6 =>
f_X8_add σ6 x4 (fun σ7 =>
f_X8_add σ7 x5 (fun σ8 =>
∀ _ : I32 (σ8 2 1),
Q (σ8 2 1) σ8)))))) ∧
(¬ ((((σ 2 1) + 20) : Int) ≤ 200) →
Q (-1) σ)
def f_X11_feed (σ : ml_St) (x1 : Int) (x2 : Int) (x3 : Int) (x4 : Int) (x5 : Int) (Q : Int → ml_St → Prop) : Prop := f_X11_feed_u0 Q σ x1 x2 x3 x4 x5
def rm_X11_feed : Room := { frames := 1, cells := 0, slots := 0, locals := 22 }
set_option maxRecDepth 100000 in
set_option maxHeartbeats 4000000 in
theorem u_X11_feed_0 {p : Program} {e : Env} {s : State} {m : MethodId} {args : Array Value} {below : List Frame} {meth : Method} {c : Code} {base : Nat} {D : va_G} {cA : Nat → ClassId} {n : Nat} {l : Launch} {Q : Int → ml_St → Prop} (X : ml_X p s m c meth args D cA cX11_feed 6 RX11 (some .int)) (hn : 214 ≤ n) (σ : ml_St) (x1 : Int) (x2 : Int) (x3 : Int) (x4 : Int) (x5 : Int) (h_x1 : I32 x1) (h_x2 : I32 x2) (h_x3 : I32 x3) (h_x4 : I32 x4) (h_x5 : I32 x5) (ls : Array Slot) (hl : lv_has ls 6 [(0, .ref (base + (1 : Int).toNat)), (1, .int (Int32.ofInt x1)), (2, .int (Int32.ofInt x2)), (3, .int (Int32.ofInt x3)), (4, .int (Int32.ofInt x4)), (5, .int (Int32.ofInt x5))]) (hw : f_X11_feed_u0 Q σ x1 x2 x3 x4 x5) : ml_V p l e rm_X11_feed s m args below meth c (MQ below (ml_Qi I32 base D cA n Q) args s 0 0 (ml_A base)) base D cA 0 0 n n σ (F0 m 0 ls []) := by
  unfold f_X11_feed_u0 at hw
  refine ml_aload_n (pc := 0) X hl 0 rfl rfl dX11_feed_0 ?_
  refine gf_X11_10 (pc := 1) X (ml_c1 hn) dX11_feed_1 ?_
  refine gf_X11_94 (pc := 4) X (ml_c2 hn) dX11_feed_4 (fun r1 => ?_)
  have hw := hw r1
  refine ml_bipush (pc := 7) X dX11_feed_7 (by decide) ?_
  obtain ⟨v2, hw⟩ := hw
  refine ml_iadd (pc := 9) X dX11_feed_9 ?_
  refine ml_sipush (pc := 10) X dX11_feed_10 (by decide) ?_
  refine ml_icmp_le (pc := 13) (tgt := 18) X v2 ⟨by decide, by decide⟩ dX11_feed_13 (by decide) (fun c3 => ?_) (fun c3 => ?_)
  · have hw := hw.1 c3
    refine ml_aload_n (pc := 18) X hl 0 rfl rfl dX11_feed_18 ?_
    refine gf_X11_10 (pc := 19) X (ml_c1 hn) dX11_feed_19 ?_
    refine ml_iload_n (pc := 22) X hl 1 rfl rfl dX11_feed_22 ?_
    refine ml_callvV (pc := 23) (rest := []) X [.int (Int32.ofInt x1)] (by decide) rfl (ml_c2 hn) (c_X8_add l base D cA n hn σ x1 h_x1 _ hw) cv_X11_97 ⟨rfl, rfl⟩ ⟨by decide, by decide⟩ rfl rfl hl (Nat.le_of_ble_eq_true rfl) ⟨Nat.zero_le _, Nat.zero_le _⟩ dX11_feed_23 (fun σ4 hw => ?_)
    refine ml_aload_n (pc := 26) X hl 0 rfl rfl dX11_feed_26 ?_
    refine gf_X11_10 (pc := 27) X (ml_c1 hn) dX11_feed_27 ?_
    refine ml_iload_n (pc := 30) X hl 2 rfl rfl dX11_feed_30 ?_
    refine ml_callvV (pc := 31) (rest := []) X [.int (Int32.ofInt x2)] (by decide) rfl (ml_c2 hn) (c_X8_add l base D cA n hn σ4 x2 h_x2 _ hw) cv_X11_97 ⟨rfl, rfl⟩ ⟨by decide, by decide⟩ rfl rfl hl (Nat.le_of_ble_eq_true rfl) ⟨Nat.zero_le _, Nat.zero_le _⟩ dX11_feed_31 (fun σ5 hw => ?_)
    refine ml_aload_n (pc := 34) X hl 0 rfl rfl dX11_feed_34 ?_
    refine gf_X11_10 (pc := 35) X (ml_c1 hn) dX11_feed_35 ?_
    refine ml_iload_n (pc := 38) X hl 3 rfl rfl dX11_feed_38 ?_
    refine ml_callvV (pc := 39) (rest := []) X [.int (Int32.ofInt x3)] (by decide) rfl (ml_c2 hn) (c_X8_add l base D cA n hn σ5 x3 h_x3 _ hw) cv_X11_97 ⟨rfl, rfl⟩ ⟨by decide, by decide⟩ rfl rfl hl (Nat.le_of_ble_eq_true rfl) ⟨Nat.zero_le _, Nat.zero_le _⟩ dX11_feed_39 (fun σ6 hw => ?_)
    refine ml_aload_n (pc := 42) X hl 0 rfl rfl dX11_feed_42 ?_
    refine gf_X11_10 (pc := 43) X (ml_c1 hn) dX11_feed_43 ?_
    refine ml_iload (pc := 46) X hl 4 rfl dX11_feed_46 ?_
    refine ml_callvV (pc := 48) (rest := []) X [.int (Int32.ofInt x4)] (by decide) rfl (ml_c2 hn) (c_X8_add l base D cA n hn σ6 x4 h_x4 _ hw) cv_X11_97 ⟨rfl, rfl⟩ ⟨by decide, by decide⟩ rfl rfl hl (Nat.le_of_ble_eq_true rfl) ⟨Nat.zero_le _, Nat.zero_le _⟩ dX11_feed_48 (fun σ7 hw => ?_)
    refine ml_aload_n (pc := 51) X hl 0 rfl rfl dX11_feed_51 ?_
    refine gf_X11_10 (pc := 52) X (ml_c1 hn) dX11_feed_52 ?_
    refine ml_iload (pc := 55) X hl 5 rfl dX11_feed_55 ?_
    refine ml_callvV (pc := 57) (rest := []) X [.int (Int32.ofInt x5)] (by decide) rfl (ml_c2 hn) (c_X8_add l base D cA n hn σ7 x5 h_x5 _ hw) cv_X11_97 ⟨rfl, rfl⟩ ⟨by decide, by decide⟩ rfl rfl hl (Nat.le_of_ble_eq_true rfl) ⟨Nat.zero_le _, Nat.zero_le _⟩ dX11_feed_57 (fun σ8 hw => ?_)
    refine ml_aload_n (pc := 60) X hl 0 rfl rfl dX11_feed_60 ?_
    refine gf_X11_10 (pc := 61) X (ml_c1 hn) dX11_feed_61 ?_
    refine gf_X11_94 (pc := 64) X (ml_c2 hn) dX11_feed_64 (fun r9 => ?_)
    have hw := hw r9
    exact ml_iret (pc := 67) X r9 hw dX11_feed_67
  · have hw := hw.2 c3
    refine ml_iconst (pc := 16) X dX11_feed_16 ?_
    exact ml_iret (pc := 17) X ⟨by decide, by decide⟩ hw dX11_feed_17
set_option maxRecDepth 100000 in
theorem c_X11_feed (l : Launch) (base : Nat) (D : va_G) (cA : Nat → ClassId) (n : Nat) (hn : 214 ≤ n) (σ : ml_St) (x1 : Int) (x2 : Int) (x3 : Int) (x4 : Int) (x5 : Int) (h_x1 : I32 x1) (h_x2 : I32 x2) (h_x3 : I32 x3) (h_x4 : I32 x4) (h_x5 : I32 x5) (Q : Int → ml_St → Prop) (hw : f_X11_feed σ x1 x2 x3 x4 x5 Q) : Met l yX11_feed (Cond.code yX11_feed cX11_feed 6 (some .int) :: ml_T) rm_X11_feed (va_Pc [.ref (base + (1 : Int).toNat), .int (Int32.ofInt x1), .int (Int32.ofInt x2), .int (Int32.ofInt x3), .int (Int32.ofInt x4), .int (Int32.ofInt x5)] (ml_U base D cA n σ)) (ml_Qi I32 base D cA n Q) 0 0 (ml_A base) := by
  refine Met.ofW (cc := cX11_feed) (maxL := 6) (ret := (some .int)) (by decide) rfl ?_
  intro p e s m args below meth c s₁ B hml hv
  obtain ⟨rfl, hP, hK, hok, hro⟩ := hv
  have X : ml_X p s m c meth _ D cA cX11_feed 6 RX11 (some .int) := ⟨B.exec, B.bytes, hml, findClass_of_methodNamed B.named, fun w hw => atoms_spec (ws := Cond.code yX11_feed cX11_feed 6 (some .int) :: ml_T) B.pre w (List.mem_cons_of_mem _ hw), hK, B.notSynchronized, B.returns⟩
  have hl := lv_entry [.ref (base + (1 : Int).toNat), .int (Int32.ofInt x1), .int (Int32.ofInt x2), .int (Int32.ofInt x3), .int (Int32.ofInt x4), .int (Int32.ofInt x5)] (n := 6) (Nat.le_of_ble_eq_true rfl)
  rw [lg_entry_eq]
  generalize (lg_sl [.ref (base + (1 : Int).toNat), .int (Int32.ofInt x1), .int (Int32.ofInt x2), .int (Int32.ofInt x3), .int (Int32.ofInt x4), .int (Int32.ofInt x5)] ++ List.replicate (6 - (lg_sl [.ref (base + (1 : Int).toNat), .int (Int32.ofInt x1), .int (Int32.ofInt x2), .int (Int32.ofInt x3), .int (Int32.ofInt x4), .int (Int32.ofInt x5)]).length) Slot.unset).toArray = ls at hl ⊢
  have hl : lv_has ls 6 [(0, .ref (base + (1 : Int).toNat)), (1, .int (Int32.ofInt x1)), (2, .int (Int32.ofInt x2)), (3, .int (Int32.ofInt x3)), (4, .int (Int32.ofInt x4)), (5, .int (Int32.ofInt x5))] := hl
  unfold f_X11_feed at hw
  exact u_X11_feed_0 X hn σ x1 x2 x3 x4 x5 h_x1 h_x2 h_x3 h_x4 h_x5 _ (lv_sub hl [0, 1, 2, 3, 4, 5] rfl) hw s.heap [] hP va_S.rf hok hro
theorem dX2_isDigit_0 : decode cX2_isDigit 0 = .ok (.iload_n 0, 1) := by decide +kernel
theorem dX2_isDigit_1 : decode cX2_isDigit 1 = .ok (.bipush 48, 2) := by decide +kernel
theorem dX2_isDigit_3 : decode cX2_isDigit 3 = .ok (.if_icmp .lt 13, 3) := by decide +kernel
theorem dX2_isDigit_6 : decode cX2_isDigit 6 = .ok (.iload_n 0, 1) := by decide +kernel
theorem dX2_isDigit_7 : decode cX2_isDigit 7 = .ok (.bipush 57, 2) := by decide +kernel
theorem dX2_isDigit_9 : decode cX2_isDigit 9 = .ok (.if_icmp .gt 7, 3) := by decide +kernel
theorem dX2_isDigit_12 : decode cX2_isDigit 12 = .ok (.iconst 1, 1) := by decide +kernel
theorem dX2_isDigit_13 : decode cX2_isDigit 13 = .ok (.goto 4, 3) := by decide +kernel
theorem dX2_isDigit_16 : decode cX2_isDigit 16 = .ok (.iconst 0, 1) := by decide +kernel
theorem dX2_isDigit_17 : decode cX2_isDigit 17 = .ok (.ireturn, 1) := by decide +kernel
def f_X2_isDigit_u17 (Q : Int → ml_St → Prop) (σ : ml_St) (s0 : Int) : Prop :=
Q s0 σ
def f_X2_isDigit_u16 (Q : Int → ml_St → Prop) (σ : ml_St) : Prop :=
f_X2_isDigit_u17 Q σ 0
def f_X2_isDigit_u0 (Q : Int → ml_St → Prop) (σ : ml_St) (x0 : Int) : Prop :=
(x0 < 48 →
f_X2_isDigit_u16 Q σ) ∧
(¬ (x0 < 48) →
(57 < x0 →
f_X2_isDigit_u16 Q σ) ∧
(¬ (57 < x0) →
f_X2_isDigit_u17 Q σ 1))
def f_X2_isDigit (σ : ml_St) (x0 : Int) (Q : Int → ml_St → Prop) : Prop := f_X2_isDigit_u0 Q σ x0
def rm_X2_isDigit : Room := { frames := 0, cells := 0, slots := 0, locals := 0 }
set_option maxRecDepth 100000 in
set_option maxHeartbeats 4000000 in
theorem u_X2_isDigit_17 {p : Program} {e : Env} {s : State} {m : MethodId} {args : Array Value} {below : List Frame} {meth : Method} {c : Code} {base : Nat} {D : va_G} {cA : Nat → ClassId} {n : Nat} {l : Launch} {Q : Int → ml_St → Prop} (X : ml_X p s m c meth args D cA cX2_isDigit 1 RX2 (some .boolean)) (hn : 214 ≤ n) (σ : ml_St) (s0 : Int) (h_s0 : ml_B s0) (ls : Array Slot) (hl : lv_has ls 1 []) (hw : f_X2_isDigit_u17 Q σ s0) : ml_V p l e rm_X2_isDigit s m args below meth c (MQ below (ml_Qi ml_B base D cA n Q) args s 0 0 (ml_A base)) base D cA 0 0 n n σ (F0 m 17 ls [.int (Int32.ofInt s0)]) := by
  unfold f_X2_isDigit_u17 at hw
  exact ml_zret (pc := 17) X h_s0 hw dX2_isDigit_17
set_option maxRecDepth 100000 in
set_option maxHeartbeats 4000000 in
theorem u_X2_isDigit_16 {p : Program} {e : Env} {s : State} {m : MethodId} {args : Array Value} {below : List Frame} {meth : Method} {c : Code} {base : Nat} {D : va_G} {cA : Nat → ClassId} {n : Nat} {l : Launch} {Q : Int → ml_St → Prop} (X : ml_X p s m c meth args D cA cX2_isDigit 1 RX2 (some .boolean)) (hn : 214 ≤ n) (σ : ml_St) (ls : Array Slot) (hl : lv_has ls 1 []) (hw : f_X2_isDigit_u16 Q σ) : ml_V p l e rm_X2_isDigit s m args below meth c (MQ below (ml_Qi ml_B base D cA n Q) args s 0 0 (ml_A base)) base D cA 0 0 n n σ (F0 m 16 ls []) := by
  unfold f_X2_isDigit_u16 at hw
  refine ml_iconst (pc := 16) X dX2_isDigit_16 ?_
  exact u_X2_isDigit_17 X hn σ 0 ⟨by decide, by decide⟩ _ (lv_sub hl [] rfl) hw
set_option maxRecDepth 100000 in
set_option maxHeartbeats 4000000 in
theorem u_X2_isDigit_0 {p : Program} {e : Env} {s : State} {m : MethodId} {args : Array Value} {below : List Frame} {meth : Method} {c : Code} {base : Nat} {D : va_G} {cA : Nat → ClassId} {n : Nat} {l : Launch} {Q : Int → ml_St → Prop} (X : ml_X p s m c meth args D cA cX2_isDigit 1 RX2 (some .boolean)) (hn : 214 ≤ n) (σ : ml_St) (x0 : Int) (h_x0 : I32 x0) (ls : Array Slot) (hl : lv_has ls 1 [(0, .int (Int32.ofInt x0))]) (hw : f_X2_isDigit_u0 Q σ x0) : ml_V p l e rm_X2_isDigit s m args below meth c (MQ below (ml_Qi ml_B base D cA n Q) args s 0 0 (ml_A base)) base D cA 0 0 n n σ (F0 m 0 ls []) := by
  unfold f_X2_isDigit_u0 at hw
  refine ml_iload_n (pc := 0) X hl 0 rfl rfl dX2_isDigit_0 ?_
  refine ml_bipush (pc := 1) X dX2_isDigit_1 (by decide) ?_
  refine ml_icmp_lt (pc := 3) (tgt := 16) X h_x0 ⟨by decide, by decide⟩ dX2_isDigit_3 (by decide) (fun c1 => ?_) (fun c1 => ?_)
  · have hw := hw.1 c1
    exact u_X2_isDigit_16 X hn σ   _ (lv_sub hl [] rfl) hw
  · have hw := hw.2 c1
    refine ml_iload_n (pc := 6) X hl 0 rfl rfl dX2_isDigit_6 ?_
    refine ml_bipush (pc := 7) X dX2_isDigit_7 (by decide) ?_
    refine ml_icmp_gt (pc := 9) (tgt := 16) X h_x0 ⟨by decide, by decide⟩ dX2_isDigit_9 (by decide) (fun c2 => ?_) (fun c2 => ?_)
    · have hw := hw.1 c2
      exact u_X2_isDigit_16 X hn σ   _ (lv_sub hl [] rfl) hw
    · have hw := hw.2 c2
      refine ml_iconst (pc := 12) X dX2_isDigit_12 ?_
      refine ml_goto (pc := 13) (tgt := 17) X dX2_isDigit_13 (by decide) ?_
      exact u_X2_isDigit_17 X hn σ 1 ⟨by decide, by decide⟩ _ (lv_sub hl [] rfl) hw
set_option maxRecDepth 100000 in
theorem c_X2_isDigit (l : Launch) (base : Nat) (D : va_G) (cA : Nat → ClassId) (n : Nat) (hn : 214 ≤ n) (σ : ml_St) (x0 : Int) (h_x0 : I32 x0) (Q : Int → ml_St → Prop) (hw : f_X2_isDigit σ x0 Q) : Met l yX2_isDigit (Cond.code yX2_isDigit cX2_isDigit 1 (some .boolean) :: ml_T) rm_X2_isDigit (va_Pc [.int (Int32.ofInt x0)] (ml_U base D cA n σ)) (ml_Qi ml_B base D cA n Q) 0 0 (ml_A base) := by
  refine Met.ofW (cc := cX2_isDigit) (maxL := 1) (ret := (some .boolean)) (by decide) rfl ?_
  intro p e s m args below meth c s₁ B hml hv
  obtain ⟨rfl, hP, hK, hok, hro⟩ := hv
  have X : ml_X p s m c meth _ D cA cX2_isDigit 1 RX2 (some .boolean) := ⟨B.exec, B.bytes, hml, findClass_of_methodNamed B.named, fun w hw => atoms_spec (ws := Cond.code yX2_isDigit cX2_isDigit 1 (some .boolean) :: ml_T) B.pre w (List.mem_cons_of_mem _ hw), hK, B.notSynchronized, B.returns⟩
  have hl := lv_entry [.int (Int32.ofInt x0)] (n := 1) (Nat.le_of_ble_eq_true rfl)
  rw [lg_entry_eq]
  generalize (lg_sl [.int (Int32.ofInt x0)] ++ List.replicate (1 - (lg_sl [.int (Int32.ofInt x0)]).length) Slot.unset).toArray = ls at hl ⊢
  have hl : lv_has ls 1 [(0, .int (Int32.ofInt x0))] := hl
  unfold f_X2_isDigit at hw
  exact u_X2_isDigit_0 X hn σ x0 h_x0 _ (lv_sub hl [0] rfl) hw s.heap [] hP va_S.rf hok hro
theorem dX10_setText_0 : decode cX10_setText 0 = .ok (.aload_n 1, 1) := by decide +kernel
theorem dX10_setText_1 : decode cX10_setText 1 = .ok (.iconst 0, 1) := by decide +kernel
theorem dX10_setText_2 : decode cX10_setText 2 = .ok (.aload_n 0, 1) := by decide +kernel
theorem dX10_setText_3 : decode cX10_setText 3 = .ok (.getfield 9, 3) := by decide +kernel
theorem dX10_setText_6 : decode cX10_setText 6 = .ok (.iconst 0, 1) := by decide +kernel
theorem dX10_setText_7 : decode cX10_setText 7 = .ok (.iload_n 2, 1) := by decide +kernel
theorem dX10_setText_8 : decode cX10_setText 8 = .ok (.invokestatic 42, 3) := by decide +kernel
theorem dX10_setText_11 : decode cX10_setText 11 = .ok (.aload_n 0, 1) := by decide +kernel
theorem dX10_setText_12 : decode cX10_setText 12 = .ok (.iload_n 2, 1) := by decide +kernel
theorem dX10_setText_13 : decode cX10_setText 13 = .ok (.putfield 15, 3) := by decide +kernel
theorem dX10_setText_16 : decode cX10_setText 16 = .ok (.aload_n 0, 1) := by decide +kernel
theorem dX10_setText_17 : decode cX10_setText 17 = .ok (.iconst 1, 1) := by decide +kernel
theorem dX10_setText_18 : decode cX10_setText 18 = .ok (.putfield 19, 3) := by decide +kernel
theorem dX10_setText_21 : decode cX10_setText 21 = .ok (.iconst 0, 1) := by decide +kernel
theorem dX10_setText_22 : decode cX10_setText 22 = .ok (.istore_n 3, 1) := by decide +kernel
theorem dX10_setText_23 : decode cX10_setText 23 = .ok (.iload_n 3, 1) := by decide +kernel
theorem dX10_setText_24 : decode cX10_setText 24 = .ok (.iload_n 2, 1) := by decide +kernel
theorem dX10_setText_25 : decode cX10_setText 25 = .ok (.if_icmp .ge 59, 3) := by decide +kernel
theorem dX10_setText_28 : decode cX10_setText 28 = .ok (.aload_n 0, 1) := by decide +kernel
theorem dX10_setText_29 : decode cX10_setText 29 = .ok (.aload_n 0, 1) := by decide +kernel
theorem dX10_setText_30 : decode cX10_setText 30 = .ok (.getfield 19, 3) := by decide +kernel
theorem dX10_setText_33 : decode cX10_setText 33 = .ok (.ifCond .eq 41, 3) := by decide +kernel
theorem dX10_setText_36 : decode cX10_setText 36 = .ok (.aload_n 0, 1) := by decide +kernel
theorem dX10_setText_37 : decode cX10_setText 37 = .ok (.getfield 9, 3) := by decide +kernel
theorem dX10_setText_40 : decode cX10_setText 40 = .ok (.iload_n 3, 1) := by decide +kernel
theorem dX10_setText_41 : decode cX10_setText 41 = .ok (.baload, 1) := by decide +kernel
theorem dX10_setText_42 : decode cX10_setText 42 = .ok (.bipush 120, 2) := by decide +kernel
theorem dX10_setText_44 : decode cX10_setText 44 = .ok (.if_icmp .eq 26, 3) := by decide +kernel
theorem dX10_setText_47 : decode cX10_setText 47 = .ok (.aload_n 0, 1) := by decide +kernel
theorem dX10_setText_48 : decode cX10_setText 48 = .ok (.getfield 9, 3) := by decide +kernel
theorem dX10_setText_51 : decode cX10_setText 51 = .ok (.iload_n 3, 1) := by decide +kernel
theorem dX10_setText_52 : decode cX10_setText 52 = .ok (.baload, 1) := by decide +kernel
theorem dX10_setText_53 : decode cX10_setText 53 = .ok (.bipush 117, 2) := by decide +kernel
theorem dX10_setText_55 : decode cX10_setText 55 = .ok (.if_icmp .eq 15, 3) := by decide +kernel
theorem dX10_setText_58 : decode cX10_setText 58 = .ok (.aload_n 0, 1) := by decide +kernel
theorem dX10_setText_59 : decode cX10_setText 59 = .ok (.getfield 9, 3) := by decide +kernel
theorem dX10_setText_62 : decode cX10_setText 62 = .ok (.iload_n 3, 1) := by decide +kernel
theorem dX10_setText_63 : decode cX10_setText 63 = .ok (.baload, 1) := by decide +kernel
theorem dX10_setText_64 : decode cX10_setText 64 = .ok (.invokestatic 48, 3) := by decide +kernel
theorem dX10_setText_67 : decode cX10_setText 67 = .ok (.ifCond .eq 7, 3) := by decide +kernel
theorem dX10_setText_70 : decode cX10_setText 70 = .ok (.iconst 1, 1) := by decide +kernel
theorem dX10_setText_71 : decode cX10_setText 71 = .ok (.goto 4, 3) := by decide +kernel
theorem dX10_setText_74 : decode cX10_setText 74 = .ok (.iconst 0, 1) := by decide +kernel
theorem dX10_setText_75 : decode cX10_setText 75 = .ok (.putfield 19, 3) := by decide +kernel
theorem dX10_setText_78 : decode cX10_setText 78 = .ok (.iinc 3 1, 3) := by decide +kernel
theorem dX10_setText_81 : decode cX10_setText 81 = .ok (.goto (-58), 3) := by decide +kernel
theorem dX10_setText_84 : decode cX10_setText 84 = .ok (.return_, 1) := by decide +kernel
def f_X10_setText_u75 (Q : ml_St → Prop) (K23 : ml_St → Int → Int → Prop) (th : Int) (p1 : Int) (σ : ml_St) (x2 : Int) (x3 : Int) (s1 : Int) : Prop :=
∀ σ1, σ1 = ml_up σ th 2 s1 →
I32 (x3 + 1) ∧
∀ y2 : Int, y2 = x3 + 1 →
K23 σ1 x2 y2
def f_X10_setText_u70 (Q : ml_St → Prop) (K23 : ml_St → Int → Int → Prop) (th : Int) (p1 : Int) (σ : ml_St) (x2 : Int) (x3 : Int) : Prop :=
f_X10_setText_u75 Q K23 th p1 σ x2 x3 1
def f_X10_setText_u74 (Q : ml_St → Prop) (K23 : ml_St → Int → Int → Prop) (th : Int) (p1 : Int) (σ : ml_St) (x2 : Int) (x3 : Int) : Prop :=
f_X10_setText_u75 Q K23 th p1 σ x2 x3 0
def f_X10_setText_u23 (Q : ml_St → Prop) (K84 : ml_St → Prop) (th : Int) (p1 : Int) : Nat → ml_St → Int → Int → Prop
| 0, _, _, _ => False
| N + 1, σ, x2, x3 =>
(x2 ≤ x3 →
K84 σ) ∧
(¬ (x2 ≤ x3) →
∀ _ : ml_B (σ th 2),
(((σ th 2) : Int) = 0 →
f_X10_setText_u74 Q (f_X10_setText_u23 Q K84 th p1 N) th p1 σ x2 x3) ∧
((σ th 2) ≠ 0 →
(0 : Int) ≤ x3 ∧ (x3 : Int) < 100 ∧
∀ _ : ml_I8 (σ (th + 1) x3),
(((σ (th + 1) x3) : Int) = 120 →
f_X10_setText_u70 Q (f_X10_setText_u23 Q K84 th p1 N) th p1 σ x2 x3) ∧
((σ (th + 1) x3) ≠ 120 →
(0 : Int) ≤ x3 ∧ (x3 : Int) < 100 ∧
∀ _ : ml_I8 (σ (th + 1) x3),
(((σ (th + 1) x3) : Int) = 117 →
f_X10_setText_u70 Q (f_X10_setText_u23 Q K84 th p1 N) th p1 σ x2 x3) ∧
((σ (th + 1) x3) ≠ 117 →
(0 : Int) ≤ x3 ∧ (x3 : Int) < 100 ∧
∀ _ : ml_I8 (σ (th + 1) x3),
f_X2_isDigit σ (σ (th + 1) x3) (fun r9 σ9 => ∀ _ : ml_B r9,
(r9 = 0 →
f_X10_setText_u74 Q (f_X10_setText_u23 Q K84 th p1 N) th p1 σ9 x2 x3) ∧
(r9 ≠ 0 →
f_X10_setText_u70 Q (f_X10_setText_u23 Q K84 th p1 N) th p1 σ9 x2 x3))))))
def f_X10_setText_u84 (Q : ml_St → Prop) (th : Int) (p1 : Int) (σ : ml_St) : Prop :=
Q σ
def f_X10_setText_u0 (Q : ml_St → Prop) (th : Int) (p1 : Int) (σ : ml_St) (x2 : Int) : Prop :=
(0 : Int) ≤ 0 ∧ (0 : Int) ≤ 0 ∧ (0 : Int) ≤ x2 ∧ (0 + x2 : Int) ≤ 100 ∧ (0 + x2 : Int) ≤ 100 ∧
∀ σ1, σ1 = ml_cpy σ p1 0 (th + 1) 0 x2 →
∀ σ2, σ2 = ml_up σ1 th 1 x2 →
∀ σ3, σ3 = ml_up σ2 th 2 1 →
∃ N1, f_X10_setText_u23 Q (f_X10_setText_u84 Q th p1) th p1 N1 σ3 x2 0
def f_X10_setText (σ : ml_St) (th : Int) (p1 : Int) (x2 : Int) (Q : ml_St → Prop) : Prop := f_X10_setText_u0 Q th p1 σ x2
def rm_X10_setText : Room := { frames := 1, cells := 0, slots := 0, locals := 60 }
set_option maxRecDepth 100000 in
set_option maxHeartbeats 4000000 in
theorem u_X10_setText_75 {p : Program} {e : Env} {s : State} {m : MethodId} {args : Array Value} {below : List Frame} {meth : Method} {c : Code} {base : Nat} {D : va_G} {cA : Nat → ClassId} {n : Nat} {l : Launch} {th : Int} {p1 : Int} {Q : ml_St → Prop} {K23 : ml_St → Int → Int → Prop} (X : ml_X p s m c meth args D cA cX10_setText 4 RX10 none) (hn : 214 ≤ n) (hp_th : ml_at n th (20, 8)) (hp_p1 : ml_at n p1 (2, 100)) (hK23 : ∀ (σ : ml_St) (x2 : Int) (x3 : Int) (h_x2 : I32 x2) (h_x3 : I32 x3) (ls : Array Slot), lv_has ls 4 [(0, .ref (base + (th : Int).toNat)), (2, .int (Int32.ofInt x2)), (3, .int (Int32.ofInt x3))] → K23 σ x2 x3 → ml_V p l e rm_X10_setText s m args below meth c (MQ below (ml_Qv base D cA n Q) args s 0 0 (ml_A base)) base D cA 0 0 n n σ (F0 m 23 ls [])) (σ : ml_St) (x2 : Int) (x3 : Int) (s1 : Int) (h_x2 : I32 x2) (h_x3 : I32 x3) (h_s1 : ml_B s1) (ls : Array Slot) (hl : lv_has ls 4 [(0, .ref (base + (th : Int).toNat)), (2, .int (Int32.ofInt x2)), (3, .int (Int32.ofInt x3))]) (hw : f_X10_setText_u75 Q K23 th p1 σ x2 x3 s1) : ml_V p l e rm_X10_setText s m args below meth c (MQ below (ml_Qv base D cA n Q) args s 0 0 (ml_A base)) base D cA 0 0 n n σ (F0 m 75 ls [.int (Int32.ofInt s1), .ref (base + (th : Int).toNat)]) := by
  unfold f_X10_setText_u75 at hw
  refine pf_X10_19 (pc := 75) X hp_th h_s1 dX10_setText_75 (fun σ1 g1 => ?_)
  have hw := hw σ1 g1
  obtain ⟨v2, hw⟩ := hw
  obtain ⟨y2, e2⟩ : ∃ y : Int, y = x3 + 1 := ⟨_, rfl⟩
  have hw := hw y2 e2
  rw [← e2] at v2
  refine ml_iinc (pc := 78) X e2 hl 2 rfl (by decide) (lst' := [(3, .int (Int32.ofInt y2)), (0, .ref (base + (th : Int).toNat)), (2, .int (Int32.ofInt x2))]) rfl dX10_setText_78 (fun ls hl => ?_)
  refine ml_goto (pc := 81) (tgt := 23) X dX10_setText_81 (by decide) ?_
  exact hK23 σ1 x2 y2 h_x2 v2 _ (lv_sub hl [1, 2, 0] rfl) hw
set_option maxRecDepth 100000 in
set_option maxHeartbeats 4000000 in
theorem u_X10_setText_70 {p : Program} {e : Env} {s : State} {m : MethodId} {args : Array Value} {below : List Frame} {meth : Method} {c : Code} {base : Nat} {D : va_G} {cA : Nat → ClassId} {n : Nat} {l : Launch} {th : Int} {p1 : Int} {Q : ml_St → Prop} {K23 : ml_St → Int → Int → Prop} (X : ml_X p s m c meth args D cA cX10_setText 4 RX10 none) (hn : 214 ≤ n) (hp_th : ml_at n th (20, 8)) (hp_p1 : ml_at n p1 (2, 100)) (hK23 : ∀ (σ : ml_St) (x2 : Int) (x3 : Int) (h_x2 : I32 x2) (h_x3 : I32 x3) (ls : Array Slot), lv_has ls 4 [(0, .ref (base + (th : Int).toNat)), (2, .int (Int32.ofInt x2)), (3, .int (Int32.ofInt x3))] → K23 σ x2 x3 → ml_V p l e rm_X10_setText s m args below meth c (MQ below (ml_Qv base D cA n Q) args s 0 0 (ml_A base)) base D cA 0 0 n n σ (F0 m 23 ls [])) (σ : ml_St) (x2 : Int) (x3 : Int) (h_x2 : I32 x2) (h_x3 : I32 x3) (ls : Array Slot) (hl : lv_has ls 4 [(0, .ref (base + (th : Int).toNat)), (2, .int (Int32.ofInt x2)), (3, .int (Int32.ofInt x3))]) (hw : f_X10_setText_u70 Q K23 th p1 σ x2 x3) : ml_V p l e rm_X10_setText s m args below meth c (MQ below (ml_Qv base D cA n Q) args s 0 0 (ml_A base)) base D cA 0 0 n n σ (F0 m 70 ls [.ref (base + (th : Int).toNat)]) := by
  unfold f_X10_setText_u70 at hw
  refine ml_iconst (pc := 70) X dX10_setText_70 ?_
  refine ml_goto (pc := 71) (tgt := 75) X dX10_setText_71 (by decide) ?_
  exact u_X10_setText_75 X hn hp_th hp_p1 hK23 σ x2 x3 1 h_x2 h_x3 ⟨by decide, by decide⟩ _ (lv_sub hl [0, 1, 2] rfl) hw
set_option maxRecDepth 100000 in
set_option maxHeartbeats 4000000 in
theorem u_X10_setText_74 {p : Program} {e : Env} {s : State} {m : MethodId} {args : Array Value} {below : List Frame} {meth : Method} {c : Code} {base : Nat} {D : va_G} {cA : Nat → ClassId} {n : Nat} {l : Launch} {th : Int} {p1 : Int} {Q : ml_St → Prop} {K23 : ml_St → Int → Int → Prop} (X : ml_X p s m c meth args D cA cX10_setText 4 RX10 none) (hn : 214 ≤ n) (hp_th : ml_at n th (20, 8)) (hp_p1 : ml_at n p1 (2, 100)) (hK23 : ∀ (σ : ml_St) (x2 : Int) (x3 : Int) (h_x2 : I32 x2) (h_x3 : I32 x3) (ls : Array Slot), lv_has ls 4 [(0, .ref (base + (th : Int).toNat)), (2, .int (Int32.ofInt x2)), (3, .int (Int32.ofInt x3))] → K23 σ x2 x3 → ml_V p l e rm_X10_setText s m args below meth c (MQ below (ml_Qv base D cA n Q) args s 0 0 (ml_A base)) base D cA 0 0 n n σ (F0 m 23 ls [])) (σ : ml_St) (x2 : Int) (x3 : Int) (h_x2 : I32 x2) (h_x3 : I32 x3) (ls : Array Slot) (hl : lv_has ls 4 [(0, .ref (base + (th : Int).toNat)), (2, .int (Int32.ofInt x2)), (3, .int (Int32.ofInt x3))]) (hw : f_X10_setText_u74 Q K23 th p1 σ x2 x3) : ml_V p l e rm_X10_setText s m args below meth c (MQ below (ml_Qv base D cA n Q) args s 0 0 (ml_A base)) base D cA 0 0 n n σ (F0 m 74 ls [.ref (base + (th : Int).toNat)]) := by
  unfold f_X10_setText_u74 at hw
  refine ml_iconst (pc := 74) X dX10_setText_74 ?_
  exact u_X10_setText_75 X hn hp_th hp_p1 hK23 σ x2 x3 0 h_x2 h_x3 ⟨by decide, by decide⟩ _ (lv_sub hl [0, 1, 2] rfl) hw
set_option maxRecDepth 100000 in
set_option maxHeartbeats 4000000 in
theorem u_X10_setText_23 {p : Program} {e : Env} {s : State} {m : MethodId} {args : Array Value} {below : List Frame} {meth : Method} {c : Code} {base : Nat} {D : va_G} {cA : Nat → ClassId} {n : Nat} {l : Launch} {th : Int} {p1 : Int} {Q : ml_St → Prop} {K84 : ml_St → Prop} (X : ml_X p s m c meth args D cA cX10_setText 4 RX10 none) (hn : 214 ≤ n) (hp_th : ml_at n th (20, 8)) (hp_p1 : ml_at n p1 (2, 100)) (hK84 : ∀ (σ : ml_St) (ls : Array Slot), lv_has ls 4 [] → K84 σ → ml_V p l e rm_X10_setText s m args below meth c (MQ below (ml_Qv base D cA n Q) args s 0 0 (ml_A base)) base D cA 0 0 n n σ (F0 m 84 ls [])) : ∀ (N : Nat) (σ : ml_St) (x2 : Int) (x3 : Int) (h_x2 : I32 x2) (h_x3 : I32 x3) (ls : Array Slot), lv_has ls 4 [(0, .ref (base + (th : Int).toNat)), (2, .int (Int32.ofInt x2)), (3, .int (Int32.ofInt x3))] → f_X10_setText_u23 Q K84 th p1 N σ x2 x3 → ml_V p l e rm_X10_setText s m args below meth c (MQ below (ml_Qv base D cA n Q) args s 0 0 (ml_A base)) base D cA 0 0 n n σ (F0 m 23 ls []) := by
  intro N
  induction N with
  | zero => intro σ x2 x3 h_x2 h_x3 ls hl hw; exact False.elim hw
  | succ N ih =>
    intro σ x2 x3 h_x2 h_x3 ls hl hw
    unfold f_X10_setText_u23 at hw
    refine ml_iload_n (pc := 23) X hl 2 rfl rfl dX10_setText_23 ?_
    refine ml_iload_n (pc := 24) X hl 1 rfl rfl dX10_setText_24 ?_
    refine ml_icmp_ge (pc := 25) (tgt := 84) X h_x3 h_x2 dX10_setText_25 (by decide) (fun c1 => ?_) (fun c1 => ?_)
    · have hw := hw.1 c1
      exact hK84 σ   _ (lv_sub hl [] rfl) hw
    · have hw := hw.2 c1
      refine ml_aload_n (pc := 28) X hl 0 rfl rfl dX10_setText_28 ?_
      refine ml_aload_n (pc := 29) X hl 0 rfl rfl dX10_setText_29 ?_
      refine gf_X10_19 (pc := 30) X hp_th dX10_setText_30 (fun r2 => ?_)
      have hw := hw r2
      refine ml_if_eq (pc := 33) (tgt := 74) X r2.i dX10_setText_33 (by decide) (fun c3 => ?_) (fun c3 => ?_)
      · have hw := hw.1 c3
        exact u_X10_setText_74 X hn hp_th hp_p1 ih σ x2 x3 h_x2 h_x3 _ (lv_sub hl [0, 1, 2] rfl) hw
      · have hw := hw.2 c3
        refine ml_aload_n (pc := 36) X hl 0 rfl rfl dX10_setText_36 ?_
        refine gf_X10_9 (pc := 37) X hp_th dX10_setText_37 ?_
        refine ml_iload_n (pc := 40) X hl 2 rfl rfl dX10_setText_40 ?_
        obtain ⟨a4, b4, hw⟩ := hw
        refine ml_bald (pc := 41) (N := 100) X (ml_r20_1 hn hp_th) a4 b4 dX10_setText_41 (fun r4 => ?_)
        have hw := hw r4
        refine ml_bipush (pc := 42) X dX10_setText_42 (by decide) ?_
        refine ml_icmp_eq (pc := 44) (tgt := 70) X r4.i ⟨by decide, by decide⟩ dX10_setText_44 (by decide) (fun c5 => ?_) (fun c5 => ?_)
        · have hw := hw.1 c5
          exact u_X10_setText_70 X hn hp_th hp_p1 ih σ x2 x3 h_x2 h_x3 _ (lv_sub hl [0, 1, 2] rfl) hw
        · have hw := hw.2 c5
          refine ml_aload_n (pc := 47) X hl 0 rfl rfl dX10_setText_47 ?_
          refine gf_X10_9 (pc := 48) X hp_th dX10_setText_48 ?_
          refine ml_iload_n (pc := 51) X hl 2 rfl rfl dX10_setText_51 ?_
          obtain ⟨a6, b6, hw⟩ := hw
          refine ml_bald (pc := 52) (N := 100) X (ml_r20_1 hn hp_th) a6 b6 dX10_setText_52 (fun r6 => ?_)
          have hw := hw r6
          refine ml_bipush (pc := 53) X dX10_setText_53 (by decide) ?_
          refine ml_icmp_eq (pc := 55) (tgt := 70) X r6.i ⟨by decide, by decide⟩ dX10_setText_55 (by decide) (fun c7 => ?_) (fun c7 => ?_)
          · have hw := hw.1 c7
            exact u_X10_setText_70 X hn hp_th hp_p1 ih σ x2 x3 h_x2 h_x3 _ (lv_sub hl [0, 1, 2] rfl) hw
          · have hw := hw.2 c7
            refine ml_aload_n (pc := 58) X hl 0 rfl rfl dX10_setText_58 ?_
            refine gf_X10_9 (pc := 59) X hp_th dX10_setText_59 ?_
            refine ml_iload_n (pc := 62) X hl 2 rfl rfl dX10_setText_62 ?_
            obtain ⟨a8, b8, hw⟩ := hw
            refine ml_bald (pc := 63) (N := 100) X (ml_r20_1 hn hp_th) a8 b8 dX10_setText_63 (fun r8 => ?_)
            have hw := hw r8
            refine ml_callzS (pc := 64) (rest := [.ref (base + (th : Int).toNat)]) X [.int (Int32.ofInt (σ (th + 1) x3))] (c_X2_isDigit l base D cA n hn σ (σ (th + 1) x3) r8.i _ hw) cv_X10_48 ⟨rfl, rfl⟩ ⟨by decide, by decide⟩ rfl rfl hl (Nat.le_of_ble_eq_true rfl) ⟨Nat.zero_le _, Nat.zero_le _⟩ dX10_setText_64 (fun r9 σ9 t9 hw => ?_)
            have hw := hw t9
            refine ml_if_eq (pc := 67) (tgt := 74) X t9.i dX10_setText_67 (by decide) (fun c10 => ?_) (fun c10 => ?_)
            · have hw := hw.1 c10
              exact u_X10_setText_74 X hn hp_th hp_p1 ih σ9 x2 x3 h_x2 h_x3 _ (lv_sub hl [0, 1, 2] rfl) hw
            · have hw := hw.2 c10
              exact u_X10_setText_70 X hn hp_th hp_p1 ih σ9 x2 x3 h_x2 h_x3 _ (lv_sub hl [0, 1, 2] rfl) hw
set_option maxRecDepth 100000 in
set_option maxHeartbeats 4000000 in
theorem u_X10_setText_84 {p : Program} {e : Env} {s : State} {m : MethodId} {args : Array Value} {below : List Frame} {meth : Method} {c : Code} {base : Nat} {D : va_G} {cA : Nat → ClassId} {n : Nat} {l : Launch} {th : Int} {p1 : Int} {Q : ml_St → Prop} (X : ml_X p s m c meth args D cA cX10_setText 4 RX10 none) (hn : 214 ≤ n) (hp_th : ml_at n th (20, 8)) (hp_p1 : ml_at n p1 (2, 100)) (σ : ml_St) (ls : Array Slot) (hl : lv_has ls 4 []) (hw : f_X10_setText_u84 Q th p1 σ) : ml_V p l e rm_X10_setText s m args below meth c (MQ below (ml_Qv base D cA n Q) args s 0 0 (ml_A base)) base D cA 0 0 n n σ (F0 m 84 ls []) := by
  unfold f_X10_setText_u84 at hw
  exact ml_vret (pc := 84) X hw dX10_setText_84
set_option maxRecDepth 100000 in
set_option maxHeartbeats 4000000 in
theorem u_X10_setText_0 {p : Program} {e : Env} {s : State} {m : MethodId} {args : Array Value} {below : List Frame} {meth : Method} {c : Code} {base : Nat} {D : va_G} {cA : Nat → ClassId} {n : Nat} {l : Launch} {th : Int} {p1 : Int} {Q : ml_St → Prop} (X : ml_X p s m c meth args D cA cX10_setText 4 RX10 none) (hn : 214 ≤ n) (hp_th : ml_at n th (20, 8)) (hp_p1 : ml_at n p1 (2, 100)) (σ : ml_St) (x2 : Int) (h_x2 : I32 x2) (ls : Array Slot) (hl : lv_has ls 4 [(0, .ref (base + (th : Int).toNat)), (1, .ref (base + (p1 : Int).toNat)), (2, .int (Int32.ofInt x2))]) (hw : f_X10_setText_u0 Q th p1 σ x2) : ml_V p l e rm_X10_setText s m args below meth c (MQ below (ml_Qv base D cA n Q) args s 0 0 (ml_A base)) base D cA 0 0 n n σ (F0 m 0 ls []) := by
  unfold f_X10_setText_u0 at hw
  refine ml_aload_n (pc := 0) X hl 1 rfl rfl dX10_setText_0 ?_
  refine ml_iconst (pc := 1) X dX10_setText_1 ?_
  refine ml_aload_n (pc := 2) X hl 0 rfl rfl dX10_setText_2 ?_
  refine gf_X10_9 (pc := 3) X hp_th dX10_setText_3 ?_
  refine ml_iconst (pc := 6) X dX10_setText_6 ?_
  refine ml_iload_n (pc := 7) X hl 2 rfl rfl dX10_setText_7 ?_
  obtain ⟨a1, b1, c1, f1, h1, hw⟩ := hw
  refine ml_cpb (pc := 8) (n0 := 100) (n1 := 100) X ⟨tw_3_89, tw_3_43, tw_3_42, tw_1_15⟩ hp_p1 (ml_r20_1 hn hp_th) ⟨by decide, by decide⟩ ⟨by decide, by decide⟩ h_x2 a1 b1 c1 f1 h1 hl (Nat.le_of_ble_eq_true rfl) ⟨by decide, by decide⟩ dX10_setText_8 (fun σ1 g1 => ?_)
  have hw := hw σ1 g1
  refine ml_aload_n (pc := 11) X hl 0 rfl rfl dX10_setText_11 ?_
  refine ml_iload_n (pc := 12) X hl 2 rfl rfl dX10_setText_12 ?_
  refine pf_X10_15 (pc := 13) X hp_th h_x2 dX10_setText_13 (fun σ2 g2 => ?_)
  have hw := hw σ2 g2
  refine ml_aload_n (pc := 16) X hl 0 rfl rfl dX10_setText_16 ?_
  refine ml_iconst (pc := 17) X dX10_setText_17 ?_
  refine pf_X10_19 (pc := 18) X hp_th ⟨by decide, by decide⟩ dX10_setText_18 (fun σ3 g3 => ?_)
  have hw := hw σ3 g3
  refine ml_iconst (pc := 21) X dX10_setText_21 ?_
  refine ml_istore_n (pc := 22) X rfl hl (by decide) (lst' := [(3, .int (Int32.ofInt 0)), (0, .ref (base + (th : Int).toNat)), (1, .ref (base + (p1 : Int).toNat)), (2, .int (Int32.ofInt x2))]) rfl dX10_setText_22 (fun ls hl => ?_)
  obtain ⟨N0, hw⟩ := hw
  exact u_X10_setText_23 X hn hp_th hp_p1 (fun σ   ls hl hw => u_X10_setText_84 X hn hp_th hp_p1 σ   ls hl hw) N0 σ3 x2 0 h_x2 ⟨by decide, by decide⟩ _ (lv_sub hl [1, 3, 0] rfl) hw
set_option maxRecDepth 100000 in
theorem c_X10_setText (l : Launch) (base : Nat) (D : va_G) (cA : Nat → ClassId) (n : Nat) (hn : 214 ≤ n) (σ : ml_St) (th : Int) (p1 : Int) (hp_th : ml_at n th (20, 8)) (hp_p1 : ml_at n p1 (2, 100)) (x2 : Int) (h_x2 : I32 x2) (Q : ml_St → Prop) (hw : f_X10_setText σ th p1 x2 Q) : Met l yX10_setText (Cond.code yX10_setText cX10_setText 4 none :: ml_T) rm_X10_setText (va_Pc [.ref (base + (th : Int).toNat), .ref (base + (p1 : Int).toNat), .int (Int32.ofInt x2)] (ml_U base D cA n σ)) (ml_Qv base D cA n Q) 0 0 (ml_A base) := by
  refine Met.ofW (cc := cX10_setText) (maxL := 4) (ret := none) (by decide) rfl ?_
  intro p e s m args below meth c s₁ B hml hv
  obtain ⟨rfl, hP, hK, hok, hro⟩ := hv
  have X : ml_X p s m c meth _ D cA cX10_setText 4 RX10 none := ⟨B.exec, B.bytes, hml, findClass_of_methodNamed B.named, fun w hw => atoms_spec (ws := Cond.code yX10_setText cX10_setText 4 none :: ml_T) B.pre w (List.mem_cons_of_mem _ hw), hK, B.notSynchronized, B.returns⟩
  have hl := lv_entry [.ref (base + (th : Int).toNat), .ref (base + (p1 : Int).toNat), .int (Int32.ofInt x2)] (n := 4) (Nat.le_of_ble_eq_true rfl)
  rw [lg_entry_eq]
  generalize (lg_sl [.ref (base + (th : Int).toNat), .ref (base + (p1 : Int).toNat), .int (Int32.ofInt x2)] ++ List.replicate (4 - (lg_sl [.ref (base + (th : Int).toNat), .ref (base + (p1 : Int).toNat), .int (Int32.ofInt x2)]).length) Slot.unset).toArray = ls at hl ⊢
  have hl : lv_has ls 4 [(0, .ref (base + (th : Int).toNat)), (1, .ref (base + (p1 : Int).toNat)), (2, .int (Int32.ofInt x2))] := hl
  unfold f_X10_setText at hw
  exact u_X10_setText_0 X hn hp_th hp_p1 σ x2 h_x2 _ (lv_sub hl [0, 1, 2] rfl) hw s.heap [] hP va_S.rf hok hro
theorem dX3_begin_0 : decode cX3_begin 0 = .ok (.aload_n 0, 1) := by decide +kernel
theorem dX3_begin_1 : decode cX3_begin 1 = .ok (.aload_n 1, 1) := by decide +kernel
theorem dX3_begin_2 : decode cX3_begin 2 = .ok (.putfield 7, 3) := by decide +kernel
theorem dX3_begin_5 : decode cX3_begin 5 = .ok (.aload_n 0, 1) := by decide +kernel
theorem dX3_begin_6 : decode cX3_begin 6 = .ok (.iload_n 2, 1) := by decide +kernel
theorem dX3_begin_7 : decode cX3_begin 7 = .ok (.putfield 13, 3) := by decide +kernel
theorem dX3_begin_10 : decode cX3_begin 10 = .ok (.aload_n 0, 1) := by decide +kernel
theorem dX3_begin_11 : decode cX3_begin 11 = .ok (.iconst 0, 1) := by decide +kernel
theorem dX3_begin_12 : decode cX3_begin 12 = .ok (.putfield 17, 3) := by decide +kernel
theorem dX3_begin_15 : decode cX3_begin 15 = .ok (.return_, 1) := by decide +kernel
def f_X3_begin_u0 (Q : ml_St → Prop) (p1 : Int) (σ : ml_St) (x2 : Int) : Prop :=
∀ σ1, σ1 = ml_up σ 9 0 p1 →
∀ σ2, σ2 = ml_up σ1 9 1 x2 →
∀ σ3, σ3 = ml_up σ2 9 2 0 →
Q σ3
def f_X3_begin (σ : ml_St) (p1 : Int) (x2 : Int) (Q : ml_St → Prop) : Prop := f_X3_begin_u0 Q p1 σ x2
def rm_X3_begin : Room := { frames := 0, cells := 0, slots := 0, locals := 0 }
set_option maxRecDepth 100000 in
set_option maxHeartbeats 4000000 in
theorem u_X3_begin_0 {p : Program} {e : Env} {s : State} {m : MethodId} {args : Array Value} {below : List Frame} {meth : Method} {c : Code} {base : Nat} {D : va_G} {cA : Nat → ClassId} {n : Nat} {l : Launch} {p1 : Int} {Q : ml_St → Prop} (X : ml_X p s m c meth args D cA cX3_begin 3 RX3 none) (hn : 214 ≤ n) (hp_p1 : ml_at n p1 (2, 100)) (σ : ml_St) (x2 : Int) (h_x2 : I32 x2) (ls : Array Slot) (hl : lv_has ls 3 [(0, .ref (base + (9 : Int).toNat)), (1, .ref (base + (p1 : Int).toNat)), (2, .int (Int32.ofInt x2))]) (hw : f_X3_begin_u0 Q p1 σ x2) : ml_V p l e rm_X3_begin s m args below meth c (MQ below (ml_Qv base D cA n Q) args s 0 0 (ml_A base)) base D cA 0 0 n n σ (F0 m 0 ls []) := by
  unfold f_X3_begin_u0 at hw
  refine ml_aload_n (pc := 0) X hl 0 rfl rfl dX3_begin_0 ?_
  refine ml_aload_n (pc := 1) X hl 1 rfl rfl dX3_begin_1 ?_
  refine pf_X3_7 (pc := 2) X (ml_c9 hn) hp_p1 dX3_begin_2 (fun σ1 g1 => ?_)
  have hw := hw σ1 g1
  refine ml_aload_n (pc := 5) X hl 0 rfl rfl dX3_begin_5 ?_
  refine ml_iload_n (pc := 6) X hl 2 rfl rfl dX3_begin_6 ?_
  refine pf_X3_13 (pc := 7) X (ml_c9 hn) h_x2 dX3_begin_7 (fun σ2 g2 => ?_)
  have hw := hw σ2 g2
  refine ml_aload_n (pc := 10) X hl 0 rfl rfl dX3_begin_10 ?_
  refine ml_iconst (pc := 11) X dX3_begin_11 ?_
  refine pf_X3_17 (pc := 12) X (ml_c9 hn) ⟨by decide, by decide⟩ dX3_begin_12 (fun σ3 g3 => ?_)
  have hw := hw σ3 g3
  exact ml_vret (pc := 15) X hw dX3_begin_15
set_option maxRecDepth 100000 in
theorem c_X3_begin (l : Launch) (base : Nat) (D : va_G) (cA : Nat → ClassId) (n : Nat) (hn : 214 ≤ n) (σ : ml_St) (p1 : Int) (hp_p1 : ml_at n p1 (2, 100)) (x2 : Int) (h_x2 : I32 x2) (Q : ml_St → Prop) (hw : f_X3_begin σ p1 x2 Q) : Met l yX3_begin (Cond.code yX3_begin cX3_begin 3 none :: ml_T) rm_X3_begin (va_Pc [.ref (base + (9 : Int).toNat), .ref (base + (p1 : Int).toNat), .int (Int32.ofInt x2)] (ml_U base D cA n σ)) (ml_Qv base D cA n Q) 0 0 (ml_A base) := by
  refine Met.ofW (cc := cX3_begin) (maxL := 3) (ret := none) (by decide) rfl ?_
  intro p e s m args below meth c s₁ B hml hv
  obtain ⟨rfl, hP, hK, hok, hro⟩ := hv
  have X : ml_X p s m c meth _ D cA cX3_begin 3 RX3 none := ⟨B.exec, B.bytes, hml, findClass_of_methodNamed B.named, fun w hw => atoms_spec (ws := Cond.code yX3_begin cX3_begin 3 none :: ml_T) B.pre w (List.mem_cons_of_mem _ hw), hK, B.notSynchronized, B.returns⟩
  have hl := lv_entry [.ref (base + (9 : Int).toNat), .ref (base + (p1 : Int).toNat), .int (Int32.ofInt x2)] (n := 3) (Nat.le_of_ble_eq_true rfl)
  rw [lg_entry_eq]
  generalize (lg_sl [.ref (base + (9 : Int).toNat), .ref (base + (p1 : Int).toNat), .int (Int32.ofInt x2)] ++ List.replicate (3 - (lg_sl [.ref (base + (9 : Int).toNat), .ref (base + (p1 : Int).toNat), .int (Int32.ofInt x2)]).length) Slot.unset).toArray = ls at hl ⊢
  have hl : lv_has ls 3 [(0, .ref (base + (9 : Int).toNat)), (1, .ref (base + (p1 : Int).toNat)), (2, .int (Int32.ofInt x2))] := hl
  unfold f_X3_begin at hw
  exact u_X3_begin_0 X hn hp_p1 σ x2 h_x2 _ (lv_sub hl [0, 1, 2] rfl) hw s.heap [] hP va_S.rf hok hro
theorem dX3_readTimes_0 : decode cX3_readTimes 0 = .ok (.aload_n 0, 1) := by decide +kernel
theorem dX3_readTimes_1 : decode cX3_readTimes 1 = .ok (.iconst 0, 1) := by decide +kernel
theorem dX3_readTimes_2 : decode cX3_readTimes 2 = .ok (.putfield 26, 3) := by decide +kernel
theorem dX3_readTimes_5 : decode cX3_readTimes 5 = .ok (.aload_n 0, 1) := by decide +kernel
theorem dX3_readTimes_6 : decode cX3_readTimes 6 = .ok (.dup, 1) := by decide +kernel
theorem dX3_readTimes_7 : decode cX3_readTimes 7 = .ok (.getfield 17, 3) := by decide +kernel
theorem dX3_readTimes_10 : decode cX3_readTimes 10 = .ok (.iconst 1, 1) := by decide +kernel
theorem dX3_readTimes_11 : decode cX3_readTimes 11 = .ok (.iadd, 1) := by decide +kernel
theorem dX3_readTimes_12 : decode cX3_readTimes 12 = .ok (.putfield 17, 3) := by decide +kernel
theorem dX3_readTimes_15 : decode cX3_readTimes 15 = .ok (.aload_n 0, 1) := by decide +kernel
theorem dX3_readTimes_16 : decode cX3_readTimes 16 = .ok (.getfield 17, 3) := by decide +kernel
theorem dX3_readTimes_19 : decode cX3_readTimes 19 = .ok (.aload_n 0, 1) := by decide +kernel
theorem dX3_readTimes_20 : decode cX3_readTimes 20 = .ok (.getfield 13, 3) := by decide +kernel
theorem dX3_readTimes_23 : decode cX3_readTimes 23 = .ok (.if_icmp .ge 55, 3) := by decide +kernel
theorem dX3_readTimes_26 : decode cX3_readTimes 26 = .ok (.aload_n 0, 1) := by decide +kernel
theorem dX3_readTimes_27 : decode cX3_readTimes 27 = .ok (.getfield 7, 3) := by decide +kernel
theorem dX3_readTimes_30 : decode cX3_readTimes 30 = .ok (.aload_n 0, 1) := by decide +kernel
theorem dX3_readTimes_31 : decode cX3_readTimes 31 = .ok (.getfield 17, 3) := by decide +kernel
theorem dX3_readTimes_34 : decode cX3_readTimes 34 = .ok (.baload, 1) := by decide +kernel
theorem dX3_readTimes_35 : decode cX3_readTimes 35 = .ok (.invokestatic 36, 3) := by decide +kernel
theorem dX3_readTimes_38 : decode cX3_readTimes 38 = .ok (.ifCond .eq 40, 3) := by decide +kernel
theorem dX3_readTimes_41 : decode cX3_readTimes 41 = .ok (.aload_n 0, 1) := by decide +kernel
theorem dX3_readTimes_42 : decode cX3_readTimes 42 = .ok (.aload_n 0, 1) := by decide +kernel
theorem dX3_readTimes_43 : decode cX3_readTimes 43 = .ok (.getfield 26, 3) := by decide +kernel
theorem dX3_readTimes_46 : decode cX3_readTimes 46 = .ok (.bipush 10, 2) := by decide +kernel
theorem dX3_readTimes_48 : decode cX3_readTimes 48 = .ok (.imul, 1) := by decide +kernel
theorem dX3_readTimes_49 : decode cX3_readTimes 49 = .ok (.aload_n 0, 1) := by decide +kernel
theorem dX3_readTimes_50 : decode cX3_readTimes 50 = .ok (.getfield 7, 3) := by decide +kernel
theorem dX3_readTimes_53 : decode cX3_readTimes 53 = .ok (.aload_n 0, 1) := by decide +kernel
theorem dX3_readTimes_54 : decode cX3_readTimes 54 = .ok (.getfield 17, 3) := by decide +kernel
theorem dX3_readTimes_57 : decode cX3_readTimes 57 = .ok (.baload, 1) := by decide +kernel
theorem dX3_readTimes_58 : decode cX3_readTimes 58 = .ok (.iadd, 1) := by decide +kernel
theorem dX3_readTimes_59 : decode cX3_readTimes 59 = .ok (.bipush 48, 2) := by decide +kernel
theorem dX3_readTimes_61 : decode cX3_readTimes 61 = .ok (.isub, 1) := by decide +kernel
theorem dX3_readTimes_62 : decode cX3_readTimes 62 = .ok (.putfield 26, 3) := by decide +kernel
theorem dX3_readTimes_65 : decode cX3_readTimes 65 = .ok (.aload_n 0, 1) := by decide +kernel
theorem dX3_readTimes_66 : decode cX3_readTimes 66 = .ok (.dup, 1) := by decide +kernel
theorem dX3_readTimes_67 : decode cX3_readTimes 67 = .ok (.getfield 17, 3) := by decide +kernel
theorem dX3_readTimes_70 : decode cX3_readTimes 70 = .ok (.iconst 1, 1) := by decide +kernel
theorem dX3_readTimes_71 : decode cX3_readTimes 71 = .ok (.iadd, 1) := by decide +kernel
theorem dX3_readTimes_72 : decode cX3_readTimes 72 = .ok (.putfield 17, 3) := by decide +kernel
theorem dX3_readTimes_75 : decode cX3_readTimes 75 = .ok (.goto (-60), 3) := by decide +kernel
theorem dX3_readTimes_78 : decode cX3_readTimes 78 = .ok (.return_, 1) := by decide +kernel
def f_X3_readTimes_u15 (Q : ml_St → Prop) (K78 : ml_St → Prop) : Nat → ml_St → Prop
| 0, _ => False
| N + 1, σ =>
∀ _ : I32 (σ 9 2),
∀ _ : I32 (σ 9 1),
((σ 9 1) ≤ ((σ 9 2) : Int) →
K78 σ) ∧
(¬ ((σ 9 1) ≤ ((σ 9 2) : Int)) →
ml_tx (σ 9 0) ∧
∀ _ : I32 (σ 9 2),
(0 : Int) ≤ (σ 9 2) ∧ ((σ 9 2) : Int) < 100 ∧
∀ _ : ml_I8 (σ (σ 9 0) (σ 9 2)),
f_X2_isDigit σ (σ (σ 9 0) (σ 9 2)) (fun r7 σ7 => ∀ _ : ml_B r7,
(r7 = 0 →
K78 σ7) ∧
(r7 ≠ 0 →
∀ _ : I32 (σ7 9 5),
I32 ((σ7 9 5) * 10) ∧
ml_tx (σ7 9 0) ∧
∀ _ : I32 (σ7 9 2),
(0 : Int) ≤ (σ7 9 2) ∧ ((σ7 9 2) : Int) < 100 ∧
∀ _ : ml_I8 (σ7 (σ7 9 0) (σ7 9 2)),
I32 (((σ7 9 5) * 10) + (σ7 (σ7 9 0) (σ7 9 2))) ∧
I32 ((((σ7 9 5) * 10) + (σ7 (σ7 9 0) (σ7 9 2))) - 48) ∧
∀ σ16, σ16 = ml_up σ7 9 5 ((((σ7 9 5) * 10) + (σ7 (σ7 9 0) (σ7 9 2))) - 48) →
∀ _ : I32 (σ16 9 2),
I32 ((σ16 9 2) + 1) ∧
∀ σ19, σ19 = ml_up σ16 9 2 ((σ16 9 2) + 1) →
f_X3_readTimes_u15 Q K78 N σ19)))
def f_X3_readTimes_u78 (Q : ml_St → Prop) (σ : ml_St) : Prop :=
Q σ
def f_X3_readTimes_u0 (Q : ml_St → Prop) (σ : ml_St) : Prop :=
∀ σ1, σ1 = ml_up σ 9 5 0 →
∀ _ : I32 (σ1 9 2),
I32 ((σ1 9 2) + 1) ∧
∀ σ4, σ4 = ml_up σ1 9 2 ((σ1 9 2) + 1) →
∃ N1, f_X3_readTimes_u15 Q (f_X3_readTimes_u78 Q) N1 σ4
def f_X3_readTimes (σ : ml_St) (Q : ml_St → Prop) : Prop := f_X3_readTimes_u0 Q σ
def rm_X3_readTimes : Room := { frames := 1, cells := 0, slots := 0, locals := 20 }
set_option maxRecDepth 100000 in
set_option maxHeartbeats 4000000 in
theorem u_X3_readTimes_15 {p : Program} {e : Env} {s : State} {m : MethodId} {args : Array Value} {below : List Frame} {meth : Method} {c : Code} {base : Nat} {D : va_G} {cA : Nat → ClassId} {n : Nat} {l : Launch} {Q : ml_St → Prop} {K78 : ml_St → Prop} (X : ml_X p s m c meth args D cA cX3_readTimes 1 RX3 none) (hn : 214 ≤ n) (hK78 : ∀ (σ : ml_St) (ls : Array Slot), lv_has ls 1 [] → K78 σ → ml_V p l e rm_X3_readTimes s m args below meth c (MQ below (ml_Qv base D cA n Q) args s 0 0 (ml_A base)) base D cA 0 0 n n σ (F0 m 78 ls [])) : ∀ (N : Nat) (σ : ml_St) (ls : Array Slot), lv_has ls 1 [(0, .ref (base + (9 : Int).toNat))] → f_X3_readTimes_u15 Q K78 N σ → ml_V p l e rm_X3_readTimes s m args below meth c (MQ below (ml_Qv base D cA n Q) args s 0 0 (ml_A base)) base D cA 0 0 n n σ (F0 m 15 ls []) := by
  intro N
  induction N with
  | zero => intro σ ls hl hw; exact False.elim hw
  | succ N ih =>
    intro σ ls hl hw
    unfold f_X3_readTimes_u15 at hw
    refine ml_aload_n (pc := 15) X hl 0 rfl rfl dX3_readTimes_15 ?_
    refine gf_X3_17 (pc := 16) X (ml_c9 hn) dX3_readTimes_16 (fun r1 => ?_)
    have hw := hw r1
    refine ml_aload_n (pc := 19) X hl 0 rfl rfl dX3_readTimes_19 ?_
    refine gf_X3_13 (pc := 20) X (ml_c9 hn) dX3_readTimes_20 (fun r2 => ?_)
    have hw := hw r2
    refine ml_icmp_ge (pc := 23) (tgt := 78) X r1 r2 dX3_readTimes_23 (by decide) (fun c3 => ?_) (fun c3 => ?_)
    · have hw := hw.1 c3
      exact hK78 σ   _ (lv_sub hl [] rfl) hw
    · have hw := hw.2 c3
      refine ml_aload_n (pc := 26) X hl 0 rfl rfl dX3_readTimes_26 ?_
      obtain ⟨a4, hw⟩ := hw
      refine gf_X3_7 (pc := 27) X (ml_c9 hn) a4 dX3_readTimes_27 ?_
      refine ml_aload_n (pc := 30) X hl 0 rfl rfl dX3_readTimes_30 ?_
      refine gf_X3_17 (pc := 31) X (ml_c9 hn) dX3_readTimes_31 (fun r5 => ?_)
      have hw := hw r5
      obtain ⟨a6, b6, hw⟩ := hw
      refine ml_bald (pc := 34) (N := 100) X (ml_txat hn a4) a6 b6 dX3_readTimes_34 (fun r6 => ?_)
      have hw := hw r6
      refine ml_callzS (pc := 35) (rest := []) X [.int (Int32.ofInt (σ (σ 9 0) (σ 9 2)))] (c_X2_isDigit l base D cA n hn σ (σ (σ 9 0) (σ 9 2)) r6.i _ hw) cv_X3_36 ⟨rfl, rfl⟩ ⟨by decide, by decide⟩ rfl rfl hl (Nat.le_of_ble_eq_true rfl) ⟨Nat.zero_le _, Nat.zero_le _⟩ dX3_readTimes_35 (fun r7 σ7 t7 hw => ?_)
      have hw := hw t7
      refine ml_if_eq (pc := 38) (tgt := 78) X t7.i dX3_readTimes_38 (by decide) (fun c8 => ?_) (fun c8 => ?_)
      · have hw := hw.1 c8
        exact hK78 σ7   _ (lv_sub hl [] rfl) hw
      · have hw := hw.2 c8
        refine ml_aload_n (pc := 41) X hl 0 rfl rfl dX3_readTimes_41 ?_
        refine ml_aload_n (pc := 42) X hl 0 rfl rfl dX3_readTimes_42 ?_
        refine gf_X3_26 (pc := 43) X (ml_c9 hn) dX3_readTimes_43 (fun r9 => ?_)
        have hw := hw r9
        refine ml_bipush (pc := 46) X dX3_readTimes_46 (by decide) ?_
        obtain ⟨v10, hw⟩ := hw
        refine ml_imul (pc := 48) X dX3_readTimes_48 ?_
        refine ml_aload_n (pc := 49) X hl 0 rfl rfl dX3_readTimes_49 ?_
        obtain ⟨a11, hw⟩ := hw
        refine gf_X3_7 (pc := 50) X (ml_c9 hn) a11 dX3_readTimes_50 ?_
        refine ml_aload_n (pc := 53) X hl 0 rfl rfl dX3_readTimes_53 ?_
        refine gf_X3_17 (pc := 54) X (ml_c9 hn) dX3_readTimes_54 (fun r12 => ?_)
        have hw := hw r12
        obtain ⟨a13, b13, hw⟩ := hw
        refine ml_bald (pc := 57) (N := 100) X (ml_txat hn a11) a13 b13 dX3_readTimes_57 (fun r13 => ?_)
        have hw := hw r13
        obtain ⟨v14, hw⟩ := hw
        refine ml_iadd (pc := 58) X dX3_readTimes_58 ?_
        refine ml_bipush (pc := 59) X dX3_readTimes_59 (by decide) ?_
        obtain ⟨v15, hw⟩ := hw
        refine ml_isub (pc := 61) X dX3_readTimes_61 ?_
        refine pf_X3_26 (pc := 62) X (ml_c9 hn) v15 dX3_readTimes_62 (fun σ16 g16 => ?_)
        have hw := hw σ16 g16
        refine ml_aload_n (pc := 65) X hl 0 rfl rfl dX3_readTimes_65 ?_
        refine ml_dup (pc := 66) X dX3_readTimes_66 rfl ?_
        refine gf_X3_17 (pc := 67) X (ml_c9 hn) dX3_readTimes_67 (fun r17 => ?_)
        have hw := hw r17
        refine ml_iconst (pc := 70) X dX3_readTimes_70 ?_
        obtain ⟨v18, hw⟩ := hw
        refine ml_iadd (pc := 71) X dX3_readTimes_71 ?_
        refine pf_X3_17 (pc := 72) X (ml_c9 hn) v18 dX3_readTimes_72 (fun σ19 g19 => ?_)
        have hw := hw σ19 g19
        refine ml_goto (pc := 75) (tgt := 15) X dX3_readTimes_75 (by decide) ?_
        exact ih σ19   _ (lv_sub hl [0] rfl) hw
set_option maxRecDepth 100000 in
set_option maxHeartbeats 4000000 in
theorem u_X3_readTimes_78 {p : Program} {e : Env} {s : State} {m : MethodId} {args : Array Value} {below : List Frame} {meth : Method} {c : Code} {base : Nat} {D : va_G} {cA : Nat → ClassId} {n : Nat} {l : Launch} {Q : ml_St → Prop} (X : ml_X p s m c meth args D cA cX3_readTimes 1 RX3 none) (hn : 214 ≤ n) (σ : ml_St) (ls : Array Slot) (hl : lv_has ls 1 []) (hw : f_X3_readTimes_u78 Q σ) : ml_V p l e rm_X3_readTimes s m args below meth c (MQ below (ml_Qv base D cA n Q) args s 0 0 (ml_A base)) base D cA 0 0 n n σ (F0 m 78 ls []) := by
  unfold f_X3_readTimes_u78 at hw
  exact ml_vret (pc := 78) X hw dX3_readTimes_78
set_option maxRecDepth 100000 in
set_option maxHeartbeats 4000000 in
theorem u_X3_readTimes_0 {p : Program} {e : Env} {s : State} {m : MethodId} {args : Array Value} {below : List Frame} {meth : Method} {c : Code} {base : Nat} {D : va_G} {cA : Nat → ClassId} {n : Nat} {l : Launch} {Q : ml_St → Prop} (X : ml_X p s m c meth args D cA cX3_readTimes 1 RX3 none) (hn : 214 ≤ n) (σ : ml_St) (ls : Array Slot) (hl : lv_has ls 1 [(0, .ref (base + (9 : Int).toNat))]) (hw : f_X3_readTimes_u0 Q σ) : ml_V p l e rm_X3_readTimes s m args below meth c (MQ below (ml_Qv base D cA n Q) args s 0 0 (ml_A base)) base D cA 0 0 n n σ (F0 m 0 ls []) := by
  unfold f_X3_readTimes_u0 at hw
  refine ml_aload_n (pc := 0) X hl 0 rfl rfl dX3_readTimes_0 ?_
  refine ml_iconst (pc := 1) X dX3_readTimes_1 ?_
  refine pf_X3_26 (pc := 2) X (ml_c9 hn) ⟨by decide, by decide⟩ dX3_readTimes_2 (fun σ1 g1 => ?_)
  have hw := hw σ1 g1
  refine ml_aload_n (pc := 5) X hl 0 rfl rfl dX3_readTimes_5 ?_
  refine ml_dup (pc := 6) X dX3_readTimes_6 rfl ?_
  refine gf_X3_17 (pc := 7) X (ml_c9 hn) dX3_readTimes_7 (fun r2 => ?_)
  have hw := hw r2
  refine ml_iconst (pc := 10) X dX3_readTimes_10 ?_
  obtain ⟨v3, hw⟩ := hw
  refine ml_iadd (pc := 11) X dX3_readTimes_11 ?_
  refine pf_X3_17 (pc := 12) X (ml_c9 hn) v3 dX3_readTimes_12 (fun σ4 g4 => ?_)
  have hw := hw σ4 g4
  obtain ⟨N0, hw⟩ := hw
  exact u_X3_readTimes_15 X hn (fun σ   ls hl hw => u_X3_readTimes_78 X hn σ   ls hl hw) N0 σ4   _ (lv_sub hl [0] rfl) hw
set_option maxRecDepth 100000 in
theorem c_X3_readTimes (l : Launch) (base : Nat) (D : va_G) (cA : Nat → ClassId) (n : Nat) (hn : 214 ≤ n) (σ : ml_St) (Q : ml_St → Prop) (hw : f_X3_readTimes σ Q) : Met l yX3_readTimes (Cond.code yX3_readTimes cX3_readTimes 1 none :: ml_T) rm_X3_readTimes (va_Pc [.ref (base + (9 : Int).toNat)] (ml_U base D cA n σ)) (ml_Qv base D cA n Q) 0 0 (ml_A base) := by
  refine Met.ofW (cc := cX3_readTimes) (maxL := 1) (ret := none) (by decide) rfl ?_
  intro p e s m args below meth c s₁ B hml hv
  obtain ⟨rfl, hP, hK, hok, hro⟩ := hv
  have X : ml_X p s m c meth _ D cA cX3_readTimes 1 RX3 none := ⟨B.exec, B.bytes, hml, findClass_of_methodNamed B.named, fun w hw => atoms_spec (ws := Cond.code yX3_readTimes cX3_readTimes 1 none :: ml_T) B.pre w (List.mem_cons_of_mem _ hw), hK, B.notSynchronized, B.returns⟩
  have hl := lv_entry [.ref (base + (9 : Int).toNat)] (n := 1) (Nat.le_of_ble_eq_true rfl)
  rw [lg_entry_eq]
  generalize (lg_sl [.ref (base + (9 : Int).toNat)] ++ List.replicate (1 - (lg_sl [.ref (base + (9 : Int).toNat)]).length) Slot.unset).toArray = ls at hl ⊢
  have hl : lv_has ls 1 [(0, .ref (base + (9 : Int).toNat))] := hl
  unfold f_X3_readTimes at hw
  exact u_X3_readTimes_0 X hn σ  _ (lv_sub hl [0] rfl) hw s.heap [] hP va_S.rf hok hro
theorem dX3_take_0 : decode cX3_take 0 = .ok (.aload_n 0, 1) := by decide +kernel
theorem dX3_take_1 : decode cX3_take 1 = .ok (.getfield 17, 3) := by decide +kernel
theorem dX3_take_4 : decode cX3_take 4 = .ok (.aload_n 0, 1) := by decide +kernel
theorem dX3_take_5 : decode cX3_take 5 = .ok (.getfield 13, 3) := by decide +kernel
theorem dX3_take_8 : decode cX3_take 8 = .ok (.if_icmp .ge 15, 3) := by decide +kernel
theorem dX3_take_11 : decode cX3_take 11 = .ok (.aload_n 0, 1) := by decide +kernel
theorem dX3_take_12 : decode cX3_take 12 = .ok (.getfield 7, 3) := by decide +kernel
theorem dX3_take_15 : decode cX3_take 15 = .ok (.aload_n 0, 1) := by decide +kernel
theorem dX3_take_16 : decode cX3_take 16 = .ok (.getfield 17, 3) := by decide +kernel
theorem dX3_take_19 : decode cX3_take 19 = .ok (.baload, 1) := by decide +kernel
theorem dX3_take_20 : decode cX3_take 20 = .ok (.goto 5, 3) := by decide +kernel
theorem dX3_take_23 : decode cX3_take 23 = .ok (.bipush 48, 2) := by decide +kernel
theorem dX3_take_25 : decode cX3_take 25 = .ok (.istore_n 1, 1) := by decide +kernel
theorem dX3_take_26 : decode cX3_take 26 = .ok (.aload_n 0, 1) := by decide +kernel
theorem dX3_take_27 : decode cX3_take 27 = .ok (.dup, 1) := by decide +kernel
theorem dX3_take_28 : decode cX3_take 28 = .ok (.getfield 17, 3) := by decide +kernel
theorem dX3_take_31 : decode cX3_take 31 = .ok (.iconst 1, 1) := by decide +kernel
theorem dX3_take_32 : decode cX3_take 32 = .ok (.iadd, 1) := by decide +kernel
theorem dX3_take_33 : decode cX3_take 33 = .ok (.putfield 17, 3) := by decide +kernel
theorem dX3_take_36 : decode cX3_take 36 = .ok (.iload_n 1, 1) := by decide +kernel
theorem dX3_take_37 : decode cX3_take 37 = .ok (.ireturn, 1) := by decide +kernel
def f_X3_take_u25 (Q : Int → ml_St → Prop) (σ : ml_St) (s0 : Int) : Prop :=
∀ _ : I32 (σ 9 2),
I32 ((σ 9 2) + 1) ∧
∀ σ3, σ3 = ml_up σ 9 2 ((σ 9 2) + 1) →
Q s0 σ3
def f_X3_take_u0 (Q : Int → ml_St → Prop) (σ : ml_St) : Prop :=
∀ _ : I32 (σ 9 2),
∀ _ : I32 (σ 9 1),
((σ 9 1) ≤ ((σ 9 2) : Int) →
f_X3_take_u25 Q σ 48) ∧
(¬ ((σ 9 1) ≤ ((σ 9 2) : Int)) →
ml_tx (σ 9 0) ∧
∀ _ : I32 (σ 9 2),
(0 : Int) ≤ (σ 9 2) ∧ ((σ 9 2) : Int) < 100 ∧
∀ _ : ml_I8 (σ (σ 9 0) (σ 9 2)),
f_X3_take_u25 Q σ (σ (σ 9 0) (σ 9 2)))
def f_X3_take (σ : ml_St) (Q : Int → ml_St → Prop) : Prop := f_X3_take_u0 Q σ
def rm_X3_take : Room := { frames := 0, cells := 0, slots := 0, locals := 0 }
set_option maxRecDepth 100000 in
set_option maxHeartbeats 4000000 in
theorem u_X3_take_25 {p : Program} {e : Env} {s : State} {m : MethodId} {args : Array Value} {below : List Frame} {meth : Method} {c : Code} {base : Nat} {D : va_G} {cA : Nat → ClassId} {n : Nat} {l : Launch} {Q : Int → ml_St → Prop} (X : ml_X p s m c meth args D cA cX3_take 2 RX3 (some .int)) (hn : 214 ≤ n) (σ : ml_St) (s0 : Int) (h_s0 : ml_I8 s0) (ls : Array Slot) (hl : lv_has ls 2 [(0, .ref (base + (9 : Int).toNat))]) (hw : f_X3_take_u25 Q σ s0) : ml_V p l e rm_X3_take s m args below meth c (MQ below (ml_Qi I32 base D cA n Q) args s 0 0 (ml_A base)) base D cA 0 0 n n σ (F0 m 25 ls [.int (Int32.ofInt s0)]) := by
  unfold f_X3_take_u25 at hw
  refine ml_istore_n (pc := 25) X rfl hl (by decide) (lst' := [(1, .int (Int32.ofInt s0)), (0, .ref (base + (9 : Int).toNat))]) rfl dX3_take_25 (fun ls hl => ?_)
  refine ml_aload_n (pc := 26) X hl 1 rfl rfl dX3_take_26 ?_
  refine ml_dup (pc := 27) X dX3_take_27 rfl ?_
  refine gf_X3_17 (pc := 28) X (ml_c9 hn) dX3_take_28 (fun r1 => ?_)
  have hw := hw r1
  refine ml_iconst (pc := 31) X dX3_take_31 ?_
  obtain ⟨v2, hw⟩ := hw
  refine ml_iadd (pc := 32) X dX3_take_32 ?_
  refine pf_X3_17 (pc := 33) X (ml_c9 hn) v2 dX3_take_33 (fun σ3 g3 => ?_)
  have hw := hw σ3 g3
  refine ml_iload_n (pc := 36) X hl 0 rfl rfl dX3_take_36 ?_
  exact ml_iret (pc := 37) X h_s0.i hw dX3_take_37
set_option maxRecDepth 100000 in
set_option maxHeartbeats 4000000 in
theorem u_X3_take_0 {p : Program} {e : Env} {s : State} {m : MethodId} {args : Array Value} {below : List Frame} {meth : Method} {c : Code} {base : Nat} {D : va_G} {cA : Nat → ClassId} {n : Nat} {l : Launch} {Q : Int → ml_St → Prop} (X : ml_X p s m c meth args D cA cX3_take 2 RX3 (some .int)) (hn : 214 ≤ n) (σ : ml_St) (ls : Array Slot) (hl : lv_has ls 2 [(0, .ref (base + (9 : Int).toNat))]) (hw : f_X3_take_u0 Q σ) : ml_V p l e rm_X3_take s m args below meth c (MQ below (ml_Qi I32 base D cA n Q) args s 0 0 (ml_A base)) base D cA 0 0 n n σ (F0 m 0 ls []) := by
  unfold f_X3_take_u0 at hw
  refine ml_aload_n (pc := 0) X hl 0 rfl rfl dX3_take_0 ?_
  refine gf_X3_17 (pc := 1) X (ml_c9 hn) dX3_take_1 (fun r1 => ?_)
  have hw := hw r1
  refine ml_aload_n (pc := 4) X hl 0 rfl rfl dX3_take_4 ?_
  refine gf_X3_13 (pc := 5) X (ml_c9 hn) dX3_take_5 (fun r2 => ?_)
  have hw := hw r2
  refine ml_icmp_ge (pc := 8) (tgt := 23) X r1 r2 dX3_take_8 (by decide) (fun c3 => ?_) (fun c3 => ?_)
  · have hw := hw.1 c3
    refine ml_bipush (pc := 23) X dX3_take_23 (by decide) ?_
    exact u_X3_take_25 X hn σ 48 ⟨by decide, by decide⟩ _ (lv_sub hl [0] rfl) hw
  · have hw := hw.2 c3
    refine ml_aload_n (pc := 11) X hl 0 rfl rfl dX3_take_11 ?_
    obtain ⟨a4, hw⟩ := hw
    refine gf_X3_7 (pc := 12) X (ml_c9 hn) a4 dX3_take_12 ?_
    refine ml_aload_n (pc := 15) X hl 0 rfl rfl dX3_take_15 ?_
    refine gf_X3_17 (pc := 16) X (ml_c9 hn) dX3_take_16 (fun r5 => ?_)
    have hw := hw r5
    obtain ⟨a6, b6, hw⟩ := hw
    refine ml_bald (pc := 19) (N := 100) X (ml_txat hn a4) a6 b6 dX3_take_19 (fun r6 => ?_)
    have hw := hw r6
    refine ml_goto (pc := 20) (tgt := 25) X dX3_take_20 (by decide) ?_
    exact u_X3_take_25 X hn σ (σ (σ 9 0) (σ 9 2)) r6 _ (lv_sub hl [0] rfl) hw
set_option maxRecDepth 100000 in
theorem c_X3_take (l : Launch) (base : Nat) (D : va_G) (cA : Nat → ClassId) (n : Nat) (hn : 214 ≤ n) (σ : ml_St) (Q : Int → ml_St → Prop) (hw : f_X3_take σ Q) : Met l yX3_take (Cond.code yX3_take cX3_take 2 (some .int) :: ml_T) rm_X3_take (va_Pc [.ref (base + (9 : Int).toNat)] (ml_U base D cA n σ)) (ml_Qi I32 base D cA n Q) 0 0 (ml_A base) := by
  refine Met.ofW (cc := cX3_take) (maxL := 2) (ret := (some .int)) (by decide) rfl ?_
  intro p e s m args below meth c s₁ B hml hv
  obtain ⟨rfl, hP, hK, hok, hro⟩ := hv
  have X : ml_X p s m c meth _ D cA cX3_take 2 RX3 (some .int) := ⟨B.exec, B.bytes, hml, findClass_of_methodNamed B.named, fun w hw => atoms_spec (ws := Cond.code yX3_take cX3_take 2 (some .int) :: ml_T) B.pre w (List.mem_cons_of_mem _ hw), hK, B.notSynchronized, B.returns⟩
  have hl := lv_entry [.ref (base + (9 : Int).toNat)] (n := 2) (Nat.le_of_ble_eq_true rfl)
  rw [lg_entry_eq]
  generalize (lg_sl [.ref (base + (9 : Int).toNat)] ++ List.replicate (2 - (lg_sl [.ref (base + (9 : Int).toNat)]).length) Slot.unset).toArray = ls at hl ⊢
  have hl : lv_has ls 2 [(0, .ref (base + (9 : Int).toNat))] := hl
  unfold f_X3_take at hw
  exact u_X3_take_0 X hn σ  _ (lv_sub hl [0] rfl) hw s.heap [] hP va_S.rf hok hro
theorem dX3_step_0 : decode cX3_step 0 = .ok (.aload_n 0, 1) := by decide +kernel
theorem dX3_step_1 : decode cX3_step 1 = .ok (.getfield 17, 3) := by decide +kernel
theorem dX3_step_4 : decode cX3_step 4 = .ok (.aload_n 0, 1) := by decide +kernel
theorem dX3_step_5 : decode cX3_step 5 = .ok (.getfield 13, 3) := by decide +kernel
theorem dX3_step_8 : decode cX3_step 8 = .ok (.if_icmp .lt 5, 3) := by decide +kernel
theorem dX3_step_11 : decode cX3_step 11 = .ok (.iconst 0, 1) := by decide +kernel
theorem dX3_step_12 : decode cX3_step 12 = .ok (.ireturn, 1) := by decide +kernel
theorem dX3_step_13 : decode cX3_step 13 = .ok (.aload_n 0, 1) := by decide +kernel
theorem dX3_step_14 : decode cX3_step 14 = .ok (.invokevirtual 29, 3) := by decide +kernel
theorem dX3_step_17 : decode cX3_step 17 = .ok (.istore_n 1, 1) := by decide +kernel
theorem dX3_step_18 : decode cX3_step 18 = .ok (.aload_n 0, 1) := by decide +kernel
theorem dX3_step_19 : decode cX3_step 19 = .ok (.iconst 1, 1) := by decide +kernel
theorem dX3_step_20 : decode cX3_step 20 = .ok (.putfield 26, 3) := by decide +kernel
theorem dX3_step_23 : decode cX3_step 23 = .ok (.iload_n 1, 1) := by decide +kernel
theorem dX3_step_24 : decode cX3_step 24 = .ok (.bipush 40, 2) := by decide +kernel
theorem dX3_step_26 : decode cX3_step 26 = .ok (.if_icmp .ne 10, 3) := by decide +kernel
theorem dX3_step_29 : decode cX3_step 29 = .ok (.aload_n 0, 1) := by decide +kernel
theorem dX3_step_30 : decode cX3_step 30 = .ok (.iconst 0, 1) := by decide +kernel
theorem dX3_step_31 : decode cX3_step 31 = .ok (.putfield 20, 3) := by decide +kernel
theorem dX3_step_34 : decode cX3_step 34 = .ok (.iconst 1, 1) := by decide +kernel
theorem dX3_step_35 : decode cX3_step 35 = .ok (.ireturn, 1) := by decide +kernel
theorem dX3_step_36 : decode cX3_step 36 = .ok (.iload_n 1, 1) := by decide +kernel
theorem dX3_step_37 : decode cX3_step 37 = .ok (.bipush 41, 2) := by decide +kernel
theorem dX3_step_39 : decode cX3_step 39 = .ok (.if_icmp .ne 11, 3) := by decide +kernel
theorem dX3_step_42 : decode cX3_step 42 = .ok (.aload_n 0, 1) := by decide +kernel
theorem dX3_step_43 : decode cX3_step 43 = .ok (.iconst 1, 1) := by decide +kernel
theorem dX3_step_44 : decode cX3_step 44 = .ok (.putfield 20, 3) := by decide +kernel
theorem dX3_step_47 : decode cX3_step 47 = .ok (.goto 61, 3) := by decide +kernel
theorem dX3_step_50 : decode cX3_step 50 = .ok (.iload_n 1, 1) := by decide +kernel
theorem dX3_step_51 : decode cX3_step 51 = .ok (.bipush 120, 2) := by decide +kernel
theorem dX3_step_53 : decode cX3_step 53 = .ok (.if_icmp .eq 9, 3) := by decide +kernel
theorem dX3_step_56 : decode cX3_step 56 = .ok (.iload_n 1, 1) := by decide +kernel
theorem dX3_step_57 : decode cX3_step 57 = .ok (.bipush 117, 2) := by decide +kernel
theorem dX3_step_59 : decode cX3_step 59 = .ok (.if_icmp .ne 36, 3) := by decide +kernel
theorem dX3_step_62 : decode cX3_step 62 = .ok (.aload_n 0, 1) := by decide +kernel
theorem dX3_step_63 : decode cX3_step 63 = .ok (.iconst 2, 1) := by decide +kernel
theorem dX3_step_64 : decode cX3_step 64 = .ok (.putfield 20, 3) := by decide +kernel
theorem dX3_step_67 : decode cX3_step 67 = .ok (.aload_n 0, 1) := by decide +kernel
theorem dX3_step_68 : decode cX3_step 68 = .ok (.iconst 2, 1) := by decide +kernel
theorem dX3_step_69 : decode cX3_step 69 = .ok (.aload_n 0, 1) := by decide +kernel
theorem dX3_step_70 : decode cX3_step 70 = .ok (.invokevirtual 29, 3) := by decide +kernel
theorem dX3_step_73 : decode cX3_step 73 = .ok (.bipush 48, 2) := by decide +kernel
theorem dX3_step_75 : decode cX3_step 75 = .ok (.isub, 1) := by decide +kernel
theorem dX3_step_76 : decode cX3_step 76 = .ok (.imul, 1) := by decide +kernel
theorem dX3_step_77 : decode cX3_step 77 = .ok (.iload_n 1, 1) := by decide +kernel
theorem dX3_step_78 : decode cX3_step 78 = .ok (.bipush 117, 2) := by decide +kernel
theorem dX3_step_80 : decode cX3_step 80 = .ok (.if_icmp .ne 7, 3) := by decide +kernel
theorem dX3_step_83 : decode cX3_step 83 = .ok (.iconst 1, 1) := by decide +kernel
theorem dX3_step_84 : decode cX3_step 84 = .ok (.goto 4, 3) := by decide +kernel
theorem dX3_step_87 : decode cX3_step 87 = .ok (.iconst 0, 1) := by decide +kernel
theorem dX3_step_88 : decode cX3_step 88 = .ok (.iadd, 1) := by decide +kernel
theorem dX3_step_89 : decode cX3_step 89 = .ok (.putfield 23, 3) := by decide +kernel
theorem dX3_step_92 : decode cX3_step 92 = .ok (.goto 16, 3) := by decide +kernel
theorem dX3_step_95 : decode cX3_step 95 = .ok (.aload_n 0, 1) := by decide +kernel
theorem dX3_step_96 : decode cX3_step 96 = .ok (.iconst 3, 1) := by decide +kernel
theorem dX3_step_97 : decode cX3_step 97 = .ok (.putfield 20, 3) := by decide +kernel
theorem dX3_step_100 : decode cX3_step 100 = .ok (.aload_n 0, 1) := by decide +kernel
theorem dX3_step_101 : decode cX3_step 101 = .ok (.iload_n 1, 1) := by decide +kernel
theorem dX3_step_102 : decode cX3_step 102 = .ok (.bipush 65, 2) := by decide +kernel
theorem dX3_step_104 : decode cX3_step 104 = .ok (.isub, 1) := by decide +kernel
theorem dX3_step_105 : decode cX3_step 105 = .ok (.putfield 23, 3) := by decide +kernel
theorem dX3_step_108 : decode cX3_step 108 = .ok (.aload_n 0, 1) := by decide +kernel
theorem dX3_step_109 : decode cX3_step 109 = .ok (.getfield 17, 3) := by decide +kernel
theorem dX3_step_112 : decode cX3_step 112 = .ok (.aload_n 0, 1) := by decide +kernel
theorem dX3_step_113 : decode cX3_step 113 = .ok (.getfield 13, 3) := by decide +kernel
theorem dX3_step_116 : decode cX3_step 116 = .ok (.if_icmp .ge 21, 3) := by decide +kernel
theorem dX3_step_119 : decode cX3_step 119 = .ok (.aload_n 0, 1) := by decide +kernel
theorem dX3_step_120 : decode cX3_step 120 = .ok (.getfield 7, 3) := by decide +kernel
theorem dX3_step_123 : decode cX3_step 123 = .ok (.aload_n 0, 1) := by decide +kernel
theorem dX3_step_124 : decode cX3_step 124 = .ok (.getfield 17, 3) := by decide +kernel
theorem dX3_step_127 : decode cX3_step 127 = .ok (.baload, 1) := by decide +kernel
theorem dX3_step_128 : decode cX3_step 128 = .ok (.bipush 42, 2) := by decide +kernel
theorem dX3_step_130 : decode cX3_step 130 = .ok (.if_icmp .ne 7, 3) := by decide +kernel
theorem dX3_step_133 : decode cX3_step 133 = .ok (.aload_n 0, 1) := by decide +kernel
theorem dX3_step_134 : decode cX3_step 134 = .ok (.invokevirtual 33, 3) := by decide +kernel
theorem dX3_step_137 : decode cX3_step 137 = .ok (.iconst 1, 1) := by decide +kernel
theorem dX3_step_138 : decode cX3_step 138 = .ok (.ireturn, 1) := by decide +kernel
def f_X3_step_u137 (Q : Int → ml_St → Prop) (σ : ml_St) : Prop :=
Q 1 σ
def f_X3_step_u108 (Q : Int → ml_St → Prop) (σ : ml_St) : Prop :=
∀ _ : I32 (σ 9 2),
∀ _ : I32 (σ 9 1),
((σ 9 1) ≤ ((σ 9 2) : Int) →
f_X3_step_u137 Q σ) ∧
(¬ ((σ 9 1) ≤ ((σ 9 2) : Int)) →
ml_tx (σ 9 0) ∧
∀ _ : I32 (σ 9 2),
(0 : Int) ≤ (σ 9 2) ∧ ((σ 9 2) : Int) < 100 ∧
∀ _ : ml_I8 (σ (σ 9 0) (σ 9 2)),
(((σ (σ 9 0) (σ 9 2)) : Int) ≠ 42 →
f_X3_step_u137 Q σ) ∧
((σ (σ 9 0) (σ 9 2)) = 42 →
f_X3_readTimes σ (fun σ8 =>
f_X3_step_u137 Q σ8)))
def f_X3_step_u88 (Q : Int → ml_St → Prop) (σ : ml_St) (s1 : Int) (s2 : Int) : Prop :=
I32 (s1 + s2) ∧
∀ σ2, σ2 = ml_up σ 9 4 (s1 + s2) →
f_X3_step_u108 Q σ2
def f_X3_step_u62 (Q : Int → ml_St → Prop) (σ : ml_St) (x1 : Int) : Prop :=
∀ σ1, σ1 = ml_up σ 9 3 2 →
f_X3_take σ1 (fun r2 σ2 => ∀ _ : I32 r2,
I32 (r2 - 48) ∧
I32 (2 * (r2 - 48)) ∧
(x1 ≠ 117 →
f_X3_step_u88 Q σ2 (2 * (r2 - 48)) 0) ∧
(x1 = 117 →
f_X3_step_u88 Q σ2 (2 * (r2 - 48)) 1))
def f_X3_step_u0 (Q : Int → ml_St → Prop) (σ : ml_St) : Prop :=
∀ _ : I32 (σ 9 2),
∀ _ : I32 (σ 9 1),
(((σ 9 2) : Int) < (σ 9 1) →
f_X3_take σ (fun r4 σ4 => ∀ _ : I32 r4,
∀ σ5, σ5 = ml_up σ4 9 5 1 →
(r4 ≠ 40 →
(r4 ≠ 41 →
(r4 = 120 →
f_X3_step_u62 Q σ5 r4) ∧
(r4 ≠ 120 →
(r4 ≠ 117 →
∀ σ10, σ10 = ml_up σ5 9 3 3 →
I32 (r4 - 65) ∧
∀ σ12, σ12 = ml_up σ10 9 4 (r4 - 65) →
f_X3_step_u108 Q σ12) ∧
(r4 = 117 →
f_X3_step_u62 Q σ5 r4))) ∧
(r4 = 41 →
∀ σ13, σ13 = ml_up σ5 9 3 1 →
f_X3_step_u108 Q σ13)) ∧
(r4 = 40 →
∀ σ14, σ14 = ml_up σ5 9 3 0 →
Q 1 σ14))) ∧
(¬ (((σ 9 2) : Int) < (σ 9 1)) →
Q 0 σ)
def f_X3_step (σ : ml_St) (Q : Int → ml_St → Prop) : Prop := f_X3_step_u0 Q σ
def rm_X3_step : Room := { frames := 2, cells := 0, slots := 0, locals := 40 }
set_option maxRecDepth 100000 in
set_option maxHeartbeats 4000000 in
theorem u_X3_step_137 {p : Program} {e : Env} {s : State} {m : MethodId} {args : Array Value} {below : List Frame} {meth : Method} {c : Code} {base : Nat} {D : va_G} {cA : Nat → ClassId} {n : Nat} {l : Launch} {Q : Int → ml_St → Prop} (X : ml_X p s m c meth args D cA cX3_step 2 RX3 (some .boolean)) (hn : 214 ≤ n) (σ : ml_St) (ls : Array Slot) (hl : lv_has ls 2 []) (hw : f_X3_step_u137 Q σ) : ml_V p l e rm_X3_step s m args below meth c (MQ below (ml_Qi ml_B base D cA n Q) args s 0 0 (ml_A base)) base D cA 0 0 n n σ (F0 m 137 ls []) := by
  unfold f_X3_step_u137 at hw
  refine ml_iconst (pc := 137) X dX3_step_137 ?_
  exact ml_zret (pc := 138) X ⟨by decide, by decide⟩ hw dX3_step_138
set_option maxRecDepth 100000 in
set_option maxHeartbeats 4000000 in
theorem u_X3_step_108 {p : Program} {e : Env} {s : State} {m : MethodId} {args : Array Value} {below : List Frame} {meth : Method} {c : Code} {base : Nat} {D : va_G} {cA : Nat → ClassId} {n : Nat} {l : Launch} {Q : Int → ml_St → Prop} (X : ml_X p s m c meth args D cA cX3_step 2 RX3 (some .boolean)) (hn : 214 ≤ n) (σ : ml_St) (ls : Array Slot) (hl : lv_has ls 2 [(0, .ref (base + (9 : Int).toNat))]) (hw : f_X3_step_u108 Q σ) : ml_V p l e rm_X3_step s m args below meth c (MQ below (ml_Qi ml_B base D cA n Q) args s 0 0 (ml_A base)) base D cA 0 0 n n σ (F0 m 108 ls []) := by
  unfold f_X3_step_u108 at hw
  refine ml_aload_n (pc := 108) X hl 0 rfl rfl dX3_step_108 ?_
  refine gf_X3_17 (pc := 109) X (ml_c9 hn) dX3_step_109 (fun r1 => ?_)
  have hw := hw r1
  refine ml_aload_n (pc := 112) X hl 0 rfl rfl dX3_step_112 ?_
  refine gf_X3_13 (pc := 113) X (ml_c9 hn) dX3_step_113 (fun r2 => ?_)
  have hw := hw r2
  refine ml_icmp_ge (pc := 116) (tgt := 137) X r1 r2 dX3_step_116 (by decide) (fun c3 => ?_) (fun c3 => ?_)
  · have hw := hw.1 c3
    exact u_X3_step_137 X hn σ   _ (lv_sub hl [] rfl) hw
  · have hw := hw.2 c3
    refine ml_aload_n (pc := 119) X hl 0 rfl rfl dX3_step_119 ?_
    obtain ⟨a4, hw⟩ := hw
    refine gf_X3_7 (pc := 120) X (ml_c9 hn) a4 dX3_step_120 ?_
    refine ml_aload_n (pc := 123) X hl 0 rfl rfl dX3_step_123 ?_
    refine gf_X3_17 (pc := 124) X (ml_c9 hn) dX3_step_124 (fun r5 => ?_)
    have hw := hw r5
    obtain ⟨a6, b6, hw⟩ := hw
    refine ml_bald (pc := 127) (N := 100) X (ml_txat hn a4) a6 b6 dX3_step_127 (fun r6 => ?_)
    have hw := hw r6
    refine ml_bipush (pc := 128) X dX3_step_128 (by decide) ?_
    refine ml_icmp_ne (pc := 130) (tgt := 137) X r6.i ⟨by decide, by decide⟩ dX3_step_130 (by decide) (fun c7 => ?_) (fun c7 => ?_)
    · have hw := hw.1 c7
      exact u_X3_step_137 X hn σ   _ (lv_sub hl [] rfl) hw
    · have hw := hw.2 c7
      refine ml_aload_n (pc := 133) X hl 0 rfl rfl dX3_step_133 ?_
      refine ml_callvV (pc := 134) (rest := []) X [] (by decide) rfl (ml_c9 hn) (c_X3_readTimes l base D cA n hn σ _ hw) cv_X3_33 ⟨rfl, rfl⟩ ⟨by decide, by decide⟩ rfl rfl hl (Nat.le_of_ble_eq_true rfl) ⟨Nat.zero_le _, Nat.zero_le _⟩ dX3_step_134 (fun σ8 hw => ?_)
      exact u_X3_step_137 X hn σ8   _ (lv_sub hl [] rfl) hw
set_option maxRecDepth 100000 in
set_option maxHeartbeats 4000000 in
theorem u_X3_step_88 {p : Program} {e : Env} {s : State} {m : MethodId} {args : Array Value} {below : List Frame} {meth : Method} {c : Code} {base : Nat} {D : va_G} {cA : Nat → ClassId} {n : Nat} {l : Launch} {Q : Int → ml_St → Prop} (X : ml_X p s m c meth args D cA cX3_step 2 RX3 (some .boolean)) (hn : 214 ≤ n) (σ : ml_St) (s1 : Int) (s2 : Int) (h_s1 : I32 s1) (h_s2 : ml_B s2) (ls : Array Slot) (hl : lv_has ls 2 [(0, .ref (base + (9 : Int).toNat))]) (hw : f_X3_step_u88 Q σ s1 s2) : ml_V p l e rm_X3_step s m args below meth c (MQ below (ml_Qi ml_B base D cA n Q) args s 0 0 (ml_A base)) base D cA 0 0 n n σ (F0 m 88 ls [.int (Int32.ofInt s2), .int (Int32.ofInt s1), .ref (base + (9 : Int).toNat)]) := by
  unfold f_X3_step_u88 at hw
  obtain ⟨v1, hw⟩ := hw
  refine ml_iadd (pc := 88) X dX3_step_88 ?_
  refine pf_X3_23 (pc := 89) X (ml_c9 hn) v1 dX3_step_89 (fun σ2 g2 => ?_)
  have hw := hw σ2 g2
  refine ml_goto (pc := 92) (tgt := 108) X dX3_step_92 (by decide) ?_
  exact u_X3_step_108 X hn σ2   _ (lv_sub hl [0] rfl) hw
set_option maxRecDepth 100000 in
set_option maxHeartbeats 4000000 in
theorem u_X3_step_62 {p : Program} {e : Env} {s : State} {m : MethodId} {args : Array Value} {below : List Frame} {meth : Method} {c : Code} {base : Nat} {D : va_G} {cA : Nat → ClassId} {n : Nat} {l : Launch} {Q : Int → ml_St → Prop} (X : ml_X p s m c meth args D cA cX3_step 2 RX3 (some .boolean)) (hn : 214 ≤ n) (σ : ml_St) (x1 : Int) (h_x1 : I32 x1) (ls : Array Slot) (hl : lv_has ls 2 [(0, .ref (base + (9 : Int).toNat)), (1, .int (Int32.ofInt x1))]) (hw : f_X3_step_u62 Q σ x1) : ml_V p l e rm_X3_step s m args below meth c (MQ below (ml_Qi ml_B base D cA n Q) args s 0 0 (ml_A base)) base D cA 0 0 n n σ (F0 m 62 ls []) := by
  unfold f_X3_step_u62 at hw
  refine ml_aload_n (pc := 62) X hl 0 rfl rfl dX3_step_62 ?_
  refine ml_iconst (pc := 63) X dX3_step_63 ?_
  refine pf_X3_20 (pc := 64) X (ml_c9 hn) ⟨by decide, by decide⟩ dX3_step_64 (fun σ1 g1 => ?_)
  have hw := hw σ1 g1
  refine ml_aload_n (pc := 67) X hl 0 rfl rfl dX3_step_67 ?_
  refine ml_iconst (pc := 68) X dX3_step_68 ?_
  refine ml_aload_n (pc := 69) X hl 0 rfl rfl dX3_step_69 ?_
  refine ml_calliV (pc := 70) (rest := [.int (Int32.ofInt 2), .ref (base + (9 : Int).toNat)]) X [] (by decide) rfl (ml_c9 hn) (c_X3_take l base D cA n hn σ1 _ hw) cv_X3_29 ⟨rfl, rfl⟩ ⟨by decide, by decide⟩ rfl rfl hl (Nat.le_of_ble_eq_true rfl) ⟨Nat.zero_le _, Nat.zero_le _⟩ dX3_step_70 (fun r2 σ2 t2 hw => ?_)
  have hw := hw t2
  refine ml_bipush (pc := 73) X dX3_step_73 (by decide) ?_
  obtain ⟨v3, hw⟩ := hw
  refine ml_isub (pc := 75) X dX3_step_75 ?_
  obtain ⟨v4, hw⟩ := hw
  refine ml_imul (pc := 76) X dX3_step_76 ?_
  refine ml_iload_n (pc := 77) X hl 1 rfl rfl dX3_step_77 ?_
  refine ml_bipush (pc := 78) X dX3_step_78 (by decide) ?_
  refine ml_icmp_ne (pc := 80) (tgt := 87) X h_x1 ⟨by decide, by decide⟩ dX3_step_80 (by decide) (fun c5 => ?_) (fun c5 => ?_)
  · have hw := hw.1 c5
    refine ml_iconst (pc := 87) X dX3_step_87 ?_
    exact u_X3_step_88 X hn σ2 (2 * (r2 - 48)) 0 v4 ⟨by decide, by decide⟩ _ (lv_sub hl [0] rfl) hw
  · have hw := hw.2 c5
    refine ml_iconst (pc := 83) X dX3_step_83 ?_
    refine ml_goto (pc := 84) (tgt := 88) X dX3_step_84 (by decide) ?_
    exact u_X3_step_88 X hn σ2 (2 * (r2 - 48)) 1 v4 ⟨by decide, by decide⟩ _ (lv_sub hl [0] rfl) hw
set_option maxRecDepth 100000 in
set_option maxHeartbeats 4000000 in
theorem u_X3_step_0 {p : Program} {e : Env} {s : State} {m : MethodId} {args : Array Value} {below : List Frame} {meth : Method} {c : Code} {base : Nat} {D : va_G} {cA : Nat → ClassId} {n : Nat} {l : Launch} {Q : Int → ml_St → Prop} (X : ml_X p s m c meth args D cA cX3_step 2 RX3 (some .boolean)) (hn : 214 ≤ n) (σ : ml_St) (ls : Array Slot) (hl : lv_has ls 2 [(0, .ref (base + (9 : Int).toNat))]) (hw : f_X3_step_u0 Q σ) : ml_V p l e rm_X3_step s m args below meth c (MQ below (ml_Qi ml_B base D cA n Q) args s 0 0 (ml_A base)) base D cA 0 0 n n σ (F0 m 0 ls []) := by
  unfold f_X3_step_u0 at hw
  refine ml_aload_n (pc := 0) X hl 0 rfl rfl dX3_step_0 ?_
  refine gf_X3_17 (pc := 1) X (ml_c9 hn) dX3_step_1 (fun r1 => ?_)
  have hw := hw r1
  refine ml_aload_n (pc := 4) X hl 0 rfl rfl dX3_step_4 ?_
  refine gf_X3_13 (pc := 5) X (ml_c9 hn) dX3_step_5 (fun r2 => ?_)
  have hw := hw r2
  refine ml_icmp_lt (pc := 8) (tgt := 13) X r1 r2 dX3_step_8 (by decide) (fun c3 => ?_) (fun c3 => ?_)
  · have hw := hw.1 c3
    refine ml_aload_n (pc := 13) X hl 0 rfl rfl dX3_step_13 ?_
    refine ml_calliV (pc := 14) (rest := []) X [] (by decide) rfl (ml_c9 hn) (c_X3_take l base D cA n hn σ _ hw) cv_X3_29 ⟨rfl, rfl⟩ ⟨by decide, by decide⟩ rfl rfl hl (Nat.le_of_ble_eq_true rfl) ⟨Nat.zero_le _, Nat.zero_le _⟩ dX3_step_14 (fun r4 σ4 t4 hw => ?_)
    have hw := hw t4
    refine ml_istore_n (pc := 17) X rfl hl (by decide) (lst' := [(1, .int (Int32.ofInt r4)), (0, .ref (base + (9 : Int).toNat))]) rfl dX3_step_17 (fun ls hl => ?_)
    refine ml_aload_n (pc := 18) X hl 1 rfl rfl dX3_step_18 ?_
    refine ml_iconst (pc := 19) X dX3_step_19 ?_
    refine pf_X3_26 (pc := 20) X (ml_c9 hn) ⟨by decide, by decide⟩ dX3_step_20 (fun σ5 g5 => ?_)
    have hw := hw σ5 g5
    refine ml_iload_n (pc := 23) X hl 0 rfl rfl dX3_step_23 ?_
    refine ml_bipush (pc := 24) X dX3_step_24 (by decide) ?_
    refine ml_icmp_ne (pc := 26) (tgt := 36) X t4 ⟨by decide, by decide⟩ dX3_step_26 (by decide) (fun c6 => ?_) (fun c6 => ?_)
    · have hw := hw.1 c6
      refine ml_iload_n (pc := 36) X hl 0 rfl rfl dX3_step_36 ?_
      refine ml_bipush (pc := 37) X dX3_step_37 (by decide) ?_
      refine ml_icmp_ne (pc := 39) (tgt := 50) X t4 ⟨by decide, by decide⟩ dX3_step_39 (by decide) (fun c7 => ?_) (fun c7 => ?_)
      · have hw := hw.1 c7
        refine ml_iload_n (pc := 50) X hl 0 rfl rfl dX3_step_50 ?_
        refine ml_bipush (pc := 51) X dX3_step_51 (by decide) ?_
        refine ml_icmp_eq (pc := 53) (tgt := 62) X t4 ⟨by decide, by decide⟩ dX3_step_53 (by decide) (fun c8 => ?_) (fun c8 => ?_)
        · have hw := hw.1 c8
          exact u_X3_step_62 X hn σ5 r4 t4 _ (lv_sub hl [1, 0] rfl) hw
        · have hw := hw.2 c8
          refine ml_iload_n (pc := 56) X hl 0 rfl rfl dX3_step_56 ?_
          refine ml_bipush (pc := 57) X dX3_step_57 (by decide) ?_
          refine ml_icmp_ne (pc := 59) (tgt := 95) X t4 ⟨by decide, by decide⟩ dX3_step_59 (by decide) (fun c9 => ?_) (fun c9 => ?_)
          · have hw := hw.1 c9
            refine ml_aload_n (pc := 95) X hl 1 rfl rfl dX3_step_95 ?_
            refine ml_iconst (pc := 96) X dX3_step_96 ?_
            refine pf_X3_20 (pc := 97) X (ml_c9 hn) ⟨by decide, by decide⟩ dX3_step_97 (fun σ10 g10 => ?_)
            have hw := hw σ10 g10
            refine ml_aload_n (pc := 100) X hl 1 rfl rfl dX3_step_100 ?_
            refine ml_iload_n (pc := 101) X hl 0 rfl rfl dX3_step_101 ?_
            refine ml_bipush (pc := 102) X dX3_step_102 (by decide) ?_
            obtain ⟨v11, hw⟩ := hw
            refine ml_isub (pc := 104) X dX3_step_104 ?_
            refine pf_X3_23 (pc := 105) X (ml_c9 hn) v11 dX3_step_105 (fun σ12 g12 => ?_)
            have hw := hw σ12 g12
            exact u_X3_step_108 X hn σ12   _ (lv_sub hl [1] rfl) hw
          · have hw := hw.2 c9
            exact u_X3_step_62 X hn σ5 r4 t4 _ (lv_sub hl [1, 0] rfl) hw
      · have hw := hw.2 c7
        refine ml_aload_n (pc := 42) X hl 1 rfl rfl dX3_step_42 ?_
        refine ml_iconst (pc := 43) X dX3_step_43 ?_
        refine pf_X3_20 (pc := 44) X (ml_c9 hn) ⟨by decide, by decide⟩ dX3_step_44 (fun σ13 g13 => ?_)
        have hw := hw σ13 g13
        refine ml_goto (pc := 47) (tgt := 108) X dX3_step_47 (by decide) ?_
        exact u_X3_step_108 X hn σ13   _ (lv_sub hl [1] rfl) hw
    · have hw := hw.2 c6
      refine ml_aload_n (pc := 29) X hl 1 rfl rfl dX3_step_29 ?_
      refine ml_iconst (pc := 30) X dX3_step_30 ?_
      refine pf_X3_20 (pc := 31) X (ml_c9 hn) ⟨by decide, by decide⟩ dX3_step_31 (fun σ14 g14 => ?_)
      have hw := hw σ14 g14
      refine ml_iconst (pc := 34) X dX3_step_34 ?_
      exact ml_zret (pc := 35) X ⟨by decide, by decide⟩ hw dX3_step_35
  · have hw := hw.2 c3
    refine ml_iconst (pc := 11) X dX3_step_11 ?_
    exact ml_zret (pc := 12) X ⟨by decide, by decide⟩ hw dX3_step_12
set_option maxRecDepth 100000 in
theorem c_X3_step (l : Launch) (base : Nat) (D : va_G) (cA : Nat → ClassId) (n : Nat) (hn : 214 ≤ n) (σ : ml_St) (Q : Int → ml_St → Prop) (hw : f_X3_step σ Q) : Met l yX3_step (Cond.code yX3_step cX3_step 2 (some .boolean) :: ml_T) rm_X3_step (va_Pc [.ref (base + (9 : Int).toNat)] (ml_U base D cA n σ)) (ml_Qi ml_B base D cA n Q) 0 0 (ml_A base) := by
  refine Met.ofW (cc := cX3_step) (maxL := 2) (ret := (some .boolean)) (by decide) rfl ?_
  intro p e s m args below meth c s₁ B hml hv
  obtain ⟨rfl, hP, hK, hok, hro⟩ := hv
  have X : ml_X p s m c meth _ D cA cX3_step 2 RX3 (some .boolean) := ⟨B.exec, B.bytes, hml, findClass_of_methodNamed B.named, fun w hw => atoms_spec (ws := Cond.code yX3_step cX3_step 2 (some .boolean) :: ml_T) B.pre w (List.mem_cons_of_mem _ hw), hK, B.notSynchronized, B.returns⟩
  have hl := lv_entry [.ref (base + (9 : Int).toNat)] (n := 2) (Nat.le_of_ble_eq_true rfl)
  rw [lg_entry_eq]
  generalize (lg_sl [.ref (base + (9 : Int).toNat)] ++ List.replicate (2 - (lg_sl [.ref (base + (9 : Int).toNat)]).length) Slot.unset).toArray = ls at hl ⊢
  have hl : lv_has ls 2 [(0, .ref (base + (9 : Int).toNat))] := hl
  unfold f_X3_step at hw
  exact u_X3_step_0 X hn σ  _ (lv_sub hl [0] rfl) hw s.heap [] hP va_S.rf hok hro
theorem dX9_addLoop_0 : decode cX9_addLoop 0 = .ok (.iconst 0, 1) := by decide +kernel
theorem dX9_addLoop_1 : decode cX9_addLoop 1 = .ok (.istore 5, 2) := by decide +kernel
theorem dX9_addLoop_3 : decode cX9_addLoop 3 = .ok (.iload_n 1, 1) := by decide +kernel
theorem dX9_addLoop_4 : decode cX9_addLoop 4 = .ok (.istore 6, 2) := by decide +kernel
theorem dX9_addLoop_6 : decode cX9_addLoop 6 = .ok (.lconst 0, 1) := by decide +kernel
theorem dX9_addLoop_7 : decode cX9_addLoop 7 = .ok (.lstore 7, 2) := by decide +kernel
theorem dX9_addLoop_9 : decode cX9_addLoop 9 = .ok (.iconst 0, 1) := by decide +kernel
theorem dX9_addLoop_10 : decode cX9_addLoop 10 = .ok (.istore 9, 2) := by decide +kernel
theorem dX9_addLoop_12 : decode cX9_addLoop 12 = .ok (.iload 5, 2) := by decide +kernel
theorem dX9_addLoop_14 : decode cX9_addLoop 14 = .ok (.iload_n 1, 1) := by decide +kernel
theorem dX9_addLoop_15 : decode cX9_addLoop 15 = .ok (.ishr, 1) := by decide +kernel
theorem dX9_addLoop_16 : decode cX9_addLoop 16 = .ok (.iconst 1, 1) := by decide +kernel
theorem dX9_addLoop_17 : decode cX9_addLoop 17 = .ok (.iand, 1) := by decide +kernel
theorem dX9_addLoop_18 : decode cX9_addLoop 18 = .ok (.ifCond .ne 80, 3) := by decide +kernel
theorem dX9_addLoop_21 : decode cX9_addLoop 21 = .ok (.iload 9, 2) := by decide +kernel
theorem dX9_addLoop_23 : decode cX9_addLoop 23 = .ok (.bipush 10, 2) := by decide +kernel
theorem dX9_addLoop_25 : decode cX9_addLoop 25 = .ok (.if_icmp .gt 73, 3) := by decide +kernel
theorem dX9_addLoop_28 : decode cX9_addLoop 28 = .ok (.aload_n 3, 1) := by decide +kernel
theorem dX9_addLoop_29 : decode cX9_addLoop 29 = .ok (.getfield 9, 3) := by decide +kernel
theorem dX9_addLoop_32 : decode cX9_addLoop 32 = .ok (.iload 6, 2) := by decide +kernel
theorem dX9_addLoop_34 : decode cX9_addLoop 34 = .ok (.iaload, 1) := by decide +kernel
theorem dX9_addLoop_35 : decode cX9_addLoop 35 = .ok (.iload 4, 2) := by decide +kernel
theorem dX9_addLoop_37 : decode cX9_addLoop 37 = .ok (.irem, 1) := by decide +kernel
theorem dX9_addLoop_38 : decode cX9_addLoop 38 = .ok (.istore 10, 2) := by decide +kernel
theorem dX9_addLoop_40 : decode cX9_addLoop 40 = .ok (.lload 7, 2) := by decide +kernel
theorem dX9_addLoop_42 : decode cX9_addLoop 42 = .ok (.aload_n 3, 1) := by decide +kernel
theorem dX9_addLoop_43 : decode cX9_addLoop 43 = .ok (.getfield 15, 3) := by decide +kernel
theorem dX9_addLoop_46 : decode cX9_addLoop 46 = .ok (.iload 6, 2) := by decide +kernel
theorem dX9_addLoop_48 : decode cX9_addLoop 48 = .ok (.laload, 1) := by decide +kernel
theorem dX9_addLoop_49 : decode cX9_addLoop 49 = .ok (.aload_n 2, 1) := by decide +kernel
theorem dX9_addLoop_50 : decode cX9_addLoop 50 = .ok (.getfield 15, 3) := by decide +kernel
theorem dX9_addLoop_53 : decode cX9_addLoop 53 = .ok (.iload 10, 2) := by decide +kernel
theorem dX9_addLoop_55 : decode cX9_addLoop 55 = .ok (.iload 4, 2) := by decide +kernel
theorem dX9_addLoop_57 : decode cX9_addLoop 57 = .ok (.iadd, 1) := by decide +kernel
theorem dX9_addLoop_58 : decode cX9_addLoop 58 = .ok (.laload, 1) := by decide +kernel
theorem dX9_addLoop_59 : decode cX9_addLoop 59 = .ok (.ladd, 1) := by decide +kernel
theorem dX9_addLoop_60 : decode cX9_addLoop 60 = .ok (.ladd, 1) := by decide +kernel
theorem dX9_addLoop_61 : decode cX9_addLoop 61 = .ok (.lstore 7, 2) := by decide +kernel
theorem dX9_addLoop_63 : decode cX9_addLoop 63 = .ok (.aload_n 2, 1) := by decide +kernel
theorem dX9_addLoop_64 : decode cX9_addLoop 64 = .ok (.getfield 9, 3) := by decide +kernel
theorem dX9_addLoop_67 : decode cX9_addLoop 67 = .ok (.iload 10, 2) := by decide +kernel
theorem dX9_addLoop_69 : decode cX9_addLoop 69 = .ok (.iload 4, 2) := by decide +kernel
theorem dX9_addLoop_71 : decode cX9_addLoop 71 = .ok (.iadd, 1) := by decide +kernel
theorem dX9_addLoop_72 : decode cX9_addLoop 72 = .ok (.iaload, 1) := by decide +kernel
theorem dX9_addLoop_73 : decode cX9_addLoop 73 = .ok (.iload 4, 2) := by decide +kernel
theorem dX9_addLoop_75 : decode cX9_addLoop 75 = .ok (.irem, 1) := by decide +kernel
theorem dX9_addLoop_76 : decode cX9_addLoop 76 = .ok (.istore 6, 2) := by decide +kernel
theorem dX9_addLoop_78 : decode cX9_addLoop 78 = .ok (.iload 5, 2) := by decide +kernel
theorem dX9_addLoop_80 : decode cX9_addLoop 80 = .ok (.iconst 1, 1) := by decide +kernel
theorem dX9_addLoop_81 : decode cX9_addLoop 81 = .ok (.iload 10, 2) := by decide +kernel
theorem dX9_addLoop_83 : decode cX9_addLoop 83 = .ok (.ishl, 1) := by decide +kernel
theorem dX9_addLoop_84 : decode cX9_addLoop 84 = .ok (.iconst 1, 1) := by decide +kernel
theorem dX9_addLoop_85 : decode cX9_addLoop 85 = .ok (.iload 6, 2) := by decide +kernel
theorem dX9_addLoop_87 : decode cX9_addLoop 87 = .ok (.ishl, 1) := by decide +kernel
theorem dX9_addLoop_88 : decode cX9_addLoop 88 = .ok (.ior, 1) := by decide +kernel
theorem dX9_addLoop_89 : decode cX9_addLoop 89 = .ok (.ior, 1) := by decide +kernel
theorem dX9_addLoop_90 : decode cX9_addLoop 90 = .ok (.istore 5, 2) := by decide +kernel
theorem dX9_addLoop_92 : decode cX9_addLoop 92 = .ok (.iinc 9 1, 3) := by decide +kernel
theorem dX9_addLoop_95 : decode cX9_addLoop 95 = .ok (.goto (-83), 3) := by decide +kernel
theorem dX9_addLoop_98 : decode cX9_addLoop 98 = .ok (.aload_n 0, 1) := by decide +kernel
theorem dX9_addLoop_99 : decode cX9_addLoop 99 = .ok (.dup, 1) := by decide +kernel
theorem dX9_addLoop_100 : decode cX9_addLoop 100 = .ok (.getfield 19, 3) := by decide +kernel
theorem dX9_addLoop_103 : decode cX9_addLoop 103 = .ok (.lconst 1, 1) := by decide +kernel
theorem dX9_addLoop_104 : decode cX9_addLoop 104 = .ok (.ladd, 1) := by decide +kernel
theorem dX9_addLoop_105 : decode cX9_addLoop 105 = .ok (.putfield 19, 3) := by decide +kernel
theorem dX9_addLoop_108 : decode cX9_addLoop 108 = .ok (.aload_n 0, 1) := by decide +kernel
theorem dX9_addLoop_109 : decode cX9_addLoop 109 = .ok (.aload_n 0, 1) := by decide +kernel
theorem dX9_addLoop_110 : decode cX9_addLoop 110 = .ok (.getfield 23, 3) := by decide +kernel
theorem dX9_addLoop_113 : decode cX9_addLoop 113 = .ok (.lload 7, 2) := by decide +kernel
theorem dX9_addLoop_115 : decode cX9_addLoop 115 = .ok (.invokestatic 55, 3) := by decide +kernel
theorem dX9_addLoop_118 : decode cX9_addLoop 118 = .ok (.putfield 23, 3) := by decide +kernel
theorem dX9_addLoop_121 : decode cX9_addLoop 121 = .ok (.aload_n 0, 1) := by decide +kernel
theorem dX9_addLoop_122 : decode cX9_addLoop 122 = .ok (.dup, 1) := by decide +kernel
theorem dX9_addLoop_123 : decode cX9_addLoop 123 = .ok (.getfield 26, 3) := by decide +kernel
theorem dX9_addLoop_126 : decode cX9_addLoop 126 = .ok (.lload 7, 2) := by decide +kernel
theorem dX9_addLoop_128 : decode cX9_addLoop 128 = .ok (.ladd, 1) := by decide +kernel
theorem dX9_addLoop_129 : decode cX9_addLoop 129 = .ok (.putfield 26, 3) := by decide +kernel
theorem dX9_addLoop_132 : decode cX9_addLoop 132 = .ok (.iload 5, 2) := by decide +kernel
theorem dX9_addLoop_134 : decode cX9_addLoop 134 = .ok (.ireturn, 1) := by decide +kernel
def f_X9_addLoop_u12 (Q : Int → ml_St → Prop) (K98 : ml_St → Int → Int → Prop) (th : Int) (p2 : Int) (p3 : Int) : Nat → ml_St → Int → Int → Int → Int → Int → Int → Prop
| 0, _, _, _, _, _, _, _ => False
| N + 1, σ, x1, x4, x5, x6, x7, x9 =>
(((b_and (b_shr x5 x1) 1) : Int) ≠ 0 →
K98 σ x5 x7) ∧
((b_and (b_shr x5 x1) 1) = 0 →
(10 < x9 →
K98 σ x5 x7) ∧
(¬ (10 < x9) →
(0 : Int) ≤ x6 ∧ (x6 : Int) < 10 ∧
∀ _ : I32 (σ (p3 + 1) x6),
(x4 : Int) ≠ 0 ∧ I32 (Int.tmod (σ (p3 + 1) x6) x4) ∧
∀ y5 : Int, y5 = Int.tmod (σ (p3 + 1) x6) x4 →
(0 : Int) ≤ x6 ∧ (x6 : Int) < 10 ∧
∀ _ : I64 (σ (p3 + 2) x6),
I32 (y5 + x4) ∧
(0 : Int) ≤ (y5 + x4) ∧ ((y5 + x4) : Int) < 10 ∧
∀ _ : I64 (σ (p2 + 2) (y5 + x4)),
∀ y11 : Int, y11 = w64 (x7 + (w64 ((σ (p3 + 2) x6) + (σ (p2 + 2) (y5 + x4))))) →
I32 (y5 + x4) ∧
(0 : Int) ≤ (y5 + x4) ∧ ((y5 + x4) : Int) < 10 ∧
∀ _ : I32 (σ (p2 + 1) (y5 + x4)),
(x4 : Int) ≠ 0 ∧ I32 (Int.tmod (σ (p2 + 1) (y5 + x4)) x4) ∧
∀ y15 : Int, y15 = Int.tmod (σ (p2 + 1) (y5 + x4)) x4 →
∀ y16 : Int, y16 = b_or x5 (b_or (b_shl 1 y5) (b_shl 1 y15)) →
I32 (x9 + 1) ∧
∀ y17 : Int, y17 = x9 + 1 →
f_X9_addLoop_u12 Q K98 th p2 p3 N σ x1 x4 y16 y15 y11 y17))
def f_X9_addLoop_u98 (Q : Int → ml_St → Prop) (th : Int) (p2 : Int) (p3 : Int) (σ : ml_St) (x5 : Int) (x7 : Int) : Prop :=
∀ _ : I64 (σ th 2),
∀ σ3, σ3 = ml_up σ th 2 (w64 ((σ th 2) + 1)) →
∀ _ : I64 (σ3 th 3),
∀ σ5, σ5 = ml_up σ3 th 3 (max (σ3 th 3) x7) →
∀ _ : I64 (σ5 th 4),
∀ σ8, σ8 = ml_up σ5 th 4 (w64 ((σ5 th 4) + x7)) →
Q x5 σ8
def f_X9_addLoop_u0 (Q : Int → ml_St → Prop) (th : Int) (p2 : Int) (p3 : Int) (σ : ml_St) (x1 : Int) (x4 : Int) : Prop :=
∃ N1, f_X9_addLoop_u12 Q (f_X9_addLoop_u98 Q th p2 p3) th p2 p3 N1 σ x1 x4 0 x1 0 0
def f_X9_addLoop (σ : ml_St) (th : Int) (p2 : Int) (p3 : Int) (x1 : Int) (x4 : Int) (Q : Int → ml_St → Prop) : Prop := f_X9_addLoop_u0 Q th p2 p3 σ x1 x4
def rm_X9_addLoop : Room := { frames := 1, cells := 0, slots := 0, locals := 60 }
set_option maxRecDepth 100000 in
set_option maxHeartbeats 4000000 in
theorem u_X9_addLoop_12 {p : Program} {e : Env} {s : State} {m : MethodId} {args : Array Value} {below : List Frame} {meth : Method} {c : Code} {base : Nat} {D : va_G} {cA : Nat → ClassId} {n : Nat} {l : Launch} {th : Int} {p2 : Int} {p3 : Int} {Q : Int → ml_St → Prop} {K98 : ml_St → Int → Int → Prop} (X : ml_X p s m c meth args D cA cX9_addLoop 11 RX9 (some .int)) (hn : 214 ≤ n) (hp_th : ml_at n th (19, 8)) (hp_p2 : ml_at n p2 (19, 8)) (hp_p3 : ml_at n p3 (19, 8)) (hK98 : ∀ (σ : ml_St) (x5 : Int) (x7 : Int) (h_x5 : I32 x5) (h_x7 : I64 x7) (ls : Array Slot), lv_has ls 11 [(0, .ref (base + (th : Int).toNat)), (5, .int (Int32.ofInt x5)), (7, .long (Int64.ofInt x7))] → K98 σ x5 x7 → ml_V p l e rm_X9_addLoop s m args below meth c (MQ below (ml_Qi I32 base D cA n Q) args s 0 0 (ml_A base)) base D cA 0 0 n n σ (F0 m 98 ls [])) : ∀ (N : Nat) (σ : ml_St) (x1 : Int) (x4 : Int) (x5 : Int) (x6 : Int) (x7 : Int) (x9 : Int) (h_x1 : I32 x1) (h_x4 : I32 x4) (h_x5 : I32 x5) (h_x6 : I32 x6) (h_x7 : I64 x7) (h_x9 : I32 x9) (ls : Array Slot), lv_has ls 11 [(0, .ref (base + (th : Int).toNat)), (1, .int (Int32.ofInt x1)), (2, .ref (base + (p2 : Int).toNat)), (3, .ref (base + (p3 : Int).toNat)), (4, .int (Int32.ofInt x4)), (5, .int (Int32.ofInt x5)), (6, .int (Int32.ofInt x6)), (7, .long (Int64.ofInt x7)), (9, .int (Int32.ofInt x9))] → f_X9_addLoop_u12 Q K98 th p2 p3 N σ x1 x4 x5 x6 x7 x9 → ml_V p l e rm_X9_addLoop s m args below meth c (MQ below (ml_Qi I32 base D cA n Q) args s 0 0 (ml_A base)) base D cA 0 0 n n σ (F0 m 12 ls []) := by
  intro N
  induction N with
  | zero => intro σ x1 x4 x5 x6 x7 x9 h_x1 h_x4 h_x5 h_x6 h_x7 h_x9 ls hl hw; exact False.elim hw
  | succ N ih =>
    intro σ x1 x4 x5 x6 x7 x9 h_x1 h_x4 h_x5 h_x6 h_x7 h_x9 ls hl hw
    unfold f_X9_addLoop_u12 at hw
    refine ml_iload (pc := 12) X hl 5 rfl dX9_addLoop_12 ?_
    refine ml_iload_n (pc := 14) X hl 1 rfl rfl dX9_addLoop_14 ?_
    refine ml_ishr (pc := 15) X dX9_addLoop_15 ?_
    refine ml_iconst (pc := 16) X dX9_addLoop_16 ?_
    refine ml_iand (pc := 17) X dX9_addLoop_17 ?_
    refine ml_if_ne (pc := 18) (tgt := 98) X (b_and_r _ _) dX9_addLoop_18 (by decide) (fun c1 => ?_) (fun c1 => ?_)
    · have hw := hw.1 c1
      exact hK98 σ x5 x7 h_x5 h_x7 _ (lv_sub hl [0, 5, 7] rfl) hw
    · have hw := hw.2 c1
      refine ml_iload (pc := 21) X hl 8 rfl dX9_addLoop_21 ?_
      refine ml_bipush (pc := 23) X dX9_addLoop_23 (by decide) ?_
      refine ml_icmp_gt (pc := 25) (tgt := 98) X h_x9 ⟨by decide, by decide⟩ dX9_addLoop_25 (by decide) (fun c2 => ?_) (fun c2 => ?_)
      · have hw := hw.1 c2
        exact hK98 σ x5 x7 h_x5 h_x7 _ (lv_sub hl [0, 5, 7] rfl) hw
      · have hw := hw.2 c2
        refine ml_aload_n (pc := 28) X hl 3 rfl rfl dX9_addLoop_28 ?_
        refine gf_X9_9 (pc := 29) X hp_p3 dX9_addLoop_29 ?_
        refine ml_iload (pc := 32) X hl 6 rfl dX9_addLoop_32 ?_
        obtain ⟨a3, b3, hw⟩ := hw
        refine ml_iald (pc := 34) (N := 10) X (ml_r19_1 hn hp_p3) a3 b3 dX9_addLoop_34 (fun r3 => ?_)
        have hw := hw r3
        refine ml_iload (pc := 35) X hl 4 rfl dX9_addLoop_35 ?_
        obtain ⟨z4, v4, hw⟩ := hw
        refine ml_irem (pc := 37) X r3 h_x4 z4 dX9_addLoop_37 ?_
        refine ml_topI (pc := 38) (fun y5 e5 => ?_)
        have hw := hw y5 e5
        have q5 : I32 y5 := by rw [e5]; exact v4
        refine ml_istore (pc := 38) X hl (by decide) (lst' := [(10, .int (Int32.ofInt y5)), (0, .ref (base + (th : Int).toNat)), (1, .int (Int32.ofInt x1)), (2, .ref (base + (p2 : Int).toNat)), (3, .ref (base + (p3 : Int).toNat)), (4, .int (Int32.ofInt x4)), (5, .int (Int32.ofInt x5)), (6, .int (Int32.ofInt x6)), (7, .long (Int64.ofInt x7)), (9, .int (Int32.ofInt x9))]) rfl dX9_addLoop_38 (fun ls hl => ?_)
        refine ml_lload (pc := 40) X hl 8 rfl dX9_addLoop_40 ?_
        refine ml_aload_n (pc := 42) X hl 4 rfl rfl dX9_addLoop_42 ?_
        refine gf_X9_15 (pc := 43) X hp_p3 dX9_addLoop_43 ?_
        refine ml_iload (pc := 46) X hl 7 rfl dX9_addLoop_46 ?_
        obtain ⟨a6, b6, hw⟩ := hw
        refine ml_lald (pc := 48) (N := 10) X (ml_r19_2 hn hp_p3) a6 b6 dX9_addLoop_48 (fun r6 => ?_)
        have hw := hw r6
        refine ml_aload_n (pc := 49) X hl 3 rfl rfl dX9_addLoop_49 ?_
        refine gf_X9_15 (pc := 50) X hp_p2 dX9_addLoop_50 ?_
        refine ml_iload (pc := 53) X hl 0 rfl dX9_addLoop_53 ?_
        refine ml_iload (pc := 55) X hl 5 rfl dX9_addLoop_55 ?_
        obtain ⟨v7, hw⟩ := hw
        refine ml_iadd (pc := 57) X dX9_addLoop_57 ?_
        obtain ⟨a8, b8, hw⟩ := hw
        refine ml_lald (pc := 58) (N := 10) X (ml_r19_2 hn hp_p2) a8 b8 dX9_addLoop_58 (fun r8 => ?_)
        have hw := hw r8
        refine ml_laddW (pc := 59) X dX9_addLoop_59 ?_
        refine ml_laddW (pc := 60) X dX9_addLoop_60 ?_
        refine ml_topL (pc := 61) (fun y11 e11 => ?_)
        have hw := hw y11 e11
        have q11 : I64 y11 := by rw [e11]; exact (w64_r _)
        refine ml_lstore (pc := 61) X hl (by decide) (lst' := [(7, .long (Int64.ofInt y11)), (10, .int (Int32.ofInt y5)), (0, .ref (base + (th : Int).toNat)), (1, .int (Int32.ofInt x1)), (2, .ref (base + (p2 : Int).toNat)), (3, .ref (base + (p3 : Int).toNat)), (4, .int (Int32.ofInt x4)), (5, .int (Int32.ofInt x5)), (6, .int (Int32.ofInt x6)), (9, .int (Int32.ofInt x9))]) rfl dX9_addLoop_61 (fun ls hl => ?_)
        refine ml_aload_n (pc := 63) X hl 4 rfl rfl dX9_addLoop_63 ?_
        refine gf_X9_9 (pc := 64) X hp_p2 dX9_addLoop_64 ?_
        refine ml_iload (pc := 67) X hl 1 rfl dX9_addLoop_67 ?_
        refine ml_iload (pc := 69) X hl 6 rfl dX9_addLoop_69 ?_
        obtain ⟨v12, hw⟩ := hw
        refine ml_iadd (pc := 71) X dX9_addLoop_71 ?_
        obtain ⟨a13, b13, hw⟩ := hw
        refine ml_iald (pc := 72) (N := 10) X (ml_r19_1 hn hp_p2) a13 b13 dX9_addLoop_72 (fun r13 => ?_)
        have hw := hw r13
        refine ml_iload (pc := 73) X hl 6 rfl dX9_addLoop_73 ?_
        obtain ⟨z14, v14, hw⟩ := hw
        refine ml_irem (pc := 75) X r13 h_x4 z14 dX9_addLoop_75 ?_
        refine ml_topI (pc := 76) (fun y15 e15 => ?_)
        have hw := hw y15 e15
        have q15 : I32 y15 := by rw [e15]; exact v14
        refine ml_istore (pc := 76) X hl (by decide) (lst' := [(6, .int (Int32.ofInt y15)), (7, .long (Int64.ofInt y11)), (10, .int (Int32.ofInt y5)), (0, .ref (base + (th : Int).toNat)), (1, .int (Int32.ofInt x1)), (2, .ref (base + (p2 : Int).toNat)), (3, .ref (base + (p3 : Int).toNat)), (4, .int (Int32.ofInt x4)), (5, .int (Int32.ofInt x5)), (9, .int (Int32.ofInt x9))]) rfl dX9_addLoop_76 (fun ls hl => ?_)
        refine ml_iload (pc := 78) X hl 8 rfl dX9_addLoop_78 ?_
        refine ml_iconst (pc := 80) X dX9_addLoop_80 ?_
        refine ml_iload (pc := 81) X hl 2 rfl dX9_addLoop_81 ?_
        refine ml_ishl (pc := 83) X dX9_addLoop_83 ?_
        refine ml_iconst (pc := 84) X dX9_addLoop_84 ?_
        refine ml_iload (pc := 85) X hl 0 rfl dX9_addLoop_85 ?_
        refine ml_ishl (pc := 87) X dX9_addLoop_87 ?_
        refine ml_ior (pc := 88) X dX9_addLoop_88 ?_
        refine ml_ior (pc := 89) X dX9_addLoop_89 ?_
        refine ml_topI (pc := 90) (fun y16 e16 => ?_)
        have hw := hw y16 e16
        have q16 : I32 y16 := by rw [e16]; exact (b_or_r _ _)
        refine ml_istore (pc := 90) X hl (by decide) (lst' := [(5, .int (Int32.ofInt y16)), (6, .int (Int32.ofInt y15)), (7, .long (Int64.ofInt y11)), (10, .int (Int32.ofInt y5)), (0, .ref (base + (th : Int).toNat)), (1, .int (Int32.ofInt x1)), (2, .ref (base + (p2 : Int).toNat)), (3, .ref (base + (p3 : Int).toNat)), (4, .int (Int32.ofInt x4)), (9, .int (Int32.ofInt x9))]) rfl dX9_addLoop_90 (fun ls hl => ?_)
        obtain ⟨v17, hw⟩ := hw
        obtain ⟨y17, e17⟩ : ∃ y : Int, y = x9 + 1 := ⟨_, rfl⟩
        have hw := hw y17 e17
        rw [← e17] at v17
        refine ml_iinc (pc := 92) X e17 hl 9 rfl (by decide) (lst' := [(9, .int (Int32.ofInt y17)), (5, .int (Int32.ofInt y16)), (6, .int (Int32.ofInt y15)), (7, .long (Int64.ofInt y11)), (10, .int (Int32.ofInt y5)), (0, .ref (base + (th : Int).toNat)), (1, .int (Int32.ofInt x1)), (2, .ref (base + (p2 : Int).toNat)), (3, .ref (base + (p3 : Int).toNat)), (4, .int (Int32.ofInt x4))]) rfl dX9_addLoop_92 (fun ls hl => ?_)
        refine ml_goto (pc := 95) (tgt := 12) X dX9_addLoop_95 (by decide) ?_
        exact ih σ x1 x4 y16 y15 y11 y17 h_x1 h_x4 q16 q15 q11 v17 _ (lv_sub hl [5, 6, 7, 8, 9, 1, 2, 3, 0] rfl) hw
set_option maxRecDepth 100000 in
set_option maxHeartbeats 4000000 in
theorem u_X9_addLoop_98 {p : Program} {e : Env} {s : State} {m : MethodId} {args : Array Value} {below : List Frame} {meth : Method} {c : Code} {base : Nat} {D : va_G} {cA : Nat → ClassId} {n : Nat} {l : Launch} {th : Int} {p2 : Int} {p3 : Int} {Q : Int → ml_St → Prop} (X : ml_X p s m c meth args D cA cX9_addLoop 11 RX9 (some .int)) (hn : 214 ≤ n) (hp_th : ml_at n th (19, 8)) (hp_p2 : ml_at n p2 (19, 8)) (hp_p3 : ml_at n p3 (19, 8)) (σ : ml_St) (x5 : Int) (x7 : Int) (h_x5 : I32 x5) (h_x7 : I64 x7) (ls : Array Slot) (hl : lv_has ls 11 [(0, .ref (base + (th : Int).toNat)), (5, .int (Int32.ofInt x5)), (7, .long (Int64.ofInt x7))]) (hw : f_X9_addLoop_u98 Q th p2 p3 σ x5 x7) : ml_V p l e rm_X9_addLoop s m args below meth c (MQ below (ml_Qi I32 base D cA n Q) args s 0 0 (ml_A base)) base D cA 0 0 n n σ (F0 m 98 ls []) := by
  unfold f_X9_addLoop_u98 at hw
  refine ml_aload_n (pc := 98) X hl 0 rfl rfl dX9_addLoop_98 ?_
  refine ml_dup (pc := 99) X dX9_addLoop_99 rfl ?_
  refine gf_X9_19 (pc := 100) X hp_th dX9_addLoop_100 (fun r1 => ?_)
  have hw := hw r1
  refine ml_lconst1 (pc := 103) X dX9_addLoop_103 ?_
  refine ml_laddW (pc := 104) X dX9_addLoop_104 ?_
  refine pf_X9_19 (pc := 105) X hp_th (w64_r _) dX9_addLoop_105 (fun σ3 g3 => ?_)
  have hw := hw σ3 g3
  refine ml_aload_n (pc := 108) X hl 0 rfl rfl dX9_addLoop_108 ?_
  refine ml_aload_n (pc := 109) X hl 0 rfl rfl dX9_addLoop_109 ?_
  refine gf_X9_23 (pc := 110) X hp_th dX9_addLoop_110 (fun r4 => ?_)
  have hw := hw r4
  refine ml_lload (pc := 113) X hl 2 rfl dX9_addLoop_113 ?_
  refine ml_mmaxL (pc := 115) X ⟨tw_3_64, tw_3_65, tw_1_14, tw_3_66⟩ r4 h_x7 ⟨Nat.zero_le _, Nat.zero_le _⟩ hl (Nat.le_of_ble_eq_true rfl) ⟨by decide, by decide⟩ dX9_addLoop_115 ?_
  refine pf_X9_23 (pc := 118) X hp_th (ml_max_rL r4 h_x7) dX9_addLoop_118 (fun σ5 g5 => ?_)
  have hw := hw σ5 g5
  refine ml_aload_n (pc := 121) X hl 0 rfl rfl dX9_addLoop_121 ?_
  refine ml_dup (pc := 122) X dX9_addLoop_122 rfl ?_
  refine gf_X9_26 (pc := 123) X hp_th dX9_addLoop_123 (fun r6 => ?_)
  have hw := hw r6
  refine ml_lload (pc := 126) X hl 2 rfl dX9_addLoop_126 ?_
  refine ml_laddW (pc := 128) X dX9_addLoop_128 ?_
  refine pf_X9_26 (pc := 129) X hp_th (w64_r _) dX9_addLoop_129 (fun σ8 g8 => ?_)
  have hw := hw σ8 g8
  refine ml_iload (pc := 132) X hl 1 rfl dX9_addLoop_132 ?_
  exact ml_iret (pc := 134) X h_x5 hw dX9_addLoop_134
set_option maxRecDepth 100000 in
set_option maxHeartbeats 4000000 in
theorem u_X9_addLoop_0 {p : Program} {e : Env} {s : State} {m : MethodId} {args : Array Value} {below : List Frame} {meth : Method} {c : Code} {base : Nat} {D : va_G} {cA : Nat → ClassId} {n : Nat} {l : Launch} {th : Int} {p2 : Int} {p3 : Int} {Q : Int → ml_St → Prop} (X : ml_X p s m c meth args D cA cX9_addLoop 11 RX9 (some .int)) (hn : 214 ≤ n) (hp_th : ml_at n th (19, 8)) (hp_p2 : ml_at n p2 (19, 8)) (hp_p3 : ml_at n p3 (19, 8)) (σ : ml_St) (x1 : Int) (x4 : Int) (h_x1 : I32 x1) (h_x4 : I32 x4) (ls : Array Slot) (hl : lv_has ls 11 [(0, .ref (base + (th : Int).toNat)), (1, .int (Int32.ofInt x1)), (2, .ref (base + (p2 : Int).toNat)), (3, .ref (base + (p3 : Int).toNat)), (4, .int (Int32.ofInt x4))]) (hw : f_X9_addLoop_u0 Q th p2 p3 σ x1 x4) : ml_V p l e rm_X9_addLoop s m args below meth c (MQ below (ml_Qi I32 base D cA n Q) args s 0 0 (ml_A base)) base D cA 0 0 n n σ (F0 m 0 ls []) := by
  unfold f_X9_addLoop_u0 at hw
  refine ml_iconst (pc := 0) X dX9_addLoop_0 ?_
  refine ml_istore (pc := 1) X hl (by decide) (lst' := [(5, .int (Int32.ofInt 0)), (0, .ref (base + (th : Int).toNat)), (1, .int (Int32.ofInt x1)), (2, .ref (base + (p2 : Int).toNat)), (3, .ref (base + (p3 : Int).toNat)), (4, .int (Int32.ofInt x4))]) rfl dX9_addLoop_1 (fun ls hl => ?_)
  refine ml_iload_n (pc := 3) X hl 2 rfl rfl dX9_addLoop_3 ?_
  refine ml_istore (pc := 4) X hl (by decide) (lst' := [(6, .int (Int32.ofInt x1)), (5, .int (Int32.ofInt 0)), (0, .ref (base + (th : Int).toNat)), (1, .int (Int32.ofInt x1)), (2, .ref (base + (p2 : Int).toNat)), (3, .ref (base + (p3 : Int).toNat)), (4, .int (Int32.ofInt x4))]) rfl dX9_addLoop_4 (fun ls hl => ?_)
  refine ml_lconst0 (pc := 6) X dX9_addLoop_6 ?_
  refine ml_lstore (pc := 7) X hl (by decide) (lst' := [(7, .long (Int64.ofInt 0)), (6, .int (Int32.ofInt x1)), (5, .int (Int32.ofInt 0)), (0, .ref (base + (th : Int).toNat)), (1, .int (Int32.ofInt x1)), (2, .ref (base + (p2 : Int).toNat)), (3, .ref (base + (p3 : Int).toNat)), (4, .int (Int32.ofInt x4))]) rfl dX9_addLoop_7 (fun ls hl => ?_)
  refine ml_iconst (pc := 9) X dX9_addLoop_9 ?_
  refine ml_istore (pc := 10) X hl (by decide) (lst' := [(9, .int (Int32.ofInt 0)), (7, .long (Int64.ofInt 0)), (6, .int (Int32.ofInt x1)), (5, .int (Int32.ofInt 0)), (0, .ref (base + (th : Int).toNat)), (1, .int (Int32.ofInt x1)), (2, .ref (base + (p2 : Int).toNat)), (3, .ref (base + (p3 : Int).toNat)), (4, .int (Int32.ofInt x4))]) rfl dX9_addLoop_10 (fun ls hl => ?_)
  obtain ⟨N0, hw⟩ := hw
  exact u_X9_addLoop_12 X hn hp_th hp_p2 hp_p3 (fun σ x5 x7 h_x5 h_x7 ls hl hw => u_X9_addLoop_98 X hn hp_th hp_p2 hp_p3 σ x5 x7 h_x5 h_x7 ls hl hw) N0 σ x1 x4 0 x1 0 0 h_x1 h_x4 ⟨by decide, by decide⟩ h_x1 ⟨by decide, by decide⟩ ⟨by decide, by decide⟩ _ (lv_sub hl [4, 5, 6, 7, 8, 3, 2, 1, 0] rfl) hw
set_option maxRecDepth 100000 in
theorem c_X9_addLoop (l : Launch) (base : Nat) (D : va_G) (cA : Nat → ClassId) (n : Nat) (hn : 214 ≤ n) (σ : ml_St) (th : Int) (p2 : Int) (p3 : Int) (hp_th : ml_at n th (19, 8)) (hp_p2 : ml_at n p2 (19, 8)) (hp_p3 : ml_at n p3 (19, 8)) (x1 : Int) (x4 : Int) (h_x1 : I32 x1) (h_x4 : I32 x4) (Q : Int → ml_St → Prop) (hw : f_X9_addLoop σ th p2 p3 x1 x4 Q) : Met l yX9_addLoop (Cond.code yX9_addLoop cX9_addLoop 11 (some .int) :: ml_T) rm_X9_addLoop (va_Pc [.ref (base + (th : Int).toNat), .int (Int32.ofInt x1), .ref (base + (p2 : Int).toNat), .ref (base + (p3 : Int).toNat), .int (Int32.ofInt x4)] (ml_U base D cA n σ)) (ml_Qi I32 base D cA n Q) 0 0 (ml_A base) := by
  refine Met.ofW (cc := cX9_addLoop) (maxL := 11) (ret := (some .int)) (by decide) rfl ?_
  intro p e s m args below meth c s₁ B hml hv
  obtain ⟨rfl, hP, hK, hok, hro⟩ := hv
  have X : ml_X p s m c meth _ D cA cX9_addLoop 11 RX9 (some .int) := ⟨B.exec, B.bytes, hml, findClass_of_methodNamed B.named, fun w hw => atoms_spec (ws := Cond.code yX9_addLoop cX9_addLoop 11 (some .int) :: ml_T) B.pre w (List.mem_cons_of_mem _ hw), hK, B.notSynchronized, B.returns⟩
  have hl := lv_entry [.ref (base + (th : Int).toNat), .int (Int32.ofInt x1), .ref (base + (p2 : Int).toNat), .ref (base + (p3 : Int).toNat), .int (Int32.ofInt x4)] (n := 11) (Nat.le_of_ble_eq_true rfl)
  rw [lg_entry_eq]
  generalize (lg_sl [.ref (base + (th : Int).toNat), .int (Int32.ofInt x1), .ref (base + (p2 : Int).toNat), .ref (base + (p3 : Int).toNat), .int (Int32.ofInt x4)] ++ List.replicate (11 - (lg_sl [.ref (base + (th : Int).toNat), .int (Int32.ofInt x1), .ref (base + (p2 : Int).toNat), .ref (base + (p3 : Int).toNat), .int (Int32.ofInt x4)]).length) Slot.unset).toArray = ls at hl ⊢
  have hl : lv_has ls 11 [(0, .ref (base + (th : Int).toNat)), (1, .int (Int32.ofInt x1)), (2, .ref (base + (p2 : Int).toNat)), (3, .ref (base + (p3 : Int).toNat)), (4, .int (Int32.ofInt x4))] := hl
  unfold f_X9_addLoop at hw
  exact u_X9_addLoop_0 X hn hp_th hp_p2 hp_p3 σ x1 x4 h_x1 h_x4 _ (lv_sub hl [0, 1, 2, 3, 4] rfl) hw s.heap [] hP va_S.rf hok hro
theorem dX9_joinFrom_0 : decode cX9_joinFrom 0 = .ok (.iconst 0, 1) := by decide +kernel
theorem dX9_joinFrom_1 : decode cX9_joinFrom 1 = .ok (.istore 5, 2) := by decide +kernel
theorem dX9_joinFrom_3 : decode cX9_joinFrom 3 = .ok (.iload_n 1, 1) := by decide +kernel
theorem dX9_joinFrom_4 : decode cX9_joinFrom 4 = .ok (.istore 6, 2) := by decide +kernel
theorem dX9_joinFrom_6 : decode cX9_joinFrom 6 = .ok (.lconst 0, 1) := by decide +kernel
theorem dX9_joinFrom_7 : decode cX9_joinFrom 7 = .ok (.lstore 7, 2) := by decide +kernel
theorem dX9_joinFrom_9 : decode cX9_joinFrom 9 = .ok (.iload_n 1, 1) := by decide +kernel
theorem dX9_joinFrom_10 : decode cX9_joinFrom 10 = .ok (.iload 4, 2) := by decide +kernel
theorem dX9_joinFrom_12 : decode cX9_joinFrom 12 = .ok (.if_icmp .ge 7, 3) := by decide +kernel
theorem dX9_joinFrom_15 : decode cX9_joinFrom 15 = .ok (.iconst 1, 1) := by decide +kernel
theorem dX9_joinFrom_16 : decode cX9_joinFrom 16 = .ok (.goto 4, 3) := by decide +kernel
theorem dX9_joinFrom_19 : decode cX9_joinFrom 19 = .ok (.iconst 0, 1) := by decide +kernel
theorem dX9_joinFrom_20 : decode cX9_joinFrom 20 = .ok (.istore 9, 2) := by decide +kernel
theorem dX9_joinFrom_22 : decode cX9_joinFrom 22 = .ok (.iconst 1, 1) := by decide +kernel
theorem dX9_joinFrom_23 : decode cX9_joinFrom 23 = .ok (.istore 10, 2) := by decide +kernel
theorem dX9_joinFrom_25 : decode cX9_joinFrom 25 = .ok (.iconst 0, 1) := by decide +kernel
theorem dX9_joinFrom_26 : decode cX9_joinFrom 26 = .ok (.istore 11, 2) := by decide +kernel
theorem dX9_joinFrom_28 : decode cX9_joinFrom 28 = .ok (.iload 10, 2) := by decide +kernel
theorem dX9_joinFrom_30 : decode cX9_joinFrom 30 = .ok (.ifCond .eq 135, 3) := by decide +kernel
theorem dX9_joinFrom_33 : decode cX9_joinFrom 33 = .ok (.iload 11, 2) := by decide +kernel
theorem dX9_joinFrom_35 : decode cX9_joinFrom 35 = .ok (.bipush 10, 2) := by decide +kernel
theorem dX9_joinFrom_37 : decode cX9_joinFrom 37 = .ok (.if_icmp .gt 128, 3) := by decide +kernel
theorem dX9_joinFrom_40 : decode cX9_joinFrom 40 = .ok (.iload 9, 2) := by decide +kernel
theorem dX9_joinFrom_42 : decode cX9_joinFrom 42 = .ok (.ifCond .eq 7, 3) := by decide +kernel
theorem dX9_joinFrom_45 : decode cX9_joinFrom 45 = .ok (.aload_n 2, 1) := by decide +kernel
theorem dX9_joinFrom_46 : decode cX9_joinFrom 46 = .ok (.goto 4, 3) := by decide +kernel
theorem dX9_joinFrom_49 : decode cX9_joinFrom 49 = .ok (.aload_n 3, 1) := by decide +kernel
theorem dX9_joinFrom_50 : decode cX9_joinFrom 50 = .ok (.astore 12, 2) := by decide +kernel
theorem dX9_joinFrom_52 : decode cX9_joinFrom 52 = .ok (.lload 7, 2) := by decide +kernel
theorem dX9_joinFrom_54 : decode cX9_joinFrom 54 = .ok (.aload 12, 2) := by decide +kernel
theorem dX9_joinFrom_56 : decode cX9_joinFrom 56 = .ok (.getfield 15, 3) := by decide +kernel
theorem dX9_joinFrom_59 : decode cX9_joinFrom 59 = .ok (.iload 6, 2) := by decide +kernel
theorem dX9_joinFrom_61 : decode cX9_joinFrom 61 = .ok (.laload, 1) := by decide +kernel
theorem dX9_joinFrom_62 : decode cX9_joinFrom 62 = .ok (.ladd, 1) := by decide +kernel
theorem dX9_joinFrom_63 : decode cX9_joinFrom 63 = .ok (.lstore 7, 2) := by decide +kernel
theorem dX9_joinFrom_65 : decode cX9_joinFrom 65 = .ok (.aload 12, 2) := by decide +kernel
theorem dX9_joinFrom_67 : decode cX9_joinFrom 67 = .ok (.getfield 9, 3) := by decide +kernel
theorem dX9_joinFrom_70 : decode cX9_joinFrom 70 = .ok (.iload 6, 2) := by decide +kernel
theorem dX9_joinFrom_72 : decode cX9_joinFrom 72 = .ok (.iaload, 1) := by decide +kernel
theorem dX9_joinFrom_73 : decode cX9_joinFrom 73 = .ok (.istore 6, 2) := by decide +kernel
theorem dX9_joinFrom_75 : decode cX9_joinFrom 75 = .ok (.iload 6, 2) := by decide +kernel
theorem dX9_joinFrom_77 : decode cX9_joinFrom 77 = .ok (.iload 4, 2) := by decide +kernel
theorem dX9_joinFrom_79 : decode cX9_joinFrom 79 = .ok (.if_icmp .lt 7, 3) := by decide +kernel
theorem dX9_joinFrom_82 : decode cX9_joinFrom 82 = .ok (.iconst 1, 1) := by decide +kernel
theorem dX9_joinFrom_83 : decode cX9_joinFrom 83 = .ok (.goto 4, 3) := by decide +kernel
theorem dX9_joinFrom_86 : decode cX9_joinFrom 86 = .ok (.iconst 0, 1) := by decide +kernel
theorem dX9_joinFrom_87 : decode cX9_joinFrom 87 = .ok (.iload 9, 2) := by decide +kernel
theorem dX9_joinFrom_89 : decode cX9_joinFrom 89 = .ok (.if_icmp .ne 7, 3) := by decide +kernel
theorem dX9_joinFrom_92 : decode cX9_joinFrom 92 = .ok (.iconst 1, 1) := by decide +kernel
theorem dX9_joinFrom_93 : decode cX9_joinFrom 93 = .ok (.goto 4, 3) := by decide +kernel
theorem dX9_joinFrom_96 : decode cX9_joinFrom 96 = .ok (.iconst 0, 1) := by decide +kernel
theorem dX9_joinFrom_97 : decode cX9_joinFrom 97 = .ok (.istore 10, 2) := by decide +kernel
theorem dX9_joinFrom_99 : decode cX9_joinFrom 99 = .ok (.iload 10, 2) := by decide +kernel
theorem dX9_joinFrom_101 : decode cX9_joinFrom 101 = .ok (.ifCond .eq 58, 3) := by decide +kernel
theorem dX9_joinFrom_104 : decode cX9_joinFrom 104 = .ok (.iload 9, 2) := by decide +kernel
theorem dX9_joinFrom_106 : decode cX9_joinFrom 106 = .ok (.ifCond .eq 11, 3) := by decide +kernel
theorem dX9_joinFrom_109 : decode cX9_joinFrom 109 = .ok (.iload 6, 2) := by decide +kernel
theorem dX9_joinFrom_111 : decode cX9_joinFrom 111 = .ok (.iload 4, 2) := by decide +kernel
theorem dX9_joinFrom_113 : decode cX9_joinFrom 113 = .ok (.isub, 1) := by decide +kernel
theorem dX9_joinFrom_114 : decode cX9_joinFrom 114 = .ok (.goto 5, 3) := by decide +kernel
theorem dX9_joinFrom_117 : decode cX9_joinFrom 117 = .ok (.iload 6, 2) := by decide +kernel
theorem dX9_joinFrom_119 : decode cX9_joinFrom 119 = .ok (.istore 13, 2) := by decide +kernel
theorem dX9_joinFrom_121 : decode cX9_joinFrom 121 = .ok (.iload 5, 2) := by decide +kernel
theorem dX9_joinFrom_123 : decode cX9_joinFrom 123 = .ok (.iconst 1, 1) := by decide +kernel
theorem dX9_joinFrom_124 : decode cX9_joinFrom 124 = .ok (.iload 13, 2) := by decide +kernel
theorem dX9_joinFrom_126 : decode cX9_joinFrom 126 = .ok (.ishl, 1) := by decide +kernel
theorem dX9_joinFrom_127 : decode cX9_joinFrom 127 = .ok (.ior, 1) := by decide +kernel
theorem dX9_joinFrom_128 : decode cX9_joinFrom 128 = .ok (.istore 5, 2) := by decide +kernel
theorem dX9_joinFrom_130 : decode cX9_joinFrom 130 = .ok (.iload 9, 2) := by decide +kernel
theorem dX9_joinFrom_132 : decode cX9_joinFrom 132 = .ok (.ifCond .eq 8, 3) := by decide +kernel
theorem dX9_joinFrom_135 : decode cX9_joinFrom 135 = .ok (.iload 13, 2) := by decide +kernel
theorem dX9_joinFrom_137 : decode cX9_joinFrom 137 = .ok (.goto 8, 3) := by decide +kernel
theorem dX9_joinFrom_140 : decode cX9_joinFrom 140 = .ok (.iload 13, 2) := by decide +kernel
theorem dX9_joinFrom_142 : decode cX9_joinFrom 142 = .ok (.iload 4, 2) := by decide +kernel
theorem dX9_joinFrom_144 : decode cX9_joinFrom 144 = .ok (.iadd, 1) := by decide +kernel
theorem dX9_joinFrom_145 : decode cX9_joinFrom 145 = .ok (.istore 6, 2) := by decide +kernel
theorem dX9_joinFrom_147 : decode cX9_joinFrom 147 = .ok (.iload 9, 2) := by decide +kernel
theorem dX9_joinFrom_149 : decode cX9_joinFrom 149 = .ok (.ifCond .ne 7, 3) := by decide +kernel
theorem dX9_joinFrom_152 : decode cX9_joinFrom 152 = .ok (.iconst 1, 1) := by decide +kernel
theorem dX9_joinFrom_153 : decode cX9_joinFrom 153 = .ok (.goto 4, 3) := by decide +kernel
theorem dX9_joinFrom_156 : decode cX9_joinFrom 156 = .ok (.iconst 0, 1) := by decide +kernel
theorem dX9_joinFrom_157 : decode cX9_joinFrom 157 = .ok (.istore 9, 2) := by decide +kernel
theorem dX9_joinFrom_159 : decode cX9_joinFrom 159 = .ok (.iinc 11 1, 3) := by decide +kernel
theorem dX9_joinFrom_162 : decode cX9_joinFrom 162 = .ok (.goto (-134), 3) := by decide +kernel
theorem dX9_joinFrom_165 : decode cX9_joinFrom 165 = .ok (.aload_n 0, 1) := by decide +kernel
theorem dX9_joinFrom_166 : decode cX9_joinFrom 166 = .ok (.getfield 9, 3) := by decide +kernel
theorem dX9_joinFrom_169 : decode cX9_joinFrom 169 = .ok (.iload_n 1, 1) := by decide +kernel
theorem dX9_joinFrom_170 : decode cX9_joinFrom 170 = .ok (.iload 6, 2) := by decide +kernel
theorem dX9_joinFrom_172 : decode cX9_joinFrom 172 = .ok (.iastore, 1) := by decide +kernel
theorem dX9_joinFrom_173 : decode cX9_joinFrom 173 = .ok (.aload_n 0, 1) := by decide +kernel
theorem dX9_joinFrom_174 : decode cX9_joinFrom 174 = .ok (.getfield 15, 3) := by decide +kernel
theorem dX9_joinFrom_177 : decode cX9_joinFrom 177 = .ok (.iload_n 1, 1) := by decide +kernel
theorem dX9_joinFrom_178 : decode cX9_joinFrom 178 = .ok (.lload 7, 2) := by decide +kernel
theorem dX9_joinFrom_180 : decode cX9_joinFrom 180 = .ok (.lastore, 1) := by decide +kernel
theorem dX9_joinFrom_181 : decode cX9_joinFrom 181 = .ok (.iload 5, 2) := by decide +kernel
theorem dX9_joinFrom_183 : decode cX9_joinFrom 183 = .ok (.ireturn, 1) := by decide +kernel
def f_X9_joinFrom_u159 (Q : Int → ml_St → Prop) (K28 : ml_St → Int → Int → Int → Int → Int → Int → Int → Int → Prop) (th : Int) (p2 : Int) (p3 : Int) (σ : ml_St) (x1 : Int) (x4 : Int) (x5 : Int) (x6 : Int) (x7 : Int) (x9 : Int) (x10 : Int) (x11 : Int) : Prop :=
I32 (x11 + 1) ∧
∀ y1 : Int, y1 = x11 + 1 →
K28 σ x1 x4 x5 x6 x7 x9 x10 y1
def f_X9_joinFrom_u157 (Q : Int → ml_St → Prop) (K28 : ml_St → Int → Int → Int → Int → Int → Int → Int → Int → Prop) (th : Int) (p2 : Int) (p3 : Int) (σ : ml_St) (x1 : Int) (x4 : Int) (x5 : Int) (x6 : Int) (x7 : Int) (x10 : Int) (x11 : Int) (s0 : Int) : Prop :=
f_X9_joinFrom_u159 Q K28 th p2 p3 σ x1 x4 x5 x6 x7 s0 x10 x11
def f_X9_joinFrom_u145 (Q : Int → ml_St → Prop) (K28 : ml_St → Int → Int → Int → Int → Int → Int → Int → Int → Prop) (th : Int) (p2 : Int) (p3 : Int) (σ : ml_St) (x1 : Int) (x4 : Int) (x5 : Int) (x7 : Int) (x9 : Int) (x10 : Int) (x11 : Int) (s0 : Int) : Prop :=
(x9 ≠ 0 →
f_X9_joinFrom_u157 Q K28 th p2 p3 σ x1 x4 x5 s0 x7 x10 x11 0) ∧
(x9 = 0 →
f_X9_joinFrom_u157 Q K28 th p2 p3 σ x1 x4 x5 s0 x7 x10 x11 1)
def f_X9_joinFrom_u119 (Q : Int → ml_St → Prop) (K28 : ml_St → Int → Int → Int → Int → Int → Int → Int → Int → Prop) (th : Int) (p2 : Int) (p3 : Int) (σ : ml_St) (x1 : Int) (x4 : Int) (x5 : Int) (x7 : Int) (x9 : Int) (x10 : Int) (x11 : Int) (s0 : Int) : Prop :=
∀ y1 : Int, y1 = b_or x5 (b_shl 1 s0) →
(x9 = 0 →
I32 (s0 + x4) ∧
f_X9_joinFrom_u145 Q K28 th p2 p3 σ x1 x4 y1 x7 x9 x10 x11 (s0 + x4)) ∧
(x9 ≠ 0 →
f_X9_joinFrom_u145 Q K28 th p2 p3 σ x1 x4 y1 x7 x9 x10 x11 s0)
def f_X9_joinFrom_u97 (Q : Int → ml_St → Prop) (K28 : ml_St → Int → Int → Int → Int → Int → Int → Int → Int → Prop) (th : Int) (p2 : Int) (p3 : Int) (σ : ml_St) (x1 : Int) (x4 : Int) (x5 : Int) (x6 : Int) (x7 : Int) (x9 : Int) (x11 : Int) (s0 : Int) : Prop :=
(s0 = 0 →
f_X9_joinFrom_u159 Q K28 th p2 p3 σ x1 x4 x5 x6 x7 x9 s0 x11) ∧
(s0 ≠ 0 →
(x9 = 0 →
f_X9_joinFrom_u119 Q K28 th p2 p3 σ x1 x4 x5 x7 x9 s0 x11 x6) ∧
(x9 ≠ 0 →
I32 (x6 - x4) ∧
f_X9_joinFrom_u119 Q K28 th p2 p3 σ x1 x4 x5 x7 x9 s0 x11 (x6 - x4)))
def f_X9_joinFrom_u87 (Q : Int → ml_St → Prop) (K28 : ml_St → Int → Int → Int → Int → Int → Int → Int → Int → Prop) (th : Int) (p2 : Int) (p3 : Int) (σ : ml_St) (x1 : Int) (x4 : Int) (x5 : Int) (x6 : Int) (x7 : Int) (x9 : Int) (x11 : Int) (s0 : Int) : Prop :=
(s0 ≠ x9 →
f_X9_joinFrom_u97 Q K28 th p2 p3 σ x1 x4 x5 x6 x7 x9 x11 0) ∧
(s0 = x9 →
f_X9_joinFrom_u97 Q K28 th p2 p3 σ x1 x4 x5 x6 x7 x9 x11 1)
def f_X9_joinFrom_u50 (Q : Int → ml_St → Prop) (K28 : ml_St → Int → Int → Int → Int → Int → Int → Int → Int → Prop) (th : Int) (p2 : Int) (p3 : Int) (σ : ml_St) (x1 : Int) (x4 : Int) (x5 : Int) (x6 : Int) (x7 : Int) (x9 : Int) (x11 : Int) (s0 : Int) : Prop :=
(0 : Int) ≤ x6 ∧ (x6 : Int) < 10 ∧
∀ _ : I64 (σ (s0 + 2) x6),
∀ y3 : Int, y3 = w64 (x7 + (σ (s0 + 2) x6)) →
(0 : Int) ≤ x6 ∧ (x6 : Int) < 10 ∧
∀ _ : I32 (σ (s0 + 1) x6),
∀ y5 : Int, y5 = σ (s0 + 1) x6 →
(y5 < x4 →
f_X9_joinFrom_u87 Q K28 th p2 p3 σ x1 x4 x5 y5 y3 x9 x11 0) ∧
(¬ (y5 < x4) →
f_X9_joinFrom_u87 Q K28 th p2 p3 σ x1 x4 x5 y5 y3 x9 x11 1)
def f_X9_joinFrom_u28 (Q : Int → ml_St → Prop) (K165 : ml_St → Int → Int → Int → Int → Prop) (th : Int) (p2 : Int) (p3 : Int) : Nat → ml_St → Int → Int → Int → Int → Int → Int → Int → Int → Prop
| 0, _, _, _, _, _, _, _, _, _ => False
| N + 1, σ, x1, x4, x5, x6, x7, x9, x10, x11 =>
(x10 = 0 →
K165 σ x1 x5 x6 x7) ∧
(x10 ≠ 0 →
(10 < x11 →
K165 σ x1 x5 x6 x7) ∧
(¬ (10 < x11) →
(x9 = 0 →
f_X9_joinFrom_u50 Q (f_X9_joinFrom_u28 Q K165 th p2 p3 N) th p2 p3 σ x1 x4 x5 x6 x7 x9 x11 p3) ∧
(x9 ≠ 0 →
f_X9_joinFrom_u50 Q (f_X9_joinFrom_u28 Q K165 th p2 p3 N) th p2 p3 σ x1 x4 x5 x6 x7 x9 x11 p2)))
def f_X9_joinFrom_u165 (Q : Int → ml_St → Prop) (th : Int) (p2 : Int) (p3 : Int) (σ : ml_St) (x1 : Int) (x5 : Int) (x6 : Int) (x7 : Int) : Prop :=
(0 : Int) ≤ x1 ∧ (x1 : Int) < 10 ∧
∀ σ1, σ1 = ml_up σ (th + 1) x1 x6 →
(0 : Int) ≤ x1 ∧ (x1 : Int) < 10 ∧
∀ σ2, σ2 = ml_up σ1 (th + 2) x1 x7 →
Q x5 σ2
def f_X9_joinFrom_u20 (Q : Int → ml_St → Prop) (th : Int) (p2 : Int) (p3 : Int) (σ : ml_St) (x1 : Int) (x4 : Int) (x5 : Int) (x6 : Int) (x7 : Int) (s0 : Int) : Prop :=
∃ N1, f_X9_joinFrom_u28 Q (f_X9_joinFrom_u165 Q th p2 p3) th p2 p3 N1 σ x1 x4 x5 x6 x7 s0 1 0
def f_X9_joinFrom_u0 (Q : Int → ml_St → Prop) (th : Int) (p2 : Int) (p3 : Int) (σ : ml_St) (x1 : Int) (x4 : Int) : Prop :=
(x4 ≤ x1 →
f_X9_joinFrom_u20 Q th p2 p3 σ x1 x4 0 x1 0 0) ∧
(¬ (x4 ≤ x1) →
f_X9_joinFrom_u20 Q th p2 p3 σ x1 x4 0 x1 0 1)
def f_X9_joinFrom (σ : ml_St) (th : Int) (p2 : Int) (p3 : Int) (x1 : Int) (x4 : Int) (Q : Int → ml_St → Prop) : Prop := f_X9_joinFrom_u0 Q th p2 p3 σ x1 x4
def rm_X9_joinFrom : Room := { frames := 0, cells := 0, slots := 0, locals := 0 }
set_option maxRecDepth 100000 in
set_option maxHeartbeats 4000000 in
theorem u_X9_joinFrom_159 {p : Program} {e : Env} {s : State} {m : MethodId} {args : Array Value} {below : List Frame} {meth : Method} {c : Code} {base : Nat} {D : va_G} {cA : Nat → ClassId} {n : Nat} {l : Launch} {th : Int} {p2 : Int} {p3 : Int} {Q : Int → ml_St → Prop} {K28 : ml_St → Int → Int → Int → Int → Int → Int → Int → Int → Prop} (X : ml_X p s m c meth args D cA cX9_joinFrom 14 RX9 (some .int)) (hn : 214 ≤ n) (hp_th : ml_at n th (19, 8)) (hp_p2 : ml_at n p2 (19, 8)) (hp_p3 : ml_at n p3 (19, 8)) (hK28 : ∀ (σ : ml_St) (x1 : Int) (x4 : Int) (x5 : Int) (x6 : Int) (x7 : Int) (x9 : Int) (x10 : Int) (x11 : Int) (h_x1 : I32 x1) (h_x4 : I32 x4) (h_x5 : I32 x5) (h_x6 : I32 x6) (h_x7 : I64 x7) (h_x9 : ml_B x9) (h_x10 : ml_B x10) (h_x11 : I32 x11) (ls : Array Slot), lv_has ls 14 [(0, .ref (base + (th : Int).toNat)), (1, .int (Int32.ofInt x1)), (2, .ref (base + (p2 : Int).toNat)), (3, .ref (base + (p3 : Int).toNat)), (4, .int (Int32.ofInt x4)), (5, .int (Int32.ofInt x5)), (6, .int (Int32.ofInt x6)), (7, .long (Int64.ofInt x7)), (9, .int (Int32.ofInt x9)), (10, .int (Int32.ofInt x10)), (11, .int (Int32.ofInt x11))] → K28 σ x1 x4 x5 x6 x7 x9 x10 x11 → ml_V p l e rm_X9_joinFrom s m args below meth c (MQ below (ml_Qi I32 base D cA n Q) args s 0 0 (ml_A base)) base D cA 0 0 n n σ (F0 m 28 ls [])) (σ : ml_St) (x1 : Int) (x4 : Int) (x5 : Int) (x6 : Int) (x7 : Int) (x9 : Int) (x10 : Int) (x11 : Int) (h_x1 : I32 x1) (h_x4 : I32 x4) (h_x5 : I32 x5) (h_x6 : I32 x6) (h_x7 : I64 x7) (h_x9 : ml_B x9) (h_x10 : ml_B x10) (h_x11 : I32 x11) (ls : Array Slot) (hl : lv_has ls 14 [(0, .ref (base + (th : Int).toNat)), (1, .int (Int32.ofInt x1)), (2, .ref (base + (p2 : Int).toNat)), (3, .ref (base + (p3 : Int).toNat)), (4, .int (Int32.ofInt x4)), (5, .int (Int32.ofInt x5)), (6, .int (Int32.ofInt x6)), (7, .long (Int64.ofInt x7)), (9, .int (Int32.ofInt x9)), (10, .int (Int32.ofInt x10)), (11, .int (Int32.ofInt x11))]) (hw : f_X9_joinFrom_u159 Q K28 th p2 p3 σ x1 x4 x5 x6 x7 x9 x10 x11) : ml_V p l e rm_X9_joinFrom s m args below meth c (MQ below (ml_Qi I32 base D cA n Q) args s 0 0 (ml_A base)) base D cA 0 0 n n σ (F0 m 159 ls []) := by
  unfold f_X9_joinFrom_u159 at hw
  obtain ⟨v1, hw⟩ := hw
  obtain ⟨y1, e1⟩ : ∃ y : Int, y = x11 + 1 := ⟨_, rfl⟩
  have hw := hw y1 e1
  rw [← e1] at v1
  refine ml_iinc (pc := 159) X e1 hl 10 rfl (by decide) (lst' := [(11, .int (Int32.ofInt y1)), (0, .ref (base + (th : Int).toNat)), (1, .int (Int32.ofInt x1)), (2, .ref (base + (p2 : Int).toNat)), (3, .ref (base + (p3 : Int).toNat)), (4, .int (Int32.ofInt x4)), (5, .int (Int32.ofInt x5)), (6, .int (Int32.ofInt x6)), (7, .long (Int64.ofInt x7)), (9, .int (Int32.ofInt x9)), (10, .int (Int32.ofInt x10))]) rfl dX9_joinFrom_159 (fun ls hl => ?_)
  refine ml_goto (pc := 162) (tgt := 28) X dX9_joinFrom_162 (by decide) ?_
  exact hK28 σ x1 x4 x5 x6 x7 x9 x10 y1 h_x1 h_x4 h_x5 h_x6 h_x7 h_x9 h_x10 v1 _ (lv_sub hl [1, 2, 3, 4, 5, 6, 7, 8, 9, 10, 0] rfl) hw
set_option maxRecDepth 100000 in
set_option maxHeartbeats 4000000 in
theorem u_X9_joinFrom_157 {p : Program} {e : Env} {s : State} {m : MethodId} {args : Array Value} {below : List Frame} {meth : Method} {c : Code} {base : Nat} {D : va_G} {cA : Nat → ClassId} {n : Nat} {l : Launch} {th : Int} {p2 : Int} {p3 : Int} {Q : Int → ml_St → Prop} {K28 : ml_St → Int → Int → Int → Int → Int → Int → Int → Int → Prop} (X : ml_X p s m c meth args D cA cX9_joinFrom 14 RX9 (some .int)) (hn : 214 ≤ n) (hp_th : ml_at n th (19, 8)) (hp_p2 : ml_at n p2 (19, 8)) (hp_p3 : ml_at n p3 (19, 8)) (hK28 : ∀ (σ : ml_St) (x1 : Int) (x4 : Int) (x5 : Int) (x6 : Int) (x7 : Int) (x9 : Int) (x10 : Int) (x11 : Int) (h_x1 : I32 x1) (h_x4 : I32 x4) (h_x5 : I32 x5) (h_x6 : I32 x6) (h_x7 : I64 x7) (h_x9 : ml_B x9) (h_x10 : ml_B x10) (h_x11 : I32 x11) (ls : Array Slot), lv_has ls 14 [(0, .ref (base + (th : Int).toNat)), (1, .int (Int32.ofInt x1)), (2, .ref (base + (p2 : Int).toNat)), (3, .ref (base + (p3 : Int).toNat)), (4, .int (Int32.ofInt x4)), (5, .int (Int32.ofInt x5)), (6, .int (Int32.ofInt x6)), (7, .long (Int64.ofInt x7)), (9, .int (Int32.ofInt x9)), (10, .int (Int32.ofInt x10)), (11, .int (Int32.ofInt x11))] → K28 σ x1 x4 x5 x6 x7 x9 x10 x11 → ml_V p l e rm_X9_joinFrom s m args below meth c (MQ below (ml_Qi I32 base D cA n Q) args s 0 0 (ml_A base)) base D cA 0 0 n n σ (F0 m 28 ls [])) (σ : ml_St) (x1 : Int) (x4 : Int) (x5 : Int) (x6 : Int) (x7 : Int) (x10 : Int) (x11 : Int) (s0 : Int) (h_x1 : I32 x1) (h_x4 : I32 x4) (h_x5 : I32 x5) (h_x6 : I32 x6) (h_x7 : I64 x7) (h_x10 : ml_B x10) (h_x11 : I32 x11) (h_s0 : ml_B s0) (ls : Array Slot) (hl : lv_has ls 14 [(0, .ref (base + (th : Int).toNat)), (1, .int (Int32.ofInt x1)), (2, .ref (base + (p2 : Int).toNat)), (3, .ref (base + (p3 : Int).toNat)), (4, .int (Int32.ofInt x4)), (5, .int (Int32.ofInt x5)), (6, .int (Int32.ofInt x6)), (7, .long (Int64.ofInt x7)), (10, .int (Int32.ofInt x10)), (11, .int (Int32.ofInt x11))]) (hw : f_X9_joinFrom_u157 Q K28 th p2 p3 σ x1 x4 x5 x6 x7 x10 x11 s0) : ml_V p l e rm_X9_joinFrom s m args below meth c (MQ below (ml_Qi I32 base D cA n Q) args s 0 0 (ml_A base)) base D cA 0 0 n n σ (F0 m 157 ls [.int (Int32.ofInt s0)]) := by
  unfold f_X9_joinFrom_u157 at hw
  refine ml_istore (pc := 157) X hl (by decide) (lst' := [(9, .int (Int32.ofInt s0)), (0, .ref (base + (th : Int).toNat)), (1, .int (Int32.ofInt x1)), (2, .ref (base + (p2 : Int).toNat)), (3, .ref (base + (p3 : Int).toNat)), (4, .int (Int32.ofInt x4)), (5, .int (Int32.ofInt x5)), (6, .int (Int32.ofInt x6)), (7, .long (Int64.ofInt x7)), (10, .int (Int32.ofInt x10)), (11, .int (Int32.ofInt x11))]) rfl dX9_joinFrom_157 (fun ls hl => ?_)
  exact u_X9_joinFrom_159 X hn hp_th hp_p2 hp_p3 hK28 σ x1 x4 x5 x6 x7 s0 x10 x11 h_x1 h_x4 h_x5 h_x6 h_x7 h_s0 h_x10 h_x11 _ (lv_sub hl [1, 2, 3, 4, 5, 6, 7, 8, 0, 9, 10] rfl) hw
set_option maxRecDepth 100000 in
set_option maxHeartbeats 4000000 in
theorem u_X9_joinFrom_145 {p : Program} {e : Env} {s : State} {m : MethodId} {args : Array Value} {below : List Frame} {meth : Method} {c : Code} {base : Nat} {D : va_G} {cA : Nat → ClassId} {n : Nat} {l : Launch} {th : Int} {p2 : Int} {p3 : Int} {Q : Int → ml_St → Prop} {K28 : ml_St → Int → Int → Int → Int → Int → Int → Int → Int → Prop} (X : ml_X p s m c meth args D cA cX9_joinFrom 14 RX9 (some .int)) (hn : 214 ≤ n) (hp_th : ml_at n th (19, 8)) (hp_p2 : ml_at n p2 (19, 8)) (hp_p3 : ml_at n p3 (19, 8)) (hK28 : ∀ (σ : ml_St) (x1 : Int) (x4 : Int) (x5 : Int) (x6 : Int) (x7 : Int) (x9 : Int) (x10 : Int) (x11 : Int) (h_x1 : I32 x1) (h_x4 : I32 x4) (h_x5 : I32 x5) (h_x6 : I32 x6) (h_x7 : I64 x7) (h_x9 : ml_B x9) (h_x10 : ml_B x10) (h_x11 : I32 x11) (ls : Array Slot), lv_has ls 14 [(0, .ref (base + (th : Int).toNat)), (1, .int (Int32.ofInt x1)), (2, .ref (base + (p2 : Int).toNat)), (3, .ref (base + (p3 : Int).toNat)), (4, .int (Int32.ofInt x4)), (5, .int (Int32.ofInt x5)), (6, .int (Int32.ofInt x6)), (7, .long (Int64.ofInt x7)), (9, .int (Int32.ofInt x9)), (10, .int (Int32.ofInt x10)), (11, .int (Int32.ofInt x11))] → K28 σ x1 x4 x5 x6 x7 x9 x10 x11 → ml_V p l e rm_X9_joinFrom s m args below meth c (MQ below (ml_Qi I32 base D cA n Q) args s 0 0 (ml_A base)) base D cA 0 0 n n σ (F0 m 28 ls [])) (σ : ml_St) (x1 : Int) (x4 : Int) (x5 : Int) (x7 : Int) (x9 : Int) (x10 : Int) (x11 : Int) (s0 : Int) (h_x1 : I32 x1) (h_x4 : I32 x4) (h_x5 : I32 x5) (h_x7 : I64 x7) (h_x9 : ml_B x9) (h_x10 : ml_B x10) (h_x11 : I32 x11) (h_s0 : I32 s0) (ls : Array Slot) (hl : lv_has ls 14 [(0, .ref (base + (th : Int).toNat)), (1, .int (Int32.ofInt x1)), (2, .ref (base + (p2 : Int).toNat)), (3, .ref (base + (p3 : Int).toNat)), (4, .int (Int32.ofInt x4)), (5, .int (Int32.ofInt x5)), (7, .long (Int64.ofInt x7)), (9, .int (Int32.ofInt x9)), (10, .int (Int32.ofInt x10)), (11, .int (Int32.ofInt x11))]) (hw : f_X9_joinFrom_u145 Q K28 th p2 p3 σ x1 x4 x5 x7 x9 x10 x11 s0) : ml_V p l e rm_X9_joinFrom s m args below meth c (MQ below (ml_Qi I32 base D cA n Q) args s 0 0 (ml_A base)) base D cA 0 0 n n σ (F0 m 145 ls [.int (Int32.ofInt s0)]) := by
  unfold f_X9_joinFrom_u145 at hw
  refine ml_istore (pc := 145) X hl (by decide) (lst' := [(6, .int (Int32.ofInt s0)), (0, .ref (base + (th : Int).toNat)), (1, .int (Int32.ofInt x1)), (2, .ref (base + (p2 : Int).toNat)), (3, .ref (base + (p3 : Int).toNat)), (4, .int (Int32.ofInt x4)), (5, .int (Int32.ofInt x5)), (7, .long (Int64.ofInt x7)), (9, .int (Int32.ofInt x9)), (10, .int (Int32.ofInt x10)), (11, .int (Int32.ofInt x11))]) rfl dX9_joinFrom_145 (fun ls hl => ?_)
  refine ml_iload (pc := 147) X hl 8 rfl dX9_joinFrom_147 ?_
  refine ml_if_ne (pc := 149) (tgt := 156) X h_x9.i dX9_joinFrom_149 (by decide) (fun c1 => ?_) (fun c1 => ?_)
  · have hw := hw.1 c1
    refine ml_iconst (pc := 156) X dX9_joinFrom_156 ?_
    exact u_X9_joinFrom_157 X hn hp_th hp_p2 hp_p3 hK28 σ x1 x4 x5 s0 x7 x10 x11 0 h_x1 h_x4 h_x5 h_s0 h_x7 h_x10 h_x11 ⟨by decide, by decide⟩ _ (lv_sub hl [1, 2, 3, 4, 5, 6, 0, 7, 9, 10] rfl) hw
  · have hw := hw.2 c1
    refine ml_iconst (pc := 152) X dX9_joinFrom_152 ?_
    refine ml_goto (pc := 153) (tgt := 157) X dX9_joinFrom_153 (by decide) ?_
    exact u_X9_joinFrom_157 X hn hp_th hp_p2 hp_p3 hK28 σ x1 x4 x5 s0 x7 x10 x11 1 h_x1 h_x4 h_x5 h_s0 h_x7 h_x10 h_x11 ⟨by decide, by decide⟩ _ (lv_sub hl [1, 2, 3, 4, 5, 6, 0, 7, 9, 10] rfl) hw
set_option maxRecDepth 100000 in
set_option maxHeartbeats 4000000 in
theorem u_X9_joinFrom_119 {p : Program} {e : Env} {s : State} {m : MethodId} {args : Array Value} {below : List Frame} {meth : Method} {c : Code} {base : Nat} {D : va_G} {cA : Nat → ClassId} {n : Nat} {l : Launch} {th : Int} {p2 : Int} {p3 : Int} {Q : Int → ml_St → Prop} {K28 : ml_St → Int → Int → Int → Int → Int → Int → Int → Int → Prop} (X : ml_X p s m c meth args D cA cX9_joinFrom 14 RX9 (some .int)) (hn : 214 ≤ n) (hp_th : ml_at n th (19, 8)) (hp_p2 : ml_at n p2 (19, 8)) (hp_p3 : ml_at n p3 (19, 8)) (hK28 : ∀ (σ : ml_St) (x1 : Int) (x4 : Int) (x5 : Int) (x6 : Int) (x7 : Int) (x9 : Int) (x10 : Int) (x11 : Int) (h_x1 : I32 x1) (h_x4 : I32 x4) (h_x5 : I32 x5) (h_x6 : I32 x6) (h_x7 : I64 x7) (h_x9 : ml_B x9) (h_x10 : ml_B x10) (h_x11 : I32 x11) (ls : Array Slot), lv_has ls 14 [(0, .ref (base + (th : Int).toNat)), (1, .int (Int32.ofInt x1)), (2, .ref (base + (p2 : Int).toNat)), (3, .ref (base + (p3 : Int).toNat)), (4, .int (Int32.ofInt x4)), (5, .int (Int32.ofInt x5)), (6, .int (Int32.ofInt x6)), (7, .long (Int64.ofInt x7)), (9, .int (Int32.ofInt x9)), (10, .int (Int32.ofInt x10)), (11, .int (Int32.ofInt x11))] → K28 σ x1 x4 x5 x6 x7 x9 x10 x11 → ml_V p l e rm_X9_joinFrom s m args below meth c (MQ below (ml_Qi I32 base D cA n Q) args s 0 0 (ml_A base)) base D cA 0 0 n n σ (F0 m 28 ls [])) (σ : ml_St) (x1 : Int) (x4 : Int) (x5 : Int) (x7 : Int) (x9 : Int) (x10 : Int) (x11 : Int) (s0 : Int) (h_x1 : I32 x1) (h_x4 : I32 x4) (h_x5 : I32 x5) (h_x7 : I64 x7) (h_x9 : ml_B x9) (h_x10 : ml_B x10) (h_x11 : I32 x11) (h_s0 : I32 s0) (ls : Array Slot) (hl : lv_has ls 14 [(0, .ref (base + (th : Int).toNat)), (1, .int (Int32.ofInt x1)), (2, .ref (base + (p2 : Int).toNat)), (3, .ref (base + (p3 : Int).toNat)), (4, .int (Int32.ofInt x4)), (5, .int (Int32.ofInt x5)), (7, .long (Int64.ofInt x7)), (9, .int (Int32.ofInt x9)), (10, .int (Int32.ofInt x10)), (11, .int (Int32.ofInt x11))]) (hw : f_X9_joinFrom_u119 Q K28 th p2 p3 σ x1 x4 x5 x7 x9 x10 x11 s0) : ml_V p l e rm_X9_joinFrom s m args below meth c (MQ below (ml_Qi I32 base D cA n Q) args s 0 0 (ml_A base)) base D cA 0 0 n n σ (F0 m 119 ls [.int (Int32.ofInt s0)]) := by
  unfold f_X9_joinFrom_u119 at hw
  refine ml_istore (pc := 119) X hl (by decide) (lst' := [(13, .int (Int32.ofInt s0)), (0, .ref (base + (th : Int).toNat)), (1, .int (Int32.ofInt x1)), (2, .ref (base + (p2 : Int).toNat)), (3, .ref (base + (p3 : Int).toNat)), (4, .int (Int32.ofInt x4)), (5, .int (Int32.ofInt x5)), (7, .long (Int64.ofInt x7)), (9, .int (Int32.ofInt x9)), (10, .int (Int32.ofInt x10)), (11, .int (Int32.ofInt x11))]) rfl dX9_joinFrom_119 (fun ls hl => ?_)
  refine ml_iload (pc := 121) X hl 6 rfl dX9_joinFrom_121 ?_
  refine ml_iconst (pc := 123) X dX9_joinFrom_123 ?_
  refine ml_iload (pc := 124) X hl 0 rfl dX9_joinFrom_124 ?_
  refine ml_ishl (pc := 126) X dX9_joinFrom_126 ?_
  refine ml_ior (pc := 127) X dX9_joinFrom_127 ?_
  refine ml_topI (pc := 128) (fun y1 e1 => ?_)
  have hw := hw y1 e1
  have q1 : I32 y1 := by rw [e1]; exact (b_or_r _ _)
  refine ml_istore (pc := 128) X hl (by decide) (lst' := [(5, .int (Int32.ofInt y1)), (13, .int (Int32.ofInt s0)), (0, .ref (base + (th : Int).toNat)), (1, .int (Int32.ofInt x1)), (2, .ref (base + (p2 : Int).toNat)), (3, .ref (base + (p3 : Int).toNat)), (4, .int (Int32.ofInt x4)), (7, .long (Int64.ofInt x7)), (9, .int (Int32.ofInt x9)), (10, .int (Int32.ofInt x10)), (11, .int (Int32.ofInt x11))]) rfl dX9_joinFrom_128 (fun ls hl => ?_)
  refine ml_iload (pc := 130) X hl 8 rfl dX9_joinFrom_130 ?_
  refine ml_if_eq (pc := 132) (tgt := 140) X h_x9.i dX9_joinFrom_132 (by decide) (fun c2 => ?_) (fun c2 => ?_)
  · have hw := hw.1 c2
    refine ml_iload (pc := 140) X hl 1 rfl dX9_joinFrom_140 ?_
    refine ml_iload (pc := 142) X hl 6 rfl dX9_joinFrom_142 ?_
    obtain ⟨v3, hw⟩ := hw
    refine ml_iadd (pc := 144) X dX9_joinFrom_144 ?_
    exact u_X9_joinFrom_145 X hn hp_th hp_p2 hp_p3 hK28 σ x1 x4 y1 x7 x9 x10 x11 (s0 + x4) h_x1 h_x4 q1 h_x7 h_x9 h_x10 h_x11 v3 _ (lv_sub hl [2, 3, 4, 5, 6, 0, 7, 8, 9, 10] rfl) hw
  · have hw := hw.2 c2
    refine ml_iload (pc := 135) X hl 1 rfl dX9_joinFrom_135 ?_
    refine ml_goto (pc := 137) (tgt := 145) X dX9_joinFrom_137 (by decide) ?_
    exact u_X9_joinFrom_145 X hn hp_th hp_p2 hp_p3 hK28 σ x1 x4 y1 x7 x9 x10 x11 s0 h_x1 h_x4 q1 h_x7 h_x9 h_x10 h_x11 h_s0 _ (lv_sub hl [2, 3, 4, 5, 6, 0, 7, 8, 9, 10] rfl) hw
set_option maxRecDepth 100000 in
set_option maxHeartbeats 4000000 in
theorem u_X9_joinFrom_97 {p : Program} {e : Env} {s : State} {m : MethodId} {args : Array Value} {below : List Frame} {meth : Method} {c : Code} {base : Nat} {D : va_G} {cA : Nat → ClassId} {n : Nat} {l : Launch} {th : Int} {p2 : Int} {p3 : Int} {Q : Int → ml_St → Prop} {K28 : ml_St → Int → Int → Int → Int → Int → Int → Int → Int → Prop} (X : ml_X p s m c meth args D cA cX9_joinFrom 14 RX9 (some .int)) (hn : 214 ≤ n) (hp_th : ml_at n th (19, 8)) (hp_p2 : ml_at n p2 (19, 8)) (hp_p3 : ml_at n p3 (19, 8)) (hK28 : ∀ (σ : ml_St) (x1 : Int) (x4 : Int) (x5 : Int) (x6 : Int) (x7 : Int) (x9 : Int) (x10 : Int) (x11 : Int) (h_x1 : I32 x1) (h_x4 : I32 x4) (h_x5 : I32 x5) (h_x6 : I32 x6) (h_x7 : I64 x7) (h_x9 : ml_B x9) (h_x10 : ml_B x10) (h_x11 : I32 x11) (ls : Array Slot), lv_has ls 14 [(0, .ref (base + (th : Int).toNat)), (1, .int (Int32.ofInt x1)), (2, .ref (base + (p2 : Int).toNat)), (3, .ref (base + (p3 : Int).toNat)), (4, .int (Int32.ofInt x4)), (5, .int (Int32.ofInt x5)), (6, .int (Int32.ofInt x6)), (7, .long (Int64.ofInt x7)), (9, .int (Int32.ofInt x9)), (10, .int (Int32.ofInt x10)), (11, .int (Int32.ofInt x11))] → K28 σ x1 x4 x5 x6 x7 x9 x10 x11 → ml_V p l e rm_X9_joinFrom s m args below meth c (MQ below (ml_Qi I32 base D cA n Q) args s 0 0 (ml_A base)) base D cA 0 0 n n σ (F0 m 28 ls [])) (σ : ml_St) (x1 : Int) (x4 : Int) (x5 : Int) (x6 : Int) (x7 : Int) (x9 : Int) (x11 : Int) (s0 : Int) (h_x1 : I32 x1) (h_x4 : I32 x4) (h_x5 : I32 x5) (h_x6 : I32 x6) (h_x7 : I64 x7) (h_x9 : ml_B x9) (h_x11 : I32 x11) (h_s0 : ml_B s0) (ls : Array Slot) (hl : lv_has ls 14 [(0, .ref (base + (th : Int).toNat)), (1, .int (Int32.ofInt x1)), (2, .ref (base + (p2 : Int).toNat)), (3, .ref (base + (p3 : Int).toNat)), (4, .int (Int32.ofInt x4)), (5, .int (Int32.ofInt x5)), (6, .int (Int32.ofInt x6)), (7, .long (Int64.ofInt x7)), (9, .int (Int32.ofInt x9)), (11, .int (Int32.ofInt x11))]) (hw : f_X9_joinFrom_u97 Q K28 th p2 p3 σ x1 x4 x5 x6 x7 x9 x11 s0) : ml_V p l e rm_X9_joinFrom s m args below meth c (MQ below (ml_Qi I32 base D cA n Q) args s 0 0 (ml_A base)) base D cA 0 0 n n σ (F0 m 97 ls [.int (Int32.ofInt s0)]) := by
  unfold f_X9_joinFrom_u97 at hw
  refine ml_istore (pc := 97) X hl (by decide) (lst' := [(10, .int (Int32.ofInt s0)), (0, .ref (base + (th : Int).toNat)), (1, .int (Int32.ofInt x1)), (2, .ref (base + (p2 : Int).toNat)), (3, .ref (base + (p3 : Int).toNat)), (4, .int (Int32.ofInt x4)), (5, .int (Int32.ofInt x5)), (6, .int (Int32.ofInt x6)), (7, .long (Int64.ofInt x7)), (9, .int (Int32.ofInt x9)), (11, .int (Int32.ofInt x11))]) rfl dX9_joinFrom_97 (fun ls hl => ?_)
  refine ml_iload (pc := 99) X hl 0 rfl dX9_joinFrom_99 ?_
  refine ml_if_eq (pc := 101) (tgt := 159) X h_s0.i dX9_joinFrom_101 (by decide) (fun c1 => ?_) (fun c1 => ?_)
  · have hw := hw.1 c1
    exact u_X9_joinFrom_159 X hn hp_th hp_p2 hp_p3 hK28 σ x1 x4 x5 x6 x7 x9 s0 x11 h_x1 h_x4 h_x5 h_x6 h_x7 h_x9 h_s0 h_x11 _ (lv_sub hl [1, 2, 3, 4, 5, 6, 7, 8, 9, 0, 10] rfl) hw
  · have hw := hw.2 c1
    refine ml_iload (pc := 104) X hl 9 rfl dX9_joinFrom_104 ?_
    refine ml_if_eq (pc := 106) (tgt := 117) X h_x9.i dX9_joinFrom_106 (by decide) (fun c2 => ?_) (fun c2 => ?_)
    · have hw := hw.1 c2
      refine ml_iload (pc := 117) X hl 7 rfl dX9_joinFrom_117 ?_
      exact u_X9_joinFrom_119 X hn hp_th hp_p2 hp_p3 hK28 σ x1 x4 x5 x7 x9 s0 x11 x6 h_x1 h_x4 h_x5 h_x7 h_x9 h_s0 h_x11 h_x6 _ (lv_sub hl [1, 2, 3, 4, 5, 6, 8, 9, 0, 10] rfl) hw
    · have hw := hw.2 c2
      refine ml_iload (pc := 109) X hl 7 rfl dX9_joinFrom_109 ?_
      refine ml_iload (pc := 111) X hl 5 rfl dX9_joinFrom_111 ?_
      obtain ⟨v3, hw⟩ := hw
      refine ml_isub (pc := 113) X dX9_joinFrom_113 ?_
      refine ml_goto (pc := 114) (tgt := 119) X dX9_joinFrom_114 (by decide) ?_
      exact u_X9_joinFrom_119 X hn hp_th hp_p2 hp_p3 hK28 σ x1 x4 x5 x7 x9 s0 x11 (x6 - x4) h_x1 h_x4 h_x5 h_x7 h_x9 h_s0 h_x11 v3 _ (lv_sub hl [1, 2, 3, 4, 5, 6, 8, 9, 0, 10] rfl) hw
set_option maxRecDepth 100000 in
set_option maxHeartbeats 4000000 in
theorem u_X9_joinFrom_87 {p : Program} {e : Env} {s : State} {m : MethodId} {args : Array Value} {below : List Frame} {meth : Method} {c : Code} {base : Nat} {D : va_G} {cA : Nat → ClassId} {n : Nat} {l : Launch} {th : Int} {p2 : Int} {p3 : Int} {Q : Int → ml_St → Prop} {K28 : ml_St → Int → Int → Int → Int → Int → Int → Int → Int → Prop} (X : ml_X p s m c meth args D cA cX9_joinFrom 14 RX9 (some .int)) (hn : 214 ≤ n) (hp_th : ml_at n th (19, 8)) (hp_p2 : ml_at n p2 (19, 8)) (hp_p3 : ml_at n p3 (19, 8)) (hK28 : ∀ (σ : ml_St) (x1 : Int) (x4 : Int) (x5 : Int) (x6 : Int) (x7 : Int) (x9 : Int) (x10 : Int) (x11 : Int) (h_x1 : I32 x1) (h_x4 : I32 x4) (h_x5 : I32 x5) (h_x6 : I32 x6) (h_x7 : I64 x7) (h_x9 : ml_B x9) (h_x10 : ml_B x10) (h_x11 : I32 x11) (ls : Array Slot), lv_has ls 14 [(0, .ref (base + (th : Int).toNat)), (1, .int (Int32.ofInt x1)), (2, .ref (base + (p2 : Int).toNat)), (3, .ref (base + (p3 : Int).toNat)), (4, .int (Int32.ofInt x4)), (5, .int (Int32.ofInt x5)), (6, .int (Int32.ofInt x6)), (7, .long (Int64.ofInt x7)), (9, .int (Int32.ofInt x9)), (10, .int (Int32.ofInt x10)), (11, .int (Int32.ofInt x11))] → K28 σ x1 x4 x5 x6 x7 x9 x10 x11 → ml_V p l e rm_X9_joinFrom s m args below meth c (MQ below (ml_Qi I32 base D cA n Q) args s 0 0 (ml_A base)) base D cA 0 0 n n σ (F0 m 28 ls [])) (σ : ml_St) (x1 : Int) (x4 : Int) (x5 : Int) (x6 : Int) (x7 : Int) (x9 : Int) (x11 : Int) (s0 : Int) (h_x1 : I32 x1) (h_x4 : I32 x4) (h_x5 : I32 x5) (h_x6 : I32 x6) (h_x7 : I64 x7) (h_x9 : ml_B x9) (h_x11 : I32 x11) (h_s0 : ml_B s0) (ls : Array Slot) (hl : lv_has ls 14 [(0, .ref (base + (th : Int).toNat)), (1, .int (Int32.ofInt x1)), (2, .ref (base + (p2 : Int).toNat)), (3, .ref (base + (p3 : Int).toNat)), (4, .int (Int32.ofInt x4)), (5, .int (Int32.ofInt x5)), (6, .int (Int32.ofInt x6)), (7, .long (Int64.ofInt x7)), (9, .int (Int32.ofInt x9)), (11, .int (Int32.ofInt x11))]) (hw : f_X9_joinFrom_u87 Q K28 th p2 p3 σ x1 x4 x5 x6 x7 x9 x11 s0) : ml_V p l e rm_X9_joinFrom s m args below meth c (MQ below (ml_Qi I32 base D cA n Q) args s 0 0 (ml_A base)) base D cA 0 0 n n σ (F0 m 87 ls [.int (Int32.ofInt s0)]) := by
  unfold f_X9_joinFrom_u87 at hw
  refine ml_iload (pc := 87) X hl 8 rfl dX9_joinFrom_87 ?_
  refine ml_icmp_ne (pc := 89) (tgt := 96) X h_s0.i h_x9.i dX9_joinFrom_89 (by decide) (fun c1 => ?_) (fun c1 => ?_)
  · have hw := hw.1 c1
    refine ml_iconst (pc := 96) X dX9_joinFrom_96 ?_
    exact u_X9_joinFrom_97 X hn hp_th hp_p2 hp_p3 hK28 σ x1 x4 x5 x6 x7 x9 x11 0 h_x1 h_x4 h_x5 h_x6 h_x7 h_x9 h_x11 ⟨by decide, by decide⟩ _ (lv_sub hl [0, 1, 2, 3, 4, 5, 6, 7, 8, 9] rfl) hw
  · have hw := hw.2 c1
    refine ml_iconst (pc := 92) X dX9_joinFrom_92 ?_
    refine ml_goto (pc := 93) (tgt := 97) X dX9_joinFrom_93 (by decide) ?_
    exact u_X9_joinFrom_97 X hn hp_th hp_p2 hp_p3 hK28 σ x1 x4 x5 x6 x7 x9 x11 1 h_x1 h_x4 h_x5 h_x6 h_x7 h_x9 h_x11 ⟨by decide, by decide⟩ _ (lv_sub hl [0, 1, 2, 3, 4, 5, 6, 7, 8, 9] rfl) hw
set_option maxRecDepth 100000 in
set_option maxHeartbeats 4000000 in
theorem u_X9_joinFrom_50 {p : Program} {e : Env} {s : State} {m : MethodId} {args : Array Value} {below : List Frame} {meth : Method} {c : Code} {base : Nat} {D : va_G} {cA : Nat → ClassId} {n : Nat} {l : Launch} {th : Int} {p2 : Int} {p3 : Int} {Q : Int → ml_St → Prop} {K28 : ml_St → Int → Int → Int → Int → Int → Int → Int → Int → Prop} (X : ml_X p s m c meth args D cA cX9_joinFrom 14 RX9 (some .int)) (hn : 214 ≤ n) (hp_th : ml_at n th (19, 8)) (hp_p2 : ml_at n p2 (19, 8)) (hp_p3 : ml_at n p3 (19, 8)) (hK28 : ∀ (σ : ml_St) (x1 : Int) (x4 : Int) (x5 : Int) (x6 : Int) (x7 : Int) (x9 : Int) (x10 : Int) (x11 : Int) (h_x1 : I32 x1) (h_x4 : I32 x4) (h_x5 : I32 x5) (h_x6 : I32 x6) (h_x7 : I64 x7) (h_x9 : ml_B x9) (h_x10 : ml_B x10) (h_x11 : I32 x11) (ls : Array Slot), lv_has ls 14 [(0, .ref (base + (th : Int).toNat)), (1, .int (Int32.ofInt x1)), (2, .ref (base + (p2 : Int).toNat)), (3, .ref (base + (p3 : Int).toNat)), (4, .int (Int32.ofInt x4)), (5, .int (Int32.ofInt x5)), (6, .int (Int32.ofInt x6)), (7, .long (Int64.ofInt x7)), (9, .int (Int32.ofInt x9)), (10, .int (Int32.ofInt x10)), (11, .int (Int32.ofInt x11))] → K28 σ x1 x4 x5 x6 x7 x9 x10 x11 → ml_V p l e rm_X9_joinFrom s m args below meth c (MQ below (ml_Qi I32 base D cA n Q) args s 0 0 (ml_A base)) base D cA 0 0 n n σ (F0 m 28 ls [])) (σ : ml_St) (x1 : Int) (x4 : Int) (x5 : Int) (x6 : Int) (x7 : Int) (x9 : Int) (x11 : Int) (s0 : Int) (h_x1 : I32 x1) (h_x4 : I32 x4) (h_x5 : I32 x5) (h_x6 : I32 x6) (h_x7 : I64 x7) (h_x9 : ml_B x9) (h_x11 : I32 x11) (h_s0 : ml_at n s0 (19, 8)) (ls : Array Slot) (hl : lv_has ls 14 [(0, .ref (base + (th : Int).toNat)), (1, .int (Int32.ofInt x1)), (2, .ref (base + (p2 : Int).toNat)), (3, .ref (base + (p3 : Int).toNat)), (4, .int (Int32.ofInt x4)), (5, .int (Int32.ofInt x5)), (6, .int (Int32.ofInt x6)), (7, .long (Int64.ofInt x7)), (9, .int (Int32.ofInt x9)), (11, .int (Int32.ofInt x11))]) (hw : f_X9_joinFrom_u50 Q K28 th p2 p3 σ x1 x4 x5 x6 x7 x9 x11 s0) : ml_V p l e rm_X9_joinFrom s m args below meth c (MQ below (ml_Qi I32 base D cA n Q) args s 0 0 (ml_A base)) base D cA 0 0 n n σ (F0 m 50 ls [.ref (base + (s0 : Int).toNat)]) := by
  unfold f_X9_joinFrom_u50 at hw
  refine ml_astore (pc := 50) X hl (by decide) (lst' := [(12, .ref (base + (s0 : Int).toNat)), (0, .ref (base + (th : Int).toNat)), (1, .int (Int32.ofInt x1)), (2, .ref (base + (p2 : Int).toNat)), (3, .ref (base + (p3 : Int).toNat)), (4, .int (Int32.ofInt x4)), (5, .int (Int32.ofInt x5)), (6, .int (Int32.ofInt x6)), (7, .long (Int64.ofInt x7)), (9, .int (Int32.ofInt x9)), (11, .int (Int32.ofInt x11))]) rfl dX9_joinFrom_50 (fun ls hl => ?_)
  refine ml_lload (pc := 52) X hl 8 rfl dX9_joinFrom_52 ?_
  refine ml_aload (pc := 54) X hl 0 rfl dX9_joinFrom_54 ?_
  refine gf_X9_15 (pc := 56) X h_s0 dX9_joinFrom_56 ?_
  refine ml_iload (pc := 59) X hl 7 rfl dX9_joinFrom_59 ?_
  obtain ⟨a1, b1, hw⟩ := hw
  refine ml_lald (pc := 61) (N := 10) X (ml_r19_2 hn h_s0) a1 b1 dX9_joinFrom_61 (fun r1 => ?_)
  have hw := hw r1
  refine ml_laddW (pc := 62) X dX9_joinFrom_62 ?_
  refine ml_topL (pc := 63) (fun y3 e3 => ?_)
  have hw := hw y3 e3
  have q3 : I64 y3 := by rw [e3]; exact (w64_r _)
  refine ml_lstore (pc := 63) X hl (by decide) (lst' := [(7, .long (Int64.ofInt y3)), (12, .ref (base + (s0 : Int).toNat)), (0, .ref (base + (th : Int).toNat)), (1, .int (Int32.ofInt x1)), (2, .ref (base + (p2 : Int).toNat)), (3, .ref (base + (p3 : Int).toNat)), (4, .int (Int32.ofInt x4)), (5, .int (Int32.ofInt x5)), (6, .int (Int32.ofInt x6)), (9, .int (Int32.ofInt x9)), (11, .int (Int32.ofInt x11))]) rfl dX9_joinFrom_63 (fun ls hl => ?_)
  refine ml_aload (pc := 65) X hl 1 rfl dX9_joinFrom_65 ?_
  refine gf_X9_9 (pc := 67) X h_s0 dX9_joinFrom_67 ?_
  refine ml_iload (pc := 70) X hl 8 rfl dX9_joinFrom_70 ?_
  obtain ⟨a4, b4, hw⟩ := hw
  refine ml_iald (pc := 72) (N := 10) X (ml_r19_1 hn h_s0) a4 b4 dX9_joinFrom_72 (fun r4 => ?_)
  have hw := hw r4
  refine ml_topI (pc := 73) (fun y5 e5 => ?_)
  have hw := hw y5 e5
  have q5 : I32 y5 := by rw [e5]; exact r4
  refine ml_istore (pc := 73) X hl (by decide) (lst' := [(6, .int (Int32.ofInt y5)), (7, .long (Int64.ofInt y3)), (12, .ref (base + (s0 : Int).toNat)), (0, .ref (base + (th : Int).toNat)), (1, .int (Int32.ofInt x1)), (2, .ref (base + (p2 : Int).toNat)), (3, .ref (base + (p3 : Int).toNat)), (4, .int (Int32.ofInt x4)), (5, .int (Int32.ofInt x5)), (9, .int (Int32.ofInt x9)), (11, .int (Int32.ofInt x11))]) rfl dX9_joinFrom_73 (fun ls hl => ?_)
  refine ml_iload (pc := 75) X hl 0 rfl dX9_joinFrom_75 ?_
  refine ml_iload (pc := 77) X hl 7 rfl dX9_joinFrom_77 ?_
  refine ml_icmp_lt (pc := 79) (tgt := 86) X q5 h_x4 dX9_joinFrom_79 (by decide) (fun c6 => ?_) (fun c6 => ?_)
  · have hw := hw.1 c6
    refine ml_iconst (pc := 86) X dX9_joinFrom_86 ?_
    exact u_X9_joinFrom_87 X hn hp_th hp_p2 hp_p3 hK28 σ x1 x4 x5 y5 y3 x9 x11 0 h_x1 h_x4 h_x5 q5 q3 h_x9 h_x11 ⟨by decide, by decide⟩ _ (lv_sub hl [3, 4, 5, 6, 7, 8, 0, 1, 9, 10] rfl) hw
  · have hw := hw.2 c6
    refine ml_iconst (pc := 82) X dX9_joinFrom_82 ?_
    refine ml_goto (pc := 83) (tgt := 87) X dX9_joinFrom_83 (by decide) ?_
    exact u_X9_joinFrom_87 X hn hp_th hp_p2 hp_p3 hK28 σ x1 x4 x5 y5 y3 x9 x11 1 h_x1 h_x4 h_x5 q5 q3 h_x9 h_x11 ⟨by decide, by decide⟩ _ (lv_sub hl [3, 4, 5, 6, 7, 8, 0, 1, 9, 10] rfl) hw
set_option maxRecDepth 100000 in
set_option maxHeartbeats 4000000 in
theorem u_X9_joinFrom_28 {p : Program} {e : Env} {s : State} {m : MethodId} {args : Array Value} {below : List Frame} {meth : Method} {c : Code} {base : Nat} {D : va_G} {cA : Nat → ClassId} {n : Nat} {l : Launch} {th : Int} {p2 : Int} {p3 : Int} {Q : Int → ml_St → Prop} {K165 : ml_St → Int → Int → Int → Int → Prop} (X : ml_X p s m c meth args D cA cX9_joinFrom 14 RX9 (some .int)) (hn : 214 ≤ n) (hp_th : ml_at n th (19, 8)) (hp_p2 : ml_at n p2 (19, 8)) (hp_p3 : ml_at n p3 (19, 8)) (hK165 : ∀ (σ : ml_St) (x1 : Int) (x5 : Int) (x6 : Int) (x7 : Int) (h_x1 : I32 x1) (h_x5 : I32 x5) (h_x6 : I32 x6) (h_x7 : I64 x7) (ls : Array Slot), lv_has ls 14 [(0, .ref (base + (th : Int).toNat)), (1, .int (Int32.ofInt x1)), (5, .int (Int32.ofInt x5)), (6, .int (Int32.ofInt x6)), (7, .long (Int64.ofInt x7))] → K165 σ x1 x5 x6 x7 → ml_V p l e rm_X9_joinFrom s m args below meth c (MQ below (ml_Qi I32 base D cA n Q) args s 0 0 (ml_A base)) base D cA 0 0 n n σ (F0 m 165 ls [])) : ∀ (N : Nat) (σ : ml_St) (x1 : Int) (x4 : Int) (x5 : Int) (x6 : Int) (x7 : Int) (x9 : Int) (x10 : Int) (x11 : Int) (h_x1 : I32 x1) (h_x4 : I32 x4) (h_x5 : I32 x5) (h_x6 : I32 x6) (h_x7 : I64 x7) (h_x9 : ml_B x9) (h_x10 : ml_B x10) (h_x11 : I32 x11) (ls : Array Slot), lv_has ls 14 [(0, .ref (base + (th : Int).toNat)), (1, .int (Int32.ofInt x1)), (2, .ref (base + (p2 : Int).toNat)), (3, .ref (base + (p3 : Int).toNat)), (4, .int (Int32.ofInt x4)), (5, .int (Int32.ofInt x5)), (6, .int (Int32.ofInt x6)), (7, .long (Int64.ofInt x7)), (9, .int (Int32.ofInt x9)), (10, .int (Int32.ofInt x10)), (11, .int (Int32.ofInt x11))] → f_X9_joinFrom_u28 Q K165 th p2 p3 N σ x1 x4 x5 x6 x7 x9 x10 x11 → ml_V p l e rm_X9_joinFrom s m args below meth c (MQ below (ml_Qi I32 base D cA n Q) args s 0 0 (ml_A base)) base D cA 0 0 n n σ (F0 m 28 ls []) := by
  intro N
  induction N with
  | zero => intro σ x1 x4 x5 x6 x7 x9 x10 x11 h_x1 h_x4 h_x5 h_x6 h_x7 h_x9 h_x10 h_x11 ls hl hw; exact False.elim hw
  | succ N ih =>
    intro σ x1 x4 x5 x6 x7 x9 x10 x11 h_x1 h_x4 h_x5 h_x6 h_x7 h_x9 h_x10 h_x11 ls hl hw
    unfold f_X9_joinFrom_u28 at hw
    refine ml_iload (pc := 28) X hl 9 rfl dX9_joinFrom_28 ?_
    refine ml_if_eq (pc := 30) (tgt := 165) X h_x10.i dX9_joinFrom_30 (by decide) (fun c1 => ?_) (fun c1 => ?_)
    · have hw := hw.1 c1
      exact hK165 σ x1 x5 x6 x7 h_x1 h_x5 h_x6 h_x7 _ (lv_sub hl [0, 1, 5, 6, 7] rfl) hw
    · have hw := hw.2 c1
      refine ml_iload (pc := 33) X hl 10 rfl dX9_joinFrom_33 ?_
      refine ml_bipush (pc := 35) X dX9_joinFrom_35 (by decide) ?_
      refine ml_icmp_gt (pc := 37) (tgt := 165) X h_x11 ⟨by decide, by decide⟩ dX9_joinFrom_37 (by decide) (fun c2 => ?_) (fun c2 => ?_)
      · have hw := hw.1 c2
        exact hK165 σ x1 x5 x6 x7 h_x1 h_x5 h_x6 h_x7 _ (lv_sub hl [0, 1, 5, 6, 7] rfl) hw
      · have hw := hw.2 c2
        refine ml_iload (pc := 40) X hl 8 rfl dX9_joinFrom_40 ?_
        refine ml_if_eq (pc := 42) (tgt := 49) X h_x9.i dX9_joinFrom_42 (by decide) (fun c3 => ?_) (fun c3 => ?_)
        · have hw := hw.1 c3
          refine ml_aload_n (pc := 49) X hl 3 rfl rfl dX9_joinFrom_49 ?_
          exact u_X9_joinFrom_50 X hn hp_th hp_p2 hp_p3 ih σ x1 x4 x5 x6 x7 x9 x11 p3 h_x1 h_x4 h_x5 h_x6 h_x7 h_x9 h_x11 hp_p3 _ (lv_sub hl [0, 1, 2, 3, 4, 5, 6, 7, 8, 10] rfl) hw
        · have hw := hw.2 c3
          refine ml_aload_n (pc := 45) X hl 2 rfl rfl dX9_joinFrom_45 ?_
          refine ml_goto (pc := 46) (tgt := 50) X dX9_joinFrom_46 (by decide) ?_
          exact u_X9_joinFrom_50 X hn hp_th hp_p2 hp_p3 ih σ x1 x4 x5 x6 x7 x9 x11 p2 h_x1 h_x4 h_x5 h_x6 h_x7 h_x9 h_x11 hp_p2 _ (lv_sub hl [0, 1, 2, 3, 4, 5, 6, 7, 8, 10] rfl) hw
set_option maxRecDepth 100000 in
set_option maxHeartbeats 4000000 in
theorem u_X9_joinFrom_165 {p : Program} {e : Env} {s : State} {m : MethodId} {args : Array Value} {below : List Frame} {meth : Method} {c : Code} {base : Nat} {D : va_G} {cA : Nat → ClassId} {n : Nat} {l : Launch} {th : Int} {p2 : Int} {p3 : Int} {Q : Int → ml_St → Prop} (X : ml_X p s m c meth args D cA cX9_joinFrom 14 RX9 (some .int)) (hn : 214 ≤ n) (hp_th : ml_at n th (19, 8)) (hp_p2 : ml_at n p2 (19, 8)) (hp_p3 : ml_at n p3 (19, 8)) (σ : ml_St) (x1 : Int) (x5 : Int) (x6 : Int) (x7 : Int) (h_x1 : I32 x1) (h_x5 : I32 x5) (h_x6 : I32 x6) (h_x7 : I64 x7) (ls : Array Slot) (hl : lv_has ls 14 [(0, .ref (base + (th : Int).toNat)), (1, .int (Int32.ofInt x1)), (5, .int (Int32.ofInt x5)), (6, .int (Int32.ofInt x6)), (7, .long (Int64.ofInt x7))]) (hw : f_X9_joinFrom_u165 Q th p2 p3 σ x1 x5 x6 x7) : ml_V p l e rm_X9_joinFrom s m args below meth c (MQ below (ml_Qi I32 base D cA n Q) args s 0 0 (ml_A base)) base D cA 0 0 n n σ (F0 m 165 ls []) := by
  unfold f_X9_joinFrom_u165 at hw
  refine ml_aload_n (pc := 165) X hl 0 rfl rfl dX9_joinFrom_165 ?_
  refine gf_X9_9 (pc := 166) X hp_th dX9_joinFrom_166 ?_
  refine ml_iload_n (pc := 169) X hl 1 rfl rfl dX9_joinFrom_169 ?_
  refine ml_iload (pc := 170) X hl 3 rfl dX9_joinFrom_170 ?_
  obtain ⟨a1, b1, hw⟩ := hw
  refine ml_iast (pc := 172) (N := 10) X (ml_r19_1 hn hp_th) a1 b1 h_x6 dX9_joinFrom_172 (fun σ1 g1 => ?_)
  have hw := hw σ1 g1
  refine ml_aload_n (pc := 173) X hl 0 rfl rfl dX9_joinFrom_173 ?_
  refine gf_X9_15 (pc := 174) X hp_th dX9_joinFrom_174 ?_
  refine ml_iload_n (pc := 177) X hl 1 rfl rfl dX9_joinFrom_177 ?_
  refine ml_lload (pc := 178) X hl 4 rfl dX9_joinFrom_178 ?_
  obtain ⟨a2, b2, hw⟩ := hw
  refine ml_last (pc := 180) (N := 10) X (ml_r19_2 hn hp_th) a2 b2 h_x7 dX9_joinFrom_180 (fun σ2 g2 => ?_)
  have hw := hw σ2 g2
  refine ml_iload (pc := 181) X hl 2 rfl dX9_joinFrom_181 ?_
  exact ml_iret (pc := 183) X h_x5 hw dX9_joinFrom_183
set_option maxRecDepth 100000 in
set_option maxHeartbeats 4000000 in
theorem u_X9_joinFrom_20 {p : Program} {e : Env} {s : State} {m : MethodId} {args : Array Value} {below : List Frame} {meth : Method} {c : Code} {base : Nat} {D : va_G} {cA : Nat → ClassId} {n : Nat} {l : Launch} {th : Int} {p2 : Int} {p3 : Int} {Q : Int → ml_St → Prop} (X : ml_X p s m c meth args D cA cX9_joinFrom 14 RX9 (some .int)) (hn : 214 ≤ n) (hp_th : ml_at n th (19, 8)) (hp_p2 : ml_at n p2 (19, 8)) (hp_p3 : ml_at n p3 (19, 8)) (σ : ml_St) (x1 : Int) (x4 : Int) (x5 : Int) (x6 : Int) (x7 : Int) (s0 : Int) (h_x1 : I32 x1) (h_x4 : I32 x4) (h_x5 : ml_B x5) (h_x6 : I32 x6) (h_x7 : I64 x7) (h_s0 : ml_B s0) (ls : Array Slot) (hl : lv_has ls 14 [(0, .ref (base + (th : Int).toNat)), (1, .int (Int32.ofInt x1)), (2, .ref (base + (p2 : Int).toNat)), (3, .ref (base + (p3 : Int).toNat)), (4, .int (Int32.ofInt x4)), (5, .int (Int32.ofInt x5)), (6, .int (Int32.ofInt x6)), (7, .long (Int64.ofInt x7))]) (hw : f_X9_joinFrom_u20 Q th p2 p3 σ x1 x4 x5 x6 x7 s0) : ml_V p l e rm_X9_joinFrom s m args below meth c (MQ below (ml_Qi I32 base D cA n Q) args s 0 0 (ml_A base)) base D cA 0 0 n n σ (F0 m 20 ls [.int (Int32.ofInt s0)]) := by
  unfold f_X9_joinFrom_u20 at hw
  refine ml_istore (pc := 20) X hl (by decide) (lst' := [(9, .int (Int32.ofInt s0)), (0, .ref (base + (th : Int).toNat)), (1, .int (Int32.ofInt x1)), (2, .ref (base + (p2 : Int).toNat)), (3, .ref (base + (p3 : Int).toNat)), (4, .int (Int32.ofInt x4)), (5, .int (Int32.ofInt x5)), (6, .int (Int32.ofInt x6)), (7, .long (Int64.ofInt x7))]) rfl dX9_joinFrom_20 (fun ls hl => ?_)
  refine ml_iconst (pc := 22) X dX9_joinFrom_22 ?_
  refine ml_istore (pc := 23) X hl (by decide) (lst' := [(10, .int (Int32.ofInt 1)), (9, .int (Int32.ofInt s0)), (0, .ref (base + (th : Int).toNat)), (1, .int (Int32.ofInt x1)), (2, .ref (base + (p2 : Int).toNat)), (3, .ref (base + (p3 : Int).toNat)), (4, .int (Int32.ofInt x4)), (5, .int (Int32.ofInt x5)), (6, .int (Int32.ofInt x6)), (7, .long (Int64.ofInt x7))]) rfl dX9_joinFrom_23 (fun ls hl => ?_)
  refine ml_iconst (pc := 25) X dX9_joinFrom_25 ?_
  refine ml_istore (pc := 26) X hl (by decide) (lst' := [(11, .int (Int32.ofInt 0)), (10, .int (Int32.ofInt 1)), (9, .int (Int32.ofInt s0)), (0, .ref (base + (th : Int).toNat)), (1, .int (Int32.ofInt x1)), (2, .ref (base + (p2 : Int).toNat)), (3, .ref (base + (p3 : Int).toNat)), (4, .int (Int32.ofInt x4)), (5, .int (Int32.ofInt x5)), (6, .int (Int32.ofInt x6)), (7, .long (Int64.ofInt x7))]) rfl dX9_joinFrom_26 (fun ls hl => ?_)
  obtain ⟨N0, hw⟩ := hw
  exact u_X9_joinFrom_28 X hn hp_th hp_p2 hp_p3 (fun σ x1 x5 x6 x7 h_x1 h_x5 h_x6 h_x7 ls hl hw => u_X9_joinFrom_165 X hn hp_th hp_p2 hp_p3 σ x1 x5 x6 x7 h_x1 h_x5 h_x6 h_x7 ls hl hw) N0 σ x1 x4 x5 x6 x7 s0 1 0 h_x1 h_x4 h_x5.i h_x6 h_x7 h_s0 ⟨by decide, by decide⟩ ⟨by decide, by decide⟩ _ (lv_sub hl [3, 4, 5, 6, 7, 8, 9, 10, 2, 1, 0] rfl) hw
set_option maxRecDepth 100000 in
set_option maxHeartbeats 4000000 in
theorem u_X9_joinFrom_0 {p : Program} {e : Env} {s : State} {m : MethodId} {args : Array Value} {below : List Frame} {meth : Method} {c : Code} {base : Nat} {D : va_G} {cA : Nat → ClassId} {n : Nat} {l : Launch} {th : Int} {p2 : Int} {p3 : Int} {Q : Int → ml_St → Prop} (X : ml_X p s m c meth args D cA cX9_joinFrom 14 RX9 (some .int)) (hn : 214 ≤ n) (hp_th : ml_at n th (19, 8)) (hp_p2 : ml_at n p2 (19, 8)) (hp_p3 : ml_at n p3 (19, 8)) (σ : ml_St) (x1 : Int) (x4 : Int) (h_x1 : I32 x1) (h_x4 : I32 x4) (ls : Array Slot) (hl : lv_has ls 14 [(0, .ref (base + (th : Int).toNat)), (1, .int (Int32.ofInt x1)), (2, .ref (base + (p2 : Int).toNat)), (3, .ref (base + (p3 : Int).toNat)), (4, .int (Int32.ofInt x4))]) (hw : f_X9_joinFrom_u0 Q th p2 p3 σ x1 x4) : ml_V p l e rm_X9_joinFrom s m args below meth c (MQ below (ml_Qi I32 base D cA n Q) args s 0 0 (ml_A base)) base D cA 0 0 n n σ (F0 m 0 ls []) := by
  unfold f_X9_joinFrom_u0 at hw
  refine ml_iconst (pc := 0) X dX9_joinFrom_0 ?_
  refine ml_istore (pc := 1) X hl (by decide) (lst' := [(5, .int (Int32.ofInt 0)), (0, .ref (base + (th : Int).toNat)), (1, .int (Int32.ofInt x1)), (2, .ref (base + (p2 : Int).toNat)), (3, .ref (base + (p3 : Int).toNat)), (4, .int (Int32.ofInt x4))]) rfl dX9_joinFrom_1 (fun ls hl => ?_)
  refine ml_iload_n (pc := 3) X hl 2 rfl rfl dX9_joinFrom_3 ?_
  refine ml_istore (pc := 4) X hl (by decide) (lst' := [(6, .int (Int32.ofInt x1)), (5, .int (Int32.ofInt 0)), (0, .ref (base + (th : Int).toNat)), (1, .int (Int32.ofInt x1)), (2, .ref (base + (p2 : Int).toNat)), (3, .ref (base + (p3 : Int).toNat)), (4, .int (Int32.ofInt x4))]) rfl dX9_joinFrom_4 (fun ls hl => ?_)
  refine ml_lconst0 (pc := 6) X dX9_joinFrom_6 ?_
  refine ml_lstore (pc := 7) X hl (by decide) (lst' := [(7, .long (Int64.ofInt 0)), (6, .int (Int32.ofInt x1)), (5, .int (Int32.ofInt 0)), (0, .ref (base + (th : Int).toNat)), (1, .int (Int32.ofInt x1)), (2, .ref (base + (p2 : Int).toNat)), (3, .ref (base + (p3 : Int).toNat)), (4, .int (Int32.ofInt x4))]) rfl dX9_joinFrom_7 (fun ls hl => ?_)
  refine ml_iload_n (pc := 9) X hl 4 rfl rfl dX9_joinFrom_9 ?_
  refine ml_iload (pc := 10) X hl 7 rfl dX9_joinFrom_10 ?_
  refine ml_icmp_ge (pc := 12) (tgt := 19) X h_x1 h_x4 dX9_joinFrom_12 (by decide) (fun c1 => ?_) (fun c1 => ?_)
  · have hw := hw.1 c1
    refine ml_iconst (pc := 19) X dX9_joinFrom_19 ?_
    exact u_X9_joinFrom_20 X hn hp_th hp_p2 hp_p3 σ x1 x4 0 x1 0 0 h_x1 h_x4 ⟨by decide, by decide⟩ h_x1 ⟨by decide, by decide⟩ ⟨by decide, by decide⟩ _ (lv_sub hl [3, 4, 5, 6, 7, 2, 1, 0] rfl) hw
  · have hw := hw.2 c1
    refine ml_iconst (pc := 15) X dX9_joinFrom_15 ?_
    refine ml_goto (pc := 16) (tgt := 20) X dX9_joinFrom_16 (by decide) ?_
    exact u_X9_joinFrom_20 X hn hp_th hp_p2 hp_p3 σ x1 x4 0 x1 0 1 h_x1 h_x4 ⟨by decide, by decide⟩ h_x1 ⟨by decide, by decide⟩ ⟨by decide, by decide⟩ _ (lv_sub hl [3, 4, 5, 6, 7, 2, 1, 0] rfl) hw
set_option maxRecDepth 100000 in
theorem c_X9_joinFrom (l : Launch) (base : Nat) (D : va_G) (cA : Nat → ClassId) (n : Nat) (hn : 214 ≤ n) (σ : ml_St) (th : Int) (p2 : Int) (p3 : Int) (hp_th : ml_at n th (19, 8)) (hp_p2 : ml_at n p2 (19, 8)) (hp_p3 : ml_at n p3 (19, 8)) (x1 : Int) (x4 : Int) (h_x1 : I32 x1) (h_x4 : I32 x4) (Q : Int → ml_St → Prop) (hw : f_X9_joinFrom σ th p2 p3 x1 x4 Q) : Met l yX9_joinFrom (Cond.code yX9_joinFrom cX9_joinFrom 14 (some .int) :: ml_T) rm_X9_joinFrom (va_Pc [.ref (base + (th : Int).toNat), .int (Int32.ofInt x1), .ref (base + (p2 : Int).toNat), .ref (base + (p3 : Int).toNat), .int (Int32.ofInt x4)] (ml_U base D cA n σ)) (ml_Qi I32 base D cA n Q) 0 0 (ml_A base) := by
  refine Met.ofW (cc := cX9_joinFrom) (maxL := 14) (ret := (some .int)) (by decide) rfl ?_
  intro p e s m args below meth c s₁ B hml hv
  obtain ⟨rfl, hP, hK, hok, hro⟩ := hv
  have X : ml_X p s m c meth _ D cA cX9_joinFrom 14 RX9 (some .int) := ⟨B.exec, B.bytes, hml, findClass_of_methodNamed B.named, fun w hw => atoms_spec (ws := Cond.code yX9_joinFrom cX9_joinFrom 14 (some .int) :: ml_T) B.pre w (List.mem_cons_of_mem _ hw), hK, B.notSynchronized, B.returns⟩
  have hl := lv_entry [.ref (base + (th : Int).toNat), .int (Int32.ofInt x1), .ref (base + (p2 : Int).toNat), .ref (base + (p3 : Int).toNat), .int (Int32.ofInt x4)] (n := 14) (Nat.le_of_ble_eq_true rfl)
  rw [lg_entry_eq]
  generalize (lg_sl [.ref (base + (th : Int).toNat), .int (Int32.ofInt x1), .ref (base + (p2 : Int).toNat), .ref (base + (p3 : Int).toNat), .int (Int32.ofInt x4)] ++ List.replicate (14 - (lg_sl [.ref (base + (th : Int).toNat), .int (Int32.ofInt x1), .ref (base + (p2 : Int).toNat), .ref (base + (p3 : Int).toNat), .int (Int32.ofInt x4)]).length) Slot.unset).toArray = ls at hl ⊢
  have hl : lv_has ls 14 [(0, .ref (base + (th : Int).toNat)), (1, .int (Int32.ofInt x1)), (2, .ref (base + (p2 : Int).toNat)), (3, .ref (base + (p3 : Int).toNat)), (4, .int (Int32.ofInt x4))] := hl
  unfold f_X9_joinFrom at hw
  exact u_X9_joinFrom_0 X hn hp_th hp_p2 hp_p3 σ x1 x4 h_x1 h_x4 _ (lv_sub hl [0, 1, 2, 3, 4] rfl) hw s.heap [] hP va_S.rf hok hro
theorem dX9_beBoth_0 : decode cX9_beBoth 0 = .ok (.aload_n 0, 1) := by decide +kernel
theorem dX9_beBoth_1 : decode cX9_beBoth 1 = .ok (.aload_n 1, 1) := by decide +kernel
theorem dX9_beBoth_2 : decode cX9_beBoth 2 = .ok (.getfield 19, 3) := by decide +kernel
theorem dX9_beBoth_5 : decode cX9_beBoth 5 = .ok (.aload_n 2, 1) := by decide +kernel
theorem dX9_beBoth_6 : decode cX9_beBoth 6 = .ok (.getfield 19, 3) := by decide +kernel
theorem dX9_beBoth_9 : decode cX9_beBoth 9 = .ok (.ladd, 1) := by decide +kernel
theorem dX9_beBoth_10 : decode cX9_beBoth 10 = .ok (.putfield 19, 3) := by decide +kernel
theorem dX9_beBoth_13 : decode cX9_beBoth 13 = .ok (.aload_n 0, 1) := by decide +kernel
theorem dX9_beBoth_14 : decode cX9_beBoth 14 = .ok (.aload_n 1, 1) := by decide +kernel
theorem dX9_beBoth_15 : decode cX9_beBoth 15 = .ok (.getfield 23, 3) := by decide +kernel
theorem dX9_beBoth_18 : decode cX9_beBoth 18 = .ok (.aload_n 2, 1) := by decide +kernel
theorem dX9_beBoth_19 : decode cX9_beBoth 19 = .ok (.getfield 23, 3) := by decide +kernel
theorem dX9_beBoth_22 : decode cX9_beBoth 22 = .ok (.invokestatic 55, 3) := by decide +kernel
theorem dX9_beBoth_25 : decode cX9_beBoth 25 = .ok (.putfield 23, 3) := by decide +kernel
theorem dX9_beBoth_28 : decode cX9_beBoth 28 = .ok (.aload_n 0, 1) := by decide +kernel
theorem dX9_beBoth_29 : decode cX9_beBoth 29 = .ok (.aload_n 1, 1) := by decide +kernel
theorem dX9_beBoth_30 : decode cX9_beBoth 30 = .ok (.getfield 26, 3) := by decide +kernel
theorem dX9_beBoth_33 : decode cX9_beBoth 33 = .ok (.aload_n 2, 1) := by decide +kernel
theorem dX9_beBoth_34 : decode cX9_beBoth 34 = .ok (.getfield 26, 3) := by decide +kernel
theorem dX9_beBoth_37 : decode cX9_beBoth 37 = .ok (.ladd, 1) := by decide +kernel
theorem dX9_beBoth_38 : decode cX9_beBoth 38 = .ok (.putfield 26, 3) := by decide +kernel
theorem dX9_beBoth_41 : decode cX9_beBoth 41 = .ok (.aload_n 0, 1) := by decide +kernel
theorem dX9_beBoth_42 : decode cX9_beBoth 42 = .ok (.aload_n 1, 1) := by decide +kernel
theorem dX9_beBoth_43 : decode cX9_beBoth 43 = .ok (.getfield 29, 3) := by decide +kernel
theorem dX9_beBoth_46 : decode cX9_beBoth 46 = .ok (.aload_n 2, 1) := by decide +kernel
theorem dX9_beBoth_47 : decode cX9_beBoth 47 = .ok (.getfield 29, 3) := by decide +kernel
theorem dX9_beBoth_50 : decode cX9_beBoth 50 = .ok (.ldc2_w 61, 3) := by decide +kernel
theorem dX9_beBoth_53 : decode cX9_beBoth 53 = .ok (.aload_n 1, 1) := by decide +kernel
theorem dX9_beBoth_54 : decode cX9_beBoth 54 = .ok (.getfield 29, 3) := by decide +kernel
theorem dX9_beBoth_57 : decode cX9_beBoth 57 = .ok (.lsub, 1) := by decide +kernel
theorem dX9_beBoth_58 : decode cX9_beBoth 58 = .ok (.invokestatic 63, 3) := by decide +kernel
theorem dX9_beBoth_61 : decode cX9_beBoth 61 = .ok (.ladd, 1) := by decide +kernel
theorem dX9_beBoth_62 : decode cX9_beBoth 62 = .ok (.putfield 29, 3) := by decide +kernel
theorem dX9_beBoth_65 : decode cX9_beBoth 65 = .ok (.aload_n 0, 1) := by decide +kernel
theorem dX9_beBoth_66 : decode cX9_beBoth 66 = .ok (.aload_n 1, 1) := by decide +kernel
theorem dX9_beBoth_67 : decode cX9_beBoth 67 = .ok (.getfield 32, 3) := by decide +kernel
theorem dX9_beBoth_70 : decode cX9_beBoth 70 = .ok (.ifCond .ne 10, 3) := by decide +kernel
theorem dX9_beBoth_73 : decode cX9_beBoth 73 = .ok (.aload_n 2, 1) := by decide +kernel
theorem dX9_beBoth_74 : decode cX9_beBoth 74 = .ok (.getfield 32, 3) := by decide +kernel
theorem dX9_beBoth_77 : decode cX9_beBoth 77 = .ok (.ifCond .eq 7, 3) := by decide +kernel
theorem dX9_beBoth_80 : decode cX9_beBoth 80 = .ok (.iconst 1, 1) := by decide +kernel
theorem dX9_beBoth_81 : decode cX9_beBoth 81 = .ok (.goto 4, 3) := by decide +kernel
theorem dX9_beBoth_84 : decode cX9_beBoth 84 = .ok (.iconst 0, 1) := by decide +kernel
theorem dX9_beBoth_85 : decode cX9_beBoth 85 = .ok (.putfield 32, 3) := by decide +kernel
theorem dX9_beBoth_88 : decode cX9_beBoth 88 = .ok (.aload_n 0, 1) := by decide +kernel
theorem dX9_beBoth_89 : decode cX9_beBoth 89 = .ok (.aload_n 1, 1) := by decide +kernel
theorem dX9_beBoth_90 : decode cX9_beBoth 90 = .ok (.getfield 36, 3) := by decide +kernel
theorem dX9_beBoth_93 : decode cX9_beBoth 93 = .ok (.ifCond .ne 10, 3) := by decide +kernel
theorem dX9_beBoth_96 : decode cX9_beBoth 96 = .ok (.aload_n 2, 1) := by decide +kernel
theorem dX9_beBoth_97 : decode cX9_beBoth 97 = .ok (.getfield 36, 3) := by decide +kernel
theorem dX9_beBoth_100 : decode cX9_beBoth 100 = .ok (.ifCond .eq 7, 3) := by decide +kernel
theorem dX9_beBoth_103 : decode cX9_beBoth 103 = .ok (.iconst 1, 1) := by decide +kernel
theorem dX9_beBoth_104 : decode cX9_beBoth 104 = .ok (.goto 4, 3) := by decide +kernel
theorem dX9_beBoth_107 : decode cX9_beBoth 107 = .ok (.iconst 0, 1) := by decide +kernel
theorem dX9_beBoth_108 : decode cX9_beBoth 108 = .ok (.putfield 36, 3) := by decide +kernel
theorem dX9_beBoth_111 : decode cX9_beBoth 111 = .ok (.iconst 0, 1) := by decide +kernel
theorem dX9_beBoth_112 : decode cX9_beBoth 112 = .ok (.istore 4, 2) := by decide +kernel
theorem dX9_beBoth_114 : decode cX9_beBoth 114 = .ok (.iconst 0, 1) := by decide +kernel
theorem dX9_beBoth_115 : decode cX9_beBoth 115 = .ok (.istore 5, 2) := by decide +kernel
theorem dX9_beBoth_117 : decode cX9_beBoth 117 = .ok (.iload 5, 2) := by decide +kernel
theorem dX9_beBoth_119 : decode cX9_beBoth 119 = .ok (.iconst 2, 1) := by decide +kernel
theorem dX9_beBoth_120 : decode cX9_beBoth 120 = .ok (.iload_n 3, 1) := by decide +kernel
theorem dX9_beBoth_121 : decode cX9_beBoth 121 = .ok (.imul, 1) := by decide +kernel
theorem dX9_beBoth_122 : decode cX9_beBoth 122 = .ok (.if_icmp .ge 23, 3) := by decide +kernel
theorem dX9_beBoth_125 : decode cX9_beBoth 125 = .ok (.iload 4, 2) := by decide +kernel
theorem dX9_beBoth_127 : decode cX9_beBoth 127 = .ok (.aload_n 0, 1) := by decide +kernel
theorem dX9_beBoth_128 : decode cX9_beBoth 128 = .ok (.iload 5, 2) := by decide +kernel
theorem dX9_beBoth_130 : decode cX9_beBoth 130 = .ok (.aload_n 1, 1) := by decide +kernel
theorem dX9_beBoth_131 : decode cX9_beBoth 131 = .ok (.aload_n 2, 1) := by decide +kernel
theorem dX9_beBoth_132 : decode cX9_beBoth 132 = .ok (.iload_n 3, 1) := by decide +kernel
theorem dX9_beBoth_133 : decode cX9_beBoth 133 = .ok (.invokevirtual 66, 3) := by decide +kernel
theorem dX9_beBoth_136 : decode cX9_beBoth 136 = .ok (.ior, 1) := by decide +kernel
theorem dX9_beBoth_137 : decode cX9_beBoth 137 = .ok (.istore 4, 2) := by decide +kernel
theorem dX9_beBoth_139 : decode cX9_beBoth 139 = .ok (.iinc 5 1, 3) := by decide +kernel
theorem dX9_beBoth_142 : decode cX9_beBoth 142 = .ok (.goto (-25), 3) := by decide +kernel
theorem dX9_beBoth_145 : decode cX9_beBoth 145 = .ok (.iconst 0, 1) := by decide +kernel
theorem dX9_beBoth_146 : decode cX9_beBoth 146 = .ok (.istore 5, 2) := by decide +kernel
theorem dX9_beBoth_148 : decode cX9_beBoth 148 = .ok (.iload 5, 2) := by decide +kernel
theorem dX9_beBoth_150 : decode cX9_beBoth 150 = .ok (.iload_n 3, 1) := by decide +kernel
theorem dX9_beBoth_151 : decode cX9_beBoth 151 = .ok (.if_icmp .ge 33, 3) := by decide +kernel
theorem dX9_beBoth_154 : decode cX9_beBoth 154 = .ok (.iload 4, 2) := by decide +kernel
theorem dX9_beBoth_156 : decode cX9_beBoth 156 = .ok (.iload 5, 2) := by decide +kernel
theorem dX9_beBoth_158 : decode cX9_beBoth 158 = .ok (.ishr, 1) := by decide +kernel
theorem dX9_beBoth_159 : decode cX9_beBoth 159 = .ok (.iconst 1, 1) := by decide +kernel
theorem dX9_beBoth_160 : decode cX9_beBoth 160 = .ok (.iand, 1) := by decide +kernel
theorem dX9_beBoth_161 : decode cX9_beBoth 161 = .ok (.ifCond .ne 17, 3) := by decide +kernel
theorem dX9_beBoth_164 : decode cX9_beBoth 164 = .ok (.iload 4, 2) := by decide +kernel
theorem dX9_beBoth_166 : decode cX9_beBoth 166 = .ok (.aload_n 0, 1) := by decide +kernel
theorem dX9_beBoth_167 : decode cX9_beBoth 167 = .ok (.iload 5, 2) := by decide +kernel
theorem dX9_beBoth_169 : decode cX9_beBoth 169 = .ok (.aload_n 1, 1) := by decide +kernel
theorem dX9_beBoth_170 : decode cX9_beBoth 170 = .ok (.aload_n 2, 1) := by decide +kernel
theorem dX9_beBoth_171 : decode cX9_beBoth 171 = .ok (.iload_n 3, 1) := by decide +kernel
theorem dX9_beBoth_172 : decode cX9_beBoth 172 = .ok (.invokevirtual 70, 3) := by decide +kernel
theorem dX9_beBoth_175 : decode cX9_beBoth 175 = .ok (.ior, 1) := by decide +kernel
theorem dX9_beBoth_176 : decode cX9_beBoth 176 = .ok (.istore 4, 2) := by decide +kernel
theorem dX9_beBoth_178 : decode cX9_beBoth 178 = .ok (.iinc 5 1, 3) := by decide +kernel
theorem dX9_beBoth_181 : decode cX9_beBoth 181 = .ok (.goto (-33), 3) := by decide +kernel
theorem dX9_beBoth_184 : decode cX9_beBoth 184 = .ok (.return_, 1) := by decide +kernel
def f_X9_beBoth_u117 (Q : ml_St → Prop) (K145 : ml_St → Int → Int → Prop) (th : Int) (p1 : Int) (p2 : Int) : Nat → ml_St → Int → Int → Int → Prop
| 0, _, _, _, _ => False
| N + 1, σ, x3, x4, x5 =>
I32 (2 * x3) ∧
((2 * x3) ≤ x5 →
K145 σ x3 x4) ∧
(¬ ((2 * x3) ≤ x5) →
f_X9_joinFrom σ th p1 p2 x5 x3 (fun r3 σ3 => ∀ _ : I32 r3,
∀ y4 : Int, y4 = b_or x4 r3 →
I32 (x5 + 1) ∧
∀ y5 : Int, y5 = x5 + 1 →
f_X9_beBoth_u117 Q K145 th p1 p2 N σ3 x3 y4 y5))
def f_X9_beBoth_u178 (Q : ml_St → Prop) (K148 : ml_St → Int → Int → Int → Prop) (th : Int) (p1 : Int) (p2 : Int) (σ : ml_St) (x3 : Int) (x4 : Int) (x5 : Int) : Prop :=
I32 (x5 + 1) ∧
∀ y1 : Int, y1 = x5 + 1 →
K148 σ x3 x4 y1
def f_X9_beBoth_u148 (Q : ml_St → Prop) (K184 : ml_St → Prop) (th : Int) (p1 : Int) (p2 : Int) : Nat → ml_St → Int → Int → Int → Prop
| 0, _, _, _, _ => False
| N + 1, σ, x3, x4, x5 =>
(x3 ≤ x5 →
K184 σ) ∧
(¬ (x3 ≤ x5) →
(((b_and (b_shr x4 x5) 1) : Int) ≠ 0 →
f_X9_beBoth_u178 Q (f_X9_beBoth_u148 Q K184 th p1 p2 N) th p1 p2 σ x3 x4 x5) ∧
((b_and (b_shr x4 x5) 1) = 0 →
f_X9_addLoop σ th p1 p2 x5 x3 (fun r3 σ3 => ∀ _ : I32 r3,
∀ y4 : Int, y4 = b_or x4 r3 →
f_X9_beBoth_u178 Q (f_X9_beBoth_u148 Q K184 th p1 p2 N) th p1 p2 σ3 x3 y4 x5)))
def f_X9_beBoth_u184 (Q : ml_St → Prop) (th : Int) (p1 : Int) (p2 : Int) (σ : ml_St) : Prop :=
Q σ
def f_X9_beBoth_u145 (Q : ml_St → Prop) (th : Int) (p1 : Int) (p2 : Int) (σ : ml_St) (x3 : Int) (x4 : Int) : Prop :=
∃ N1, f_X9_beBoth_u148 Q (f_X9_beBoth_u184 Q th p1 p2) th p1 p2 N1 σ x3 x4 0
def f_X9_beBoth_u108 (Q : ml_St → Prop) (th : Int) (p1 : Int) (p2 : Int) (σ : ml_St) (x3 : Int) (s1 : Int) : Prop :=
∀ σ1, σ1 = ml_up σ th 7 s1 →
∃ N1, f_X9_beBoth_u117 Q (f_X9_beBoth_u145 Q th p1 p2) th p1 p2 N1 σ1 x3 0 0
def f_X9_beBoth_u103 (Q : ml_St → Prop) (th : Int) (p1 : Int) (p2 : Int) (σ : ml_St) (x3 : Int) : Prop :=
f_X9_beBoth_u108 Q th p1 p2 σ x3 1
def f_X9_beBoth_u85 (Q : ml_St → Prop) (th : Int) (p1 : Int) (p2 : Int) (σ : ml_St) (x3 : Int) (s1 : Int) : Prop :=
∀ σ1, σ1 = ml_up σ th 6 s1 →
∀ _ : ml_B (σ1 p1 7),
(((σ1 p1 7) : Int) ≠ 0 →
f_X9_beBoth_u103 Q th p1 p2 σ1 x3) ∧
((σ1 p1 7) = 0 →
∀ _ : ml_B (σ1 p2 7),
(((σ1 p2 7) : Int) = 0 →
f_X9_beBoth_u108 Q th p1 p2 σ1 x3 0) ∧
((σ1 p2 7) ≠ 0 →
f_X9_beBoth_u103 Q th p1 p2 σ1 x3))
def f_X9_beBoth_u80 (Q : ml_St → Prop) (th : Int) (p1 : Int) (p2 : Int) (σ : ml_St) (x3 : Int) : Prop :=
f_X9_beBoth_u85 Q th p1 p2 σ x3 1
def f_X9_beBoth_u0 (Q : ml_St → Prop) (th : Int) (p1 : Int) (p2 : Int) (σ : ml_St) (x3 : Int) : Prop :=
∀ _ : I64 (σ p1 2),
∀ _ : I64 (σ p2 2),
∀ σ4, σ4 = ml_up σ th 2 (w64 ((σ p1 2) + (σ p2 2))) →
∀ _ : I64 (σ4 p1 3),
∀ _ : I64 (σ4 p2 3),
∀ σ7, σ7 = ml_up σ4 th 3 (max (σ4 p1 3) (σ4 p2 3)) →
∀ _ : I64 (σ7 p1 4),
∀ _ : I64 (σ7 p2 4),
∀ σ11, σ11 = ml_up σ7 th 4 (w64 ((σ7 p1 4) + (σ7 p2 4))) →
∀ _ : I64 (σ11 p1 5),
∀ _ : I64 (σ11 p2 5),
∀ _ : I64 (σ11 p1 5),
∀ σ17, σ17 = ml_up σ11 th 5 (w64 ((σ11 p1 5) + (min (σ11 p2 5) (w64 (9000000000000000000 - (σ11 p1 5)))))) →
∀ _ : ml_B (σ17 p1 6),
(((σ17 p1 6) : Int) ≠ 0 →
f_X9_beBoth_u80 Q th p1 p2 σ17 x3) ∧
((σ17 p1 6) = 0 →
∀ _ : ml_B (σ17 p2 6),
(((σ17 p2 6) : Int) = 0 →
f_X9_beBoth_u85 Q th p1 p2 σ17 x3 0) ∧
((σ17 p2 6) ≠ 0 →
f_X9_beBoth_u80 Q th p1 p2 σ17 x3))
def f_X9_beBoth (σ : ml_St) (th : Int) (p1 : Int) (p2 : Int) (x3 : Int) (Q : ml_St → Prop) : Prop := f_X9_beBoth_u0 Q th p1 p2 σ x3
def rm_X9_beBoth : Room := { frames := 2, cells := 0, slots := 0, locals := 90 }
set_option maxRecDepth 100000 in
set_option maxHeartbeats 4000000 in
theorem u_X9_beBoth_117 {p : Program} {e : Env} {s : State} {m : MethodId} {args : Array Value} {below : List Frame} {meth : Method} {c : Code} {base : Nat} {D : va_G} {cA : Nat → ClassId} {n : Nat} {l : Launch} {th : Int} {p1 : Int} {p2 : Int} {Q : ml_St → Prop} {K145 : ml_St → Int → Int → Prop} (X : ml_X p s m c meth args D cA cX9_beBoth 6 RX9 none) (hn : 214 ≤ n) (hp_th : ml_at n th (19, 8)) (hp_p1 : ml_at n p1 (19, 8)) (hp_p2 : ml_at n p2 (19, 8)) (hK145 : ∀ (σ : ml_St) (x3 : Int) (x4 : Int) (h_x3 : I32 x3) (h_x4 : I32 x4) (ls : Array Slot), lv_has ls 6 [(0, .ref (base + (th : Int).toNat)), (1, .ref (base + (p1 : Int).toNat)), (2, .ref (base + (p2 : Int).toNat)), (3, .int (Int32.ofInt x3)), (4, .int (Int32.ofInt x4))] → K145 σ x3 x4 → ml_V p l e rm_X9_beBoth s m args below meth c (MQ below (ml_Qv base D cA n Q) args s 0 0 (ml_A base)) base D cA 0 0 n n σ (F0 m 145 ls [])) : ∀ (N : Nat) (σ : ml_St) (x3 : Int) (x4 : Int) (x5 : Int) (h_x3 : I32 x3) (h_x4 : I32 x4) (h_x5 : I32 x5) (ls : Array Slot), lv_has ls 6 [(0, .ref (base + (th : Int).toNat)), (1, .ref (base + (p1 : Int).toNat)), (2, .ref (base + (p2 : Int).toNat)), (3, .int (Int32.ofInt x3)), (4, .int (Int32.ofInt x4)), (5, .int (Int32.ofInt x5))] → f_X9_beBoth_u117 Q K145 th p1 p2 N σ x3 x4 x5 → ml_V p l e rm_X9_beBoth s m args below meth c (MQ below (ml_Qv base D cA n Q) args s 0 0 (ml_A base)) base D cA 0 0 n n σ (F0 m 117 ls []) := by
  intro N
  induction N with
  | zero => intro σ x3 x4 x5 h_x3 h_x4 h_x5 ls hl hw; exact False.elim hw
  | succ N ih =>
    intro σ x3 x4 x5 h_x3 h_x4 h_x5 ls hl hw
    unfold f_X9_beBoth_u117 at hw
    refine ml_iload (pc := 117) X hl 5 rfl dX9_beBoth_117 ?_
    refine ml_iconst (pc := 119) X dX9_beBoth_119 ?_
    refine ml_iload_n (pc := 120) X hl 3 rfl rfl dX9_beBoth_120 ?_
    obtain ⟨v1, hw⟩ := hw
    refine ml_imul (pc := 121) X dX9_beBoth_121 ?_
    refine ml_icmp_ge (pc := 122) (tgt := 145) X h_x5 v1 dX9_beBoth_122 (by decide) (fun c2 => ?_) (fun c2 => ?_)
    · have hw := hw.1 c2
      exact hK145 σ x3 x4 h_x3 h_x4 _ (lv_sub hl [0, 1, 2, 3, 4] rfl) hw
    · have hw := hw.2 c2
      refine ml_iload (pc := 125) X hl 4 rfl dX9_beBoth_125 ?_
      refine ml_aload_n (pc := 127) X hl 0 rfl rfl dX9_beBoth_127 ?_
      refine ml_iload (pc := 128) X hl 5 rfl dX9_beBoth_128 ?_
      refine ml_aload_n (pc := 130) X hl 1 rfl rfl dX9_beBoth_130 ?_
      refine ml_aload_n (pc := 131) X hl 2 rfl rfl dX9_beBoth_131 ?_
      refine ml_iload_n (pc := 132) X hl 3 rfl rfl dX9_beBoth_132 ?_
      refine ml_calliV (pc := 133) (rest := [.int (Int32.ofInt x4)]) X [.int (Int32.ofInt x5), .ref (base + (p1 : Int).toNat), .ref (base + (p2 : Int).toNat), .int (Int32.ofInt x3)] (by decide) rfl hp_th (c_X9_joinFrom l base D cA n hn σ th p1 p2 hp_th hp_p1 hp_p2 x5 x3 h_x5 h_x3 _ hw) cv_X9_66 ⟨rfl, rfl⟩ ⟨by decide, by decide⟩ rfl rfl hl (Nat.le_of_ble_eq_true rfl) ⟨Nat.zero_le _, Nat.zero_le _⟩ dX9_beBoth_133 (fun r3 σ3 t3 hw => ?_)
      have hw := hw t3
      refine ml_ior (pc := 136) X dX9_beBoth_136 ?_
      refine ml_topI (pc := 137) (fun y4 e4 => ?_)
      have hw := hw y4 e4
      have q4 : I32 y4 := by rw [e4]; exact (b_or_r _ _)
      refine ml_istore (pc := 137) X hl (by decide) (lst' := [(4, .int (Int32.ofInt y4)), (0, .ref (base + (th : Int).toNat)), (1, .ref (base + (p1 : Int).toNat)), (2, .ref (base + (p2 : Int).toNat)), (3, .int (Int32.ofInt x3)), (5, .int (Int32.ofInt x5))]) rfl dX9_beBoth_137 (fun ls hl => ?_)
      obtain ⟨v5, hw⟩ := hw
      obtain ⟨y5, e5⟩ : ∃ y : Int, y = x5 + 1 := ⟨_, rfl⟩
      have hw := hw y5 e5
      rw [← e5] at v5
      refine ml_iinc (pc := 139) X e5 hl 5 rfl (by decide) (lst' := [(5, .int (Int32.ofInt y5)), (4, .int (Int32.ofInt y4)), (0, .ref (base + (th : Int).toNat)), (1, .ref (base + (p1 : Int).toNat)), (2, .ref (base + (p2 : Int).toNat)), (3, .int (Int32.ofInt x3))]) rfl dX9_beBoth_139 (fun ls hl => ?_)
      refine ml_goto (pc := 142) (tgt := 117) X dX9_beBoth_142 (by decide) ?_
      exact ih σ3 x3 y4 y5 h_x3 q4 v5 _ (lv_sub hl [2, 3, 4, 5, 1, 0] rfl) hw
set_option maxRecDepth 100000 in
set_option maxHeartbeats 4000000 in
theorem u_X9_beBoth_178 {p : Program} {e : Env} {s : State} {m : MethodId} {args : Array Value} {below : List Frame} {meth : Method} {c : Code} {base : Nat} {D : va_G} {cA : Nat → ClassId} {n : Nat} {l : Launch} {th : Int} {p1 : Int} {p2 : Int} {Q : ml_St → Prop} {K148 : ml_St → Int → Int → Int → Prop} (X : ml_X p s m c meth args D cA cX9_beBoth 6 RX9 none) (hn : 214 ≤ n) (hp_th : ml_at n th (19, 8)) (hp_p1 : ml_at n p1 (19, 8)) (hp_p2 : ml_at n p2 (19, 8)) (hK148 : ∀ (σ : ml_St) (x3 : Int) (x4 : Int) (x5 : Int) (h_x3 : I32 x3) (h_x4 : I32 x4) (h_x5 : I32 x5) (ls : Array Slot), lv_has ls 6 [(0, .ref (base + (th : Int).toNat)), (1, .ref (base + (p1 : Int).toNat)), (2, .ref (base + (p2 : Int).toNat)), (3, .int (Int32.ofInt x3)), (4, .int (Int32.ofInt x4)), (5, .int (Int32.ofInt x5))] → K148 σ x3 x4 x5 → ml_V p l e rm_X9_beBoth s m args below meth c (MQ below (ml_Qv base D cA n Q) args s 0 0 (ml_A base)) base D cA 0 0 n n σ (F0 m 148 ls [])) (σ : ml_St) (x3 : Int) (x4 : Int) (x5 : Int) (h_x3 : I32 x3) (h_x4 : I32 x4) (h_x5 : I32 x5) (ls : Array Slot) (hl : lv_has ls 6 [(0, .ref (base + (th : Int).toNat)), (1, .ref (base + (p1 : Int).toNat)), (2, .ref (base + (p2 : Int).toNat)), (3, .int (Int32.ofInt x3)), (4, .int (Int32.ofInt x4)), (5, .int (Int32.ofInt x5))]) (hw : f_X9_beBoth_u178 Q K148 th p1 p2 σ x3 x4 x5) : ml_V p l e rm_X9_beBoth s m args below meth c (MQ below (ml_Qv base D cA n Q) args s 0 0 (ml_A base)) base D cA 0 0 n n σ (F0 m 178 ls []) := by
  unfold f_X9_beBoth_u178 at hw
  obtain ⟨v1, hw⟩ := hw
  obtain ⟨y1, e1⟩ : ∃ y : Int, y = x5 + 1 := ⟨_, rfl⟩
  have hw := hw y1 e1
  rw [← e1] at v1
  refine ml_iinc (pc := 178) X e1 hl 5 rfl (by decide) (lst' := [(5, .int (Int32.ofInt y1)), (0, .ref (base + (th : Int).toNat)), (1, .ref (base + (p1 : Int).toNat)), (2, .ref (base + (p2 : Int).toNat)), (3, .int (Int32.ofInt x3)), (4, .int (Int32.ofInt x4))]) rfl dX9_beBoth_178 (fun ls hl => ?_)
  refine ml_goto (pc := 181) (tgt := 148) X dX9_beBoth_181 (by decide) ?_
  exact hK148 σ x3 x4 y1 h_x3 h_x4 v1 _ (lv_sub hl [1, 2, 3, 4, 5, 0] rfl) hw
set_option maxRecDepth 100000 in
set_option maxHeartbeats 4000000 in
theorem u_X9_beBoth_148 {p : Program} {e : Env} {s : State} {m : MethodId} {args : Array Value} {below : List Frame} {meth : Method} {c : Code} {base : Nat} {D : va_G} {cA : Nat → ClassId} {n : Nat} {l : Launch} {th : Int} {p1 : Int} {p2 : Int} {Q : ml_St → Prop} {K184 : ml_St → Prop} (X : ml_X p s m c meth args D cA cX9_beBoth 6 RX9 none) (hn : 214 ≤ n) (hp_th : ml_at n th (19, 8)) (hp_p1 : ml_at n p1 (19, 8)) (hp_p2 : ml_at n p2 (19, 8)) (hK184 : ∀ (σ : ml_St) (ls : Array Slot), lv_has ls 6 [] → K184 σ → ml_V p l e rm_X9_beBoth s m args below meth c (MQ below (ml_Qv base D cA n Q) args s 0 0 (ml_A base)) base D cA 0 0 n n σ (F0 m 184 ls [])) : ∀ (N : Nat) (σ : ml_St) (x3 : Int) (x4 : Int) (x5 : Int) (h_x3 : I32 x3) (h_x4 : I32 x4) (h_x5 : I32 x5) (ls : Array Slot), lv_has ls 6 [(0, .ref (base + (th : Int).toNat)), (1, .ref (base + (p1 : Int).toNat)), (2, .ref (base + (p2 : Int).toNat)), (3, .int (Int32.ofInt x3)), (4, .int (Int32.ofInt x4)), (5, .int (Int32.ofInt x5))] → f_X9_beBoth_u148 Q K184 th p1 p2 N σ x3 x4 x5 → ml_V p l e rm_X9_beBoth s m args below meth c (MQ below (ml_Qv base D cA n Q) args s 0 0 (ml_A base)) base D cA 0 0 n n σ (F0 m 148 ls []) := by
  intro N
  induction N with
  | zero => intro σ x3 x4 x5 h_x3 h_x4 h_x5 ls hl hw; exact False.elim hw
  | succ N ih =>
    intro σ x3 x4 x5 h_x3 h_x4 h_x5 ls hl hw
    unfold f_X9_beBoth_u148 at hw
    refine ml_iload (pc := 148) X hl 5 rfl dX9_beBoth_148 ?_
    refine ml_iload_n (pc := 150) X hl 3 rfl rfl dX9_beBoth_150 ?_
    refine ml_icmp_ge (pc := 151) (tgt := 184) X h_x5 h_x3 dX9_beBoth_151 (by decide) (fun c1 => ?_) (fun c1 => ?_)
    · have hw := hw.1 c1
      exact hK184 σ   _ (lv_sub hl [] rfl) hw
    · have hw := hw.2 c1
      refine ml_iload (pc := 154) X hl 4 rfl dX9_beBoth_154 ?_
      refine ml_iload (pc := 156) X hl 5 rfl dX9_beBoth_156 ?_
      refine ml_ishr (pc := 158) X dX9_beBoth_158 ?_
      refine ml_iconst (pc := 159) X dX9_beBoth_159 ?_
      refine ml_iand (pc := 160) X dX9_beBoth_160 ?_
      refine ml_if_ne (pc := 161) (tgt := 178) X (b_and_r _ _) dX9_beBoth_161 (by decide) (fun c2 => ?_) (fun c2 => ?_)
      · have hw := hw.1 c2
        exact u_X9_beBoth_178 X hn hp_th hp_p1 hp_p2 ih σ x3 x4 x5 h_x3 h_x4 h_x5 _ (lv_sub hl [0, 1, 2, 3, 4, 5] rfl) hw
      · have hw := hw.2 c2
        refine ml_iload (pc := 164) X hl 4 rfl dX9_beBoth_164 ?_
        refine ml_aload_n (pc := 166) X hl 0 rfl rfl dX9_beBoth_166 ?_
        refine ml_iload (pc := 167) X hl 5 rfl dX9_beBoth_167 ?_
        refine ml_aload_n (pc := 169) X hl 1 rfl rfl dX9_beBoth_169 ?_
        refine ml_aload_n (pc := 170) X hl 2 rfl rfl dX9_beBoth_170 ?_
        refine ml_iload_n (pc := 171) X hl 3 rfl rfl dX9_beBoth_171 ?_
        refine ml_calliV (pc := 172) (rest := [.int (Int32.ofInt x4)]) X [.int (Int32.ofInt x5), .ref (base + (p1 : Int).toNat), .ref (base + (p2 : Int).toNat), .int (Int32.ofInt x3)] (by decide) rfl hp_th (c_X9_addLoop l base D cA n hn σ th p1 p2 hp_th hp_p1 hp_p2 x5 x3 h_x5 h_x3 _ hw) cv_X9_70 ⟨rfl, rfl⟩ ⟨by decide, by decide⟩ rfl rfl hl (Nat.le_of_ble_eq_true rfl) ⟨Nat.zero_le _, Nat.zero_le _⟩ dX9_beBoth_172 (fun r3 σ3 t3 hw => ?_)
        have hw := hw t3
        refine ml_ior (pc := 175) X dX9_beBoth_175 ?_
        refine ml_topI (pc := 176) (fun y4 e4 => ?_)
        have hw := hw y4 e4
        have q4 : I32 y4 := by rw [e4]; exact (b_or_r _ _)
        refine ml_istore (pc := 176) X hl (by decide) (lst' := [(4, .int (Int32.ofInt y4)), (0, .ref (base + (th : Int).toNat)), (1, .ref (base + (p1 : Int).toNat)), (2, .ref (base + (p2 : Int).toNat)), (3, .int (Int32.ofInt x3)), (5, .int (Int32.ofInt x5))]) rfl dX9_beBoth_176 (fun ls hl => ?_)
        exact u_X9_beBoth_178 X hn hp_th hp_p1 hp_p2 ih σ3 x3 y4 x5 h_x3 q4 h_x5 _ (lv_sub hl [1, 2, 3, 4, 0, 5] rfl) hw
set_option maxRecDepth 100000 in
set_option maxHeartbeats 4000000 in
theorem u_X9_beBoth_184 {p : Program} {e : Env} {s : State} {m : MethodId} {args : Array Value} {below : List Frame} {meth : Method} {c : Code} {base : Nat} {D : va_G} {cA : Nat → ClassId} {n : Nat} {l : Launch} {th : Int} {p1 : Int} {p2 : Int} {Q : ml_St → Prop} (X : ml_X p s m c meth args D cA cX9_beBoth 6 RX9 none) (hn : 214 ≤ n) (hp_th : ml_at n th (19, 8)) (hp_p1 : ml_at n p1 (19, 8)) (hp_p2 : ml_at n p2 (19, 8)) (σ : ml_St) (ls : Array Slot) (hl : lv_has ls 6 []) (hw : f_X9_beBoth_u184 Q th p1 p2 σ) : ml_V p l e rm_X9_beBoth s m args below meth c (MQ below (ml_Qv base D cA n Q) args s 0 0 (ml_A base)) base D cA 0 0 n n σ (F0 m 184 ls []) := by
  unfold f_X9_beBoth_u184 at hw
  exact ml_vret (pc := 184) X hw dX9_beBoth_184
set_option maxRecDepth 100000 in
set_option maxHeartbeats 4000000 in
theorem u_X9_beBoth_145 {p : Program} {e : Env} {s : State} {m : MethodId} {args : Array Value} {below : List Frame} {meth : Method} {c : Code} {base : Nat} {D : va_G} {cA : Nat → ClassId} {n : Nat} {l : Launch} {th : Int} {p1 : Int} {p2 : Int} {Q : ml_St → Prop} (X : ml_X p s m c meth args D cA cX9_beBoth 6 RX9 none) (hn : 214 ≤ n) (hp_th : ml_at n th (19, 8)) (hp_p1 : ml_at n p1 (19, 8)) (hp_p2 : ml_at n p2 (19, 8)) (σ : ml_St) (x3 : Int) (x4 : Int) (h_x3 : I32 x3) (h_x4 : I32 x4) (ls : Array Slot) (hl : lv_has ls 6 [(0, .ref (base + (th : Int).toNat)), (1, .ref (base + (p1 : Int).toNat)), (2, .ref (base + (p2 : Int).toNat)), (3, .int (Int32.ofInt x3)), (4, .int (Int32.ofInt x4))]) (hw : f_X9_beBoth_u145 Q th p1 p2 σ x3 x4) : ml_V p l e rm_X9_beBoth s m args below meth c (MQ below (ml_Qv base D cA n Q) args s 0 0 (ml_A base)) base D cA 0 0 n n σ (F0 m 145 ls []) := by
  unfold f_X9_beBoth_u145 at hw
  refine ml_iconst (pc := 145) X dX9_beBoth_145 ?_
  refine ml_istore (pc := 146) X hl (by decide) (lst' := [(5, .int (Int32.ofInt 0)), (0, .ref (base + (th : Int).toNat)), (1, .ref (base + (p1 : Int).toNat)), (2, .ref (base + (p2 : Int).toNat)), (3, .int (Int32.ofInt x3)), (4, .int (Int32.ofInt x4))]) rfl dX9_beBoth_146 (fun ls hl => ?_)
  obtain ⟨N0, hw⟩ := hw
  exact u_X9_beBoth_148 X hn hp_th hp_p1 hp_p2 (fun σ   ls hl hw => u_X9_beBoth_184 X hn hp_th hp_p1 hp_p2 σ   ls hl hw) N0 σ x3 x4 0 h_x3 h_x4 ⟨by decide, by decide⟩ _ (lv_sub hl [1, 2, 3, 4, 5, 0] rfl) hw
set_option maxRecDepth 100000 in
set_option maxHeartbeats 4000000 in
theorem u_X9_beBoth_108 {p : Program} {e : Env} {s : State} {m : MethodId} {args : Array Value} {below : List Frame} {meth : Method} {c : Code} {base : Nat} {D : va_G} {cA : Nat → ClassId} {n : Nat} {l : Launch} {th : Int} {p1 : Int} {p2 : Int} {Q : ml_St → Prop} (X : ml_X p s m c meth args D cA cX9_beBoth 6 RX9 none) (hn : 214 ≤ n) (hp_th : ml_at n th (19, 8)) (hp_p1 : ml_at n p1 (19, 8)) (hp_p2 : ml_at n p2 (19, 8)) (σ : ml_St) (x3 : Int) (s1 : Int) (h_x3 : I32 x3) (h_s1 : ml_B s1) (ls : Array Slot) (hl : lv_has ls 6 [(0, .ref (base + (th : Int).toNat)), (1, .ref (base + (p1 : Int).toNat)), (2, .ref (base + (p2 : Int).toNat)), (3, .int (Int32.ofInt x3))]) (hw : f_X9_beBoth_u108 Q th p1 p2 σ x3 s1) : ml_V p l e rm_X9_beBoth s m args below meth c (MQ below (ml_Qv base D cA n Q) args s 0 0 (ml_A base)) base D cA 0 0 n n σ (F0 m 108 ls [.int (Int32.ofInt s1), .ref (base + (th : Int).toNat)]) := by
  unfold f_X9_beBoth_u108 at hw
  refine pf_X9_36 (pc := 108) X hp_th h_s1 dX9_beBoth_108 (fun σ1 g1 => ?_)
  have hw := hw σ1 g1
  refine ml_iconst (pc := 111) X dX9_beBoth_111 ?_
  refine ml_istore (pc := 112) X hl (by decide) (lst' := [(4, .int (Int32.ofInt 0)), (0, .ref (base + (th : Int).toNat)), (1, .ref (base + (p1 : Int).toNat)), (2, .ref (base + (p2 : Int).toNat)), (3, .int (Int32.ofInt x3))]) rfl dX9_beBoth_112 (fun ls hl => ?_)
  refine ml_iconst (pc := 114) X dX9_beBoth_114 ?_
  refine ml_istore (pc := 115) X hl (by decide) (lst' := [(5, .int (Int32.ofInt 0)), (4, .int (Int32.ofInt 0)), (0, .ref (base + (th : Int).toNat)), (1, .ref (base + (p1 : Int).toNat)), (2, .ref (base + (p2 : Int).toNat)), (3, .int (Int32.ofInt x3))]) rfl dX9_beBoth_115 (fun ls hl => ?_)
  obtain ⟨N0, hw⟩ := hw
  exact u_X9_beBoth_117 X hn hp_th hp_p1 hp_p2 (fun σ x3 x4 h_x3 h_x4 ls hl hw => u_X9_beBoth_145 X hn hp_th hp_p1 hp_p2 σ x3 x4 h_x3 h_x4 ls hl hw) N0 σ1 x3 0 0 h_x3 ⟨by decide, by decide⟩ ⟨by decide, by decide⟩ _ (lv_sub hl [2, 3, 4, 5, 1, 0] rfl) hw
set_option maxRecDepth 100000 in
set_option maxHeartbeats 4000000 in
theorem u_X9_beBoth_103 {p : Program} {e : Env} {s : State} {m : MethodId} {args : Array Value} {below : List Frame} {meth : Method} {c : Code} {base : Nat} {D : va_G} {cA : Nat → ClassId} {n : Nat} {l : Launch} {th : Int} {p1 : Int} {p2 : Int} {Q : ml_St → Prop} (X : ml_X p s m c meth args D cA cX9_beBoth 6 RX9 none) (hn : 214 ≤ n) (hp_th : ml_at n th (19, 8)) (hp_p1 : ml_at n p1 (19, 8)) (hp_p2 : ml_at n p2 (19, 8)) (σ : ml_St) (x3 : Int) (h_x3 : I32 x3) (ls : Array Slot) (hl : lv_has ls 6 [(0, .ref (base + (th : Int).toNat)), (1, .ref (base + (p1 : Int).toNat)), (2, .ref (base + (p2 : Int).toNat)), (3, .int (Int32.ofInt x3))]) (hw : f_X9_beBoth_u103 Q th p1 p2 σ x3) : ml_V p l e rm_X9_beBoth s m args below meth c (MQ below (ml_Qv base D cA n Q) args s 0 0 (ml_A base)) base D cA 0 0 n n σ (F0 m 103 ls [.ref (base + (th : Int).toNat)]) := by
  unfold f_X9_beBoth_u103 at hw
  refine ml_iconst (pc := 103) X dX9_beBoth_103 ?_
  refine ml_goto (pc := 104) (tgt := 108) X dX9_beBoth_104 (by decide) ?_
  exact u_X9_beBoth_108 X hn hp_th hp_p1 hp_p2 σ x3 1 h_x3 ⟨by decide, by decide⟩ _ (lv_sub hl [0, 1, 2, 3] rfl) hw
set_option maxRecDepth 100000 in
set_option maxHeartbeats 4000000 in
theorem u_X9_beBoth_85 {p : Program} {e : Env} {s : State} {m : MethodId} {args : Array Value} {below : List Frame} {meth : Method} {c : Code} {base : Nat} {D : va_G} {cA : Nat → ClassId} {n : Nat} {l : Launch} {th : Int} {p1 : Int} {p2 : Int} {Q : ml_St → Prop} (X : ml_X p s m c meth args D cA cX9_beBoth 6 RX9 none) (hn : 214 ≤ n) (hp_th : ml_at n th (19, 8)) (hp_p1 : ml_at n p1 (19, 8)) (hp_p2 : ml_at n p2 (19, 8)) (σ : ml_St) (x3 : Int) (s1 : Int) (h_x3 : I32 x3) (h_s1 : ml_B s1) (ls : Array Slot) (hl : lv_has ls 6 [(0, .ref (base + (th : Int).toNat)), (1, .ref (base + (p1 : Int).toNat)), (2, .ref (base + (p2 : Int).toNat)), (3, .int (Int32.ofInt x3))]) (hw : f_X9_beBoth_u85 Q th p1 p2 σ x3 s1) : ml_V p l e rm_X9_beBoth s m args below meth c (MQ below (ml_Qv base D cA n Q) args s 0 0 (ml_A base)) base D cA 0 0 n n σ (F0 m 85 ls [.int (Int32.ofInt s1), .ref (base + (th : Int).toNat)]) := by
  unfold f_X9_beBoth_u85 at hw
  refine pf_X9_32 (pc := 85) X hp_th h_s1 dX9_beBoth_85 (fun σ1 g1 => ?_)
  have hw := hw σ1 g1
  refine ml_aload_n (pc := 88) X hl 0 rfl rfl dX9_beBoth_88 ?_
  refine ml_aload_n (pc := 89) X hl 1 rfl rfl dX9_beBoth_89 ?_
  refine gf_X9_36 (pc := 90) X hp_p1 dX9_beBoth_90 (fun r2 => ?_)
  have hw := hw r2
  refine ml_if_ne (pc := 93) (tgt := 103) X r2.i dX9_beBoth_93 (by decide) (fun c3 => ?_) (fun c3 => ?_)
  · have hw := hw.1 c3
    exact u_X9_beBoth_103 X hn hp_th hp_p1 hp_p2 σ1 x3 h_x3 _ (lv_sub hl [0, 1, 2, 3] rfl) hw
  · have hw := hw.2 c3
    refine ml_aload_n (pc := 96) X hl 2 rfl rfl dX9_beBoth_96 ?_
    refine gf_X9_36 (pc := 97) X hp_p2 dX9_beBoth_97 (fun r4 => ?_)
    have hw := hw r4
    refine ml_if_eq (pc := 100) (tgt := 107) X r4.i dX9_beBoth_100 (by decide) (fun c5 => ?_) (fun c5 => ?_)
    · have hw := hw.1 c5
      refine ml_iconst (pc := 107) X dX9_beBoth_107 ?_
      exact u_X9_beBoth_108 X hn hp_th hp_p1 hp_p2 σ1 x3 0 h_x3 ⟨by decide, by decide⟩ _ (lv_sub hl [0, 1, 2, 3] rfl) hw
    · have hw := hw.2 c5
      exact u_X9_beBoth_103 X hn hp_th hp_p1 hp_p2 σ1 x3 h_x3 _ (lv_sub hl [0, 1, 2, 3] rfl) hw
set_option maxRecDepth 100000 in
set_option maxHeartbeats 4000000 in
theorem u_X9_beBoth_80 {p : Program} {e : Env} {s : State} {m : MethodId} {args : Array Value} {below : List Frame} {meth : Method} {c : Code} {base : Nat} {D : va_G} {cA : Nat → ClassId} {n : Nat} {l : Launch} {th : Int} {p1 : Int} {p2 : Int} {Q : ml_St → Prop} (X : ml_X p s m c meth args D cA cX9_beBoth 6 RX9 none) (hn : 214 ≤ n) (hp_th : ml_at n th (19, 8)) (hp_p1 : ml_at n p1 (19, 8)) (hp_p2 : ml_at n p2 (19, 8)) (σ : ml_St) (x3 : Int) (h_x3 : I32 x3) (ls : Array Slot) (hl : lv_has ls 6 [(0, .ref (base + (th : Int).toNat)), (1, .ref (base + (p1 : Int).toNat)), (2, .ref (base + (p2 : Int).toNat)), (3, .int (Int32.ofInt x3))]) (hw : f_X9_beBoth_u80 Q th p1 p2 σ x3) : ml_V p l e rm_X9_beBoth s m args below meth c (MQ below (ml_Qv base D cA n Q) args s 0 0 (ml_A base)) base D cA 0 0 n n σ (F0 m 80 ls [.ref (base + (th : Int).toNat)]) := by
  unfold f_X9_beBoth_u80 at hw
  refine ml_iconst (pc := 80) X dX9_beBoth_80 ?_
  refine ml_goto (pc := 81) (tgt := 85) X dX9_beBoth_81 (by decide) ?_
  exact u_X9_beBoth_85 X hn hp_th hp_p1 hp_p2 σ x3 1 h_x3 ⟨by decide, by decide⟩ _ (lv_sub hl [0, 1, 2, 3] rfl) hw
set_option maxRecDepth 100000 in
set_option maxHeartbeats 4000000 in
theorem u_X9_beBoth_0 {p : Program} {e : Env} {s : State} {m : MethodId} {args : Array Value} {below : List Frame} {meth : Method} {c : Code} {base : Nat} {D : va_G} {cA : Nat → ClassId} {n : Nat} {l : Launch} {th : Int} {p1 : Int} {p2 : Int} {Q : ml_St → Prop} (X : ml_X p s m c meth args D cA cX9_beBoth 6 RX9 none) (hn : 214 ≤ n) (hp_th : ml_at n th (19, 8)) (hp_p1 : ml_at n p1 (19, 8)) (hp_p2 : ml_at n p2 (19, 8)) (σ : ml_St) (x3 : Int) (h_x3 : I32 x3) (ls : Array Slot) (hl : lv_has ls 6 [(0, .ref (base + (th : Int).toNat)), (1, .ref (base + (p1 : Int).toNat)), (2, .ref (base + (p2 : Int).toNat)), (3, .int (Int32.ofInt x3))]) (hw : f_X9_beBoth_u0 Q th p1 p2 σ x3) : ml_V p l e rm_X9_beBoth s m args below meth c (MQ below (ml_Qv base D cA n Q) args s 0 0 (ml_A base)) base D cA 0 0 n n σ (F0 m 0 ls []) := by
  unfold f_X9_beBoth_u0 at hw
  refine ml_aload_n (pc := 0) X hl 0 rfl rfl dX9_beBoth_0 ?_
  refine ml_aload_n (pc := 1) X hl 1 rfl rfl dX9_beBoth_1 ?_
  refine gf_X9_19 (pc := 2) X hp_p1 dX9_beBoth_2 (fun r1 => ?_)
  have hw := hw r1
  refine ml_aload_n (pc := 5) X hl 2 rfl rfl dX9_beBoth_5 ?_
  refine gf_X9_19 (pc := 6) X hp_p2 dX9_beBoth_6 (fun r2 => ?_)
  have hw := hw r2
  refine ml_laddW (pc := 9) X dX9_beBoth_9 ?_
  refine pf_X9_19 (pc := 10) X hp_th (w64_r _) dX9_beBoth_10 (fun σ4 g4 => ?_)
  have hw := hw σ4 g4
  refine ml_aload_n (pc := 13) X hl 0 rfl rfl dX9_beBoth_13 ?_
  refine ml_aload_n (pc := 14) X hl 1 rfl rfl dX9_beBoth_14 ?_
  refine gf_X9_23 (pc := 15) X hp_p1 dX9_beBoth_15 (fun r5 => ?_)
  have hw := hw r5
  refine ml_aload_n (pc := 18) X hl 2 rfl rfl dX9_beBoth_18 ?_
  refine gf_X9_23 (pc := 19) X hp_p2 dX9_beBoth_19 (fun r6 => ?_)
  have hw := hw r6
  refine ml_mmaxL (pc := 22) X ⟨tw_3_64, tw_3_65, tw_1_14, tw_3_66⟩ r5 r6 ⟨Nat.zero_le _, Nat.zero_le _⟩ hl (Nat.le_of_ble_eq_true rfl) ⟨by decide, by decide⟩ dX9_beBoth_22 ?_
  refine pf_X9_23 (pc := 25) X hp_th (ml_max_rL r5 r6) dX9_beBoth_25 (fun σ7 g7 => ?_)
  have hw := hw σ7 g7
  refine ml_aload_n (pc := 28) X hl 0 rfl rfl dX9_beBoth_28 ?_
  refine ml_aload_n (pc := 29) X hl 1 rfl rfl dX9_beBoth_29 ?_
  refine gf_X9_26 (pc := 30) X hp_p1 dX9_beBoth_30 (fun r8 => ?_)
  have hw := hw r8
  refine ml_aload_n (pc := 33) X hl 2 rfl rfl dX9_beBoth_33 ?_
  refine gf_X9_26 (pc := 34) X hp_p2 dX9_beBoth_34 (fun r9 => ?_)
  have hw := hw r9
  refine ml_laddW (pc := 37) X dX9_beBoth_37 ?_
  refine pf_X9_26 (pc := 38) X hp_th (w64_r _) dX9_beBoth_38 (fun σ11 g11 => ?_)
  have hw := hw σ11 g11
  refine ml_aload_n (pc := 41) X hl 0 rfl rfl dX9_beBoth_41 ?_
  refine ml_aload_n (pc := 42) X hl 1 rfl rfl dX9_beBoth_42 ?_
  refine gf_X9_29 (pc := 43) X hp_p1 dX9_beBoth_43 (fun r12 => ?_)
  have hw := hw r12
  refine ml_aload_n (pc := 46) X hl 2 rfl rfl dX9_beBoth_46 ?_
  refine gf_X9_29 (pc := 47) X hp_p2 dX9_beBoth_47 (fun r13 => ?_)
  have hw := hw r13
  refine ml_ldc2 (pc := 50) (v := 9000000000000000000) X dX9_beBoth_50 tc_3_67 ?_
  refine ml_aload_n (pc := 53) X hl 1 rfl rfl dX9_beBoth_53 ?_
  refine gf_X9_29 (pc := 54) X hp_p1 dX9_beBoth_54 (fun r14 => ?_)
  have hw := hw r14
  refine ml_lsubW (pc := 57) X dX9_beBoth_57 ?_
  refine ml_mminL (pc := 58) X ⟨tw_3_68, tw_3_69, tw_1_14, tw_3_70⟩ r13 (w64_r _) ⟨Nat.zero_le _, Nat.zero_le _⟩ hl (Nat.le_of_ble_eq_true rfl) ⟨by decide, by decide⟩ dX9_beBoth_58 ?_
  refine ml_laddW (pc := 61) X dX9_beBoth_61 ?_
  refine pf_X9_29 (pc := 62) X hp_th (w64_r _) dX9_beBoth_62 (fun σ17 g17 => ?_)
  have hw := hw σ17 g17
  refine ml_aload_n (pc := 65) X hl 0 rfl rfl dX9_beBoth_65 ?_
  refine ml_aload_n (pc := 66) X hl 1 rfl rfl dX9_beBoth_66 ?_
  refine gf_X9_32 (pc := 67) X hp_p1 dX9_beBoth_67 (fun r18 => ?_)
  have hw := hw r18
  refine ml_if_ne (pc := 70) (tgt := 80) X r18.i dX9_beBoth_70 (by decide) (fun c19 => ?_) (fun c19 => ?_)
  · have hw := hw.1 c19
    exact u_X9_beBoth_80 X hn hp_th hp_p1 hp_p2 σ17 x3 h_x3 _ (lv_sub hl [0, 1, 2, 3] rfl) hw
  · have hw := hw.2 c19
    refine ml_aload_n (pc := 73) X hl 2 rfl rfl dX9_beBoth_73 ?_
    refine gf_X9_32 (pc := 74) X hp_p2 dX9_beBoth_74 (fun r20 => ?_)
    have hw := hw r20
    refine ml_if_eq (pc := 77) (tgt := 84) X r20.i dX9_beBoth_77 (by decide) (fun c21 => ?_) (fun c21 => ?_)
    · have hw := hw.1 c21
      refine ml_iconst (pc := 84) X dX9_beBoth_84 ?_
      exact u_X9_beBoth_85 X hn hp_th hp_p1 hp_p2 σ17 x3 0 h_x3 ⟨by decide, by decide⟩ _ (lv_sub hl [0, 1, 2, 3] rfl) hw
    · have hw := hw.2 c21
      exact u_X9_beBoth_80 X hn hp_th hp_p1 hp_p2 σ17 x3 h_x3 _ (lv_sub hl [0, 1, 2, 3] rfl) hw
set_option maxRecDepth 100000 in
theorem c_X9_beBoth (l : Launch) (base : Nat) (D : va_G) (cA : Nat → ClassId) (n : Nat) (hn : 214 ≤ n) (σ : ml_St) (th : Int) (p1 : Int) (p2 : Int) (hp_th : ml_at n th (19, 8)) (hp_p1 : ml_at n p1 (19, 8)) (hp_p2 : ml_at n p2 (19, 8)) (x3 : Int) (h_x3 : I32 x3) (Q : ml_St → Prop) (hw : f_X9_beBoth σ th p1 p2 x3 Q) : Met l yX9_beBoth (Cond.code yX9_beBoth cX9_beBoth 6 none :: ml_T) rm_X9_beBoth (va_Pc [.ref (base + (th : Int).toNat), .ref (base + (p1 : Int).toNat), .ref (base + (p2 : Int).toNat), .int (Int32.ofInt x3)] (ml_U base D cA n σ)) (ml_Qv base D cA n Q) 0 0 (ml_A base) := by
  refine Met.ofW (cc := cX9_beBoth) (maxL := 6) (ret := none) (by decide) rfl ?_
  intro p e s m args below meth c s₁ B hml hv
  obtain ⟨rfl, hP, hK, hok, hro⟩ := hv
  have X : ml_X p s m c meth _ D cA cX9_beBoth 6 RX9 none := ⟨B.exec, B.bytes, hml, findClass_of_methodNamed B.named, fun w hw => atoms_spec (ws := Cond.code yX9_beBoth cX9_beBoth 6 none :: ml_T) B.pre w (List.mem_cons_of_mem _ hw), hK, B.notSynchronized, B.returns⟩
  have hl := lv_entry [.ref (base + (th : Int).toNat), .ref (base + (p1 : Int).toNat), .ref (base + (p2 : Int).toNat), .int (Int32.ofInt x3)] (n := 6) (Nat.le_of_ble_eq_true rfl)
  rw [lg_entry_eq]
  generalize (lg_sl [.ref (base + (th : Int).toNat), .ref (base + (p1 : Int).toNat), .ref (base + (p2 : Int).toNat), .int (Int32.ofInt x3)] ++ List.replicate (6 - (lg_sl [.ref (base + (th : Int).toNat), .ref (base + (p1 : Int).toNat), .ref (base + (p2 : Int).toNat), .int (Int32.ofInt x3)]).length) Slot.unset).toArray = ls at hl ⊢
  have hl : lv_has ls 6 [(0, .ref (base + (th : Int).toNat)), (1, .ref (base + (p1 : Int).toNat)), (2, .ref (base + (p2 : Int).toNat)), (3, .int (Int32.ofInt x3))] := hl
  unfold f_X9_beBoth at hw
  exact u_X9_beBoth_0 X hn hp_th hp_p1 hp_p2 σ x3 h_x3 _ (lv_sub hl [0, 1, 2, 3] rfl) hw s.heap [] hP va_S.rf hok hro
theorem dX9_beLike_0 : decode cX9_beLike 0 = .ok (.aload_n 1, 1) := by decide +kernel
theorem dX9_beLike_1 : decode cX9_beLike 1 = .ok (.getfield 9, 3) := by decide +kernel
theorem dX9_beLike_4 : decode cX9_beLike 4 = .ok (.iconst 0, 1) := by decide +kernel
theorem dX9_beLike_5 : decode cX9_beLike 5 = .ok (.aload_n 0, 1) := by decide +kernel
theorem dX9_beLike_6 : decode cX9_beLike 6 = .ok (.getfield 9, 3) := by decide +kernel
theorem dX9_beLike_9 : decode cX9_beLike 9 = .ok (.iconst 0, 1) := by decide +kernel
theorem dX9_beLike_10 : decode cX9_beLike 10 = .ok (.bipush 10, 2) := by decide +kernel
theorem dX9_beLike_12 : decode cX9_beLike 12 = .ok (.invokestatic 49, 3) := by decide +kernel
theorem dX9_beLike_15 : decode cX9_beLike 15 = .ok (.aload_n 1, 1) := by decide +kernel
theorem dX9_beLike_16 : decode cX9_beLike 16 = .ok (.getfield 15, 3) := by decide +kernel
theorem dX9_beLike_19 : decode cX9_beLike 19 = .ok (.iconst 0, 1) := by decide +kernel
theorem dX9_beLike_20 : decode cX9_beLike 20 = .ok (.aload_n 0, 1) := by decide +kernel
theorem dX9_beLike_21 : decode cX9_beLike 21 = .ok (.getfield 15, 3) := by decide +kernel
theorem dX9_beLike_24 : decode cX9_beLike 24 = .ok (.iconst 0, 1) := by decide +kernel
theorem dX9_beLike_25 : decode cX9_beLike 25 = .ok (.bipush 10, 2) := by decide +kernel
theorem dX9_beLike_27 : decode cX9_beLike 27 = .ok (.invokestatic 49, 3) := by decide +kernel
theorem dX9_beLike_30 : decode cX9_beLike 30 = .ok (.aload_n 0, 1) := by decide +kernel
theorem dX9_beLike_31 : decode cX9_beLike 31 = .ok (.aload_n 1, 1) := by decide +kernel
theorem dX9_beLike_32 : decode cX9_beLike 32 = .ok (.getfield 19, 3) := by decide +kernel
theorem dX9_beLike_35 : decode cX9_beLike 35 = .ok (.putfield 19, 3) := by decide +kernel
theorem dX9_beLike_38 : decode cX9_beLike 38 = .ok (.aload_n 0, 1) := by decide +kernel
theorem dX9_beLike_39 : decode cX9_beLike 39 = .ok (.aload_n 1, 1) := by decide +kernel
theorem dX9_beLike_40 : decode cX9_beLike 40 = .ok (.getfield 23, 3) := by decide +kernel
theorem dX9_beLike_43 : decode cX9_beLike 43 = .ok (.putfield 23, 3) := by decide +kernel
theorem dX9_beLike_46 : decode cX9_beLike 46 = .ok (.aload_n 0, 1) := by decide +kernel
theorem dX9_beLike_47 : decode cX9_beLike 47 = .ok (.aload_n 1, 1) := by decide +kernel
theorem dX9_beLike_48 : decode cX9_beLike 48 = .ok (.getfield 26, 3) := by decide +kernel
theorem dX9_beLike_51 : decode cX9_beLike 51 = .ok (.putfield 26, 3) := by decide +kernel
theorem dX9_beLike_54 : decode cX9_beLike 54 = .ok (.aload_n 0, 1) := by decide +kernel
theorem dX9_beLike_55 : decode cX9_beLike 55 = .ok (.aload_n 1, 1) := by decide +kernel
theorem dX9_beLike_56 : decode cX9_beLike 56 = .ok (.getfield 29, 3) := by decide +kernel
theorem dX9_beLike_59 : decode cX9_beLike 59 = .ok (.putfield 29, 3) := by decide +kernel
theorem dX9_beLike_62 : decode cX9_beLike 62 = .ok (.aload_n 0, 1) := by decide +kernel
theorem dX9_beLike_63 : decode cX9_beLike 63 = .ok (.aload_n 1, 1) := by decide +kernel
theorem dX9_beLike_64 : decode cX9_beLike 64 = .ok (.getfield 32, 3) := by decide +kernel
theorem dX9_beLike_67 : decode cX9_beLike 67 = .ok (.putfield 32, 3) := by decide +kernel
theorem dX9_beLike_70 : decode cX9_beLike 70 = .ok (.aload_n 0, 1) := by decide +kernel
theorem dX9_beLike_71 : decode cX9_beLike 71 = .ok (.aload_n 1, 1) := by decide +kernel
theorem dX9_beLike_72 : decode cX9_beLike 72 = .ok (.getfield 36, 3) := by decide +kernel
theorem dX9_beLike_75 : decode cX9_beLike 75 = .ok (.putfield 36, 3) := by decide +kernel
theorem dX9_beLike_78 : decode cX9_beLike 78 = .ok (.return_, 1) := by decide +kernel
def f_X9_beLike_u0 (Q : ml_St → Prop) (th : Int) (p1 : Int) (σ : ml_St) : Prop :=
(0 : Int) ≤ 0 ∧ (0 : Int) ≤ 0 ∧ (0 : Int) ≤ 10 ∧ (0 + 10 : Int) ≤ 10 ∧ (0 + 10 : Int) ≤ 10 ∧
∀ σ1, σ1 = ml_cpy σ (p1 + 1) 0 (th + 1) 0 10 →
(0 : Int) ≤ 0 ∧ (0 : Int) ≤ 0 ∧ (0 : Int) ≤ 10 ∧ (0 + 10 : Int) ≤ 10 ∧ (0 + 10 : Int) ≤ 10 ∧
∀ σ2, σ2 = ml_cpy σ1 (p1 + 2) 0 (th + 2) 0 10 →
∀ _ : I64 (σ2 p1 2),
∀ σ4, σ4 = ml_up σ2 th 2 (σ2 p1 2) →
∀ _ : I64 (σ4 p1 3),
∀ σ6, σ6 = ml_up σ4 th 3 (σ4 p1 3) →
∀ _ : I64 (σ6 p1 4),
∀ σ8, σ8 = ml_up σ6 th 4 (σ6 p1 4) →
∀ _ : I64 (σ8 p1 5),
∀ σ10, σ10 = ml_up σ8 th 5 (σ8 p1 5) →
∀ _ : ml_B (σ10 p1 6),
∀ σ12, σ12 = ml_up σ10 th 6 (σ10 p1 6) →
∀ _ : ml_B (σ12 p1 7),
∀ σ14, σ14 = ml_up σ12 th 7 (σ12 p1 7) →
Q σ14
def f_X9_beLike (σ : ml_St) (th : Int) (p1 : Int) (Q : ml_St → Prop) : Prop := f_X9_beLike_u0 Q th p1 σ
def rm_X9_beLike : Room := { frames := 1, cells := 0, slots := 0, locals := 60 }
set_option maxRecDepth 100000 in
set_option maxHeartbeats 4000000 in
theorem u_X9_beLike_0 {p : Program} {e : Env} {s : State} {m : MethodId} {args : Array Value} {below : List Frame} {meth : Method} {c : Code} {base : Nat} {D : va_G} {cA : Nat → ClassId} {n : Nat} {l : Launch} {th : Int} {p1 : Int} {Q : ml_St → Prop} (X : ml_X p s m c meth args D cA cX9_beLike 2 RX9 none) (hn : 214 ≤ n) (hp_th : ml_at n th (19, 8)) (hp_p1 : ml_at n p1 (19, 8)) (σ : ml_St) (ls : Array Slot) (hl : lv_has ls 2 [(0, .ref (base + (th : Int).toNat)), (1, .ref (base + (p1 : Int).toNat))]) (hw : f_X9_beLike_u0 Q th p1 σ) : ml_V p l e rm_X9_beLike s m args below meth c (MQ below (ml_Qv base D cA n Q) args s 0 0 (ml_A base)) base D cA 0 0 n n σ (F0 m 0 ls []) := by
  unfold f_X9_beLike_u0 at hw
  refine ml_aload_n (pc := 0) X hl 1 rfl rfl dX9_beLike_0 ?_
  refine gf_X9_9 (pc := 1) X hp_p1 dX9_beLike_1 ?_
  refine ml_iconst (pc := 4) X dX9_beLike_4 ?_
  refine ml_aload_n (pc := 5) X hl 0 rfl rfl dX9_beLike_5 ?_
  refine gf_X9_9 (pc := 6) X hp_th dX9_beLike_6 ?_
  refine ml_iconst (pc := 9) X dX9_beLike_9 ?_
  refine ml_bipush (pc := 10) X dX9_beLike_10 (by decide) ?_
  obtain ⟨a1, b1, c1, f1, h1, hw⟩ := hw
  refine ml_cpi (pc := 12) (n0 := 10) (n1 := 10) X ⟨tw_3_41, tw_3_43, tw_3_42, tw_1_15⟩ (ml_r19_1 hn hp_p1) (ml_r19_1 hn hp_th) ⟨by decide, by decide⟩ ⟨by decide, by decide⟩ ⟨by decide, by decide⟩ a1 b1 c1 f1 h1 hl (Nat.le_of_ble_eq_true rfl) ⟨by decide, by decide⟩ dX9_beLike_12 (fun σ1 g1 => ?_)
  have hw := hw σ1 g1
  refine ml_aload_n (pc := 15) X hl 1 rfl rfl dX9_beLike_15 ?_
  refine gf_X9_15 (pc := 16) X hp_p1 dX9_beLike_16 ?_
  refine ml_iconst (pc := 19) X dX9_beLike_19 ?_
  refine ml_aload_n (pc := 20) X hl 0 rfl rfl dX9_beLike_20 ?_
  refine gf_X9_15 (pc := 21) X hp_th dX9_beLike_21 ?_
  refine ml_iconst (pc := 24) X dX9_beLike_24 ?_
  refine ml_bipush (pc := 25) X dX9_beLike_25 (by decide) ?_
  obtain ⟨a2, b2, c2, f2, h2, hw⟩ := hw
  refine ml_cpl (pc := 27) (n0 := 10) (n1 := 10) X ⟨tw_3_41, tw_3_43, tw_3_42, tw_1_15⟩ (ml_r19_2 hn hp_p1) (ml_r19_2 hn hp_th) ⟨by decide, by decide⟩ ⟨by decide, by decide⟩ ⟨by decide, by decide⟩ a2 b2 c2 f2 h2 hl (Nat.le_of_ble_eq_true rfl) ⟨by decide, by decide⟩ dX9_beLike_27 (fun σ2 g2 => ?_)
  have hw := hw σ2 g2
  refine ml_aload_n (pc := 30) X hl 0 rfl rfl dX9_beLike_30 ?_
  refine ml_aload_n (pc := 31) X hl 1 rfl rfl dX9_beLike_31 ?_
  refine gf_X9_19 (pc := 32) X hp_p1 dX9_beLike_32 (fun r3 => ?_)
  have hw := hw r3
  refine pf_X9_19 (pc := 35) X hp_th r3 dX9_beLike_35 (fun σ4 g4 => ?_)
  have hw := hw σ4 g4
  refine ml_aload_n (pc := 38) X hl 0 rfl rfl dX9_beLike_38 ?_
  refine ml_aload_n (pc := 39) X hl 1 rfl rfl dX9_beLike_39 ?_
  refine gf_X9_23 (pc := 40) X hp_p1 dX9_beLike_40 (fun r5 => ?_)
  have hw := hw r5
  refine pf_X9_23 (pc := 43) X hp_th r5 dX9_beLike_43 (fun σ6 g6 => ?_)
  have hw := hw σ6 g6
  refine ml_aload_n (pc := 46) X hl 0 rfl rfl dX9_beLike_46 ?_
  refine ml_aload_n (pc := 47) X hl 1 rfl rfl dX9_beLike_47 ?_
  refine gf_X9_26 (pc := 48) X hp_p1 dX9_beLike_48 (fun r7 => ?_)
  have hw := hw r7
  refine pf_X9_26 (pc := 51) X hp_th r7 dX9_beLike_51 (fun σ8 g8 => ?_)
  have hw := hw σ8 g8
  refine ml_aload_n (pc := 54) X hl 0 rfl rfl dX9_beLike_54 ?_
  refine ml_aload_n (pc := 55) X hl 1 rfl rfl dX9_beLike_55 ?_
  refine gf_X9_29 (pc := 56) X hp_p1 dX9_beLike_56 (fun r9 => ?_)
  have hw := hw r9
  refine pf_X9_29 (pc := 59) X hp_th r9 dX9_beLike_59 (fun σ10 g10 => ?_)
  have hw := hw σ10 g10
  refine ml_aload_n (pc := 62) X hl 0 rfl rfl dX9_beLike_62 ?_
  refine ml_aload_n (pc := 63) X hl 1 rfl rfl dX9_beLike_63 ?_
  refine gf_X9_32 (pc := 64) X hp_p1 dX9_beLike_64 (fun r11 => ?_)
  have hw := hw r11
  refine pf_X9_32 (pc := 67) X hp_th r11 dX9_beLike_67 (fun σ12 g12 => ?_)
  have hw := hw σ12 g12
  refine ml_aload_n (pc := 70) X hl 0 rfl rfl dX9_beLike_70 ?_
  refine ml_aload_n (pc := 71) X hl 1 rfl rfl dX9_beLike_71 ?_
  refine gf_X9_36 (pc := 72) X hp_p1 dX9_beLike_72 (fun r13 => ?_)
  have hw := hw r13
  refine pf_X9_36 (pc := 75) X hp_th r13 dX9_beLike_75 (fun σ14 g14 => ?_)
  have hw := hw σ14 g14
  exact ml_vret (pc := 78) X hw dX9_beLike_78
set_option maxRecDepth 100000 in
theorem c_X9_beLike (l : Launch) (base : Nat) (D : va_G) (cA : Nat → ClassId) (n : Nat) (hn : 214 ≤ n) (σ : ml_St) (th : Int) (p1 : Int) (hp_th : ml_at n th (19, 8)) (hp_p1 : ml_at n p1 (19, 8)) (Q : ml_St → Prop) (hw : f_X9_beLike σ th p1 Q) : Met l yX9_beLike (Cond.code yX9_beLike cX9_beLike 2 none :: ml_T) rm_X9_beLike (va_Pc [.ref (base + (th : Int).toNat), .ref (base + (p1 : Int).toNat)] (ml_U base D cA n σ)) (ml_Qv base D cA n Q) 0 0 (ml_A base) := by
  refine Met.ofW (cc := cX9_beLike) (maxL := 2) (ret := none) (by decide) rfl ?_
  intro p e s m args below meth c s₁ B hml hv
  obtain ⟨rfl, hP, hK, hok, hro⟩ := hv
  have X : ml_X p s m c meth _ D cA cX9_beLike 2 RX9 none := ⟨B.exec, B.bytes, hml, findClass_of_methodNamed B.named, fun w hw => atoms_spec (ws := Cond.code yX9_beLike cX9_beLike 2 none :: ml_T) B.pre w (List.mem_cons_of_mem _ hw), hK, B.notSynchronized, B.returns⟩
  have hl := lv_entry [.ref (base + (th : Int).toNat), .ref (base + (p1 : Int).toNat)] (n := 2) (Nat.le_of_ble_eq_true rfl)
  rw [lg_entry_eq]
  generalize (lg_sl [.ref (base + (th : Int).toNat), .ref (base + (p1 : Int).toNat)] ++ List.replicate (2 - (lg_sl [.ref (base + (th : Int).toNat), .ref (base + (p1 : Int).toNat)]).length) Slot.unset).toArray = ls at hl ⊢
  have hl : lv_has ls 2 [(0, .ref (base + (th : Int).toNat)), (1, .ref (base + (p1 : Int).toNat))] := hl
  unfold f_X9_beLike at hw
  exact u_X9_beLike_0 X hn hp_th hp_p1 σ  _ (lv_sub hl [0, 1] rfl) hw s.heap [] hP va_S.rf hok hro
theorem dX9_beStraight_0 : decode cX9_beStraight 0 = .ok (.iconst 0, 1) := by decide +kernel
theorem dX9_beStraight_1 : decode cX9_beStraight 1 = .ok (.istore_n 2, 1) := by decide +kernel
theorem dX9_beStraight_2 : decode cX9_beStraight 2 = .ok (.iload_n 2, 1) := by decide +kernel
theorem dX9_beStraight_3 : decode cX9_beStraight 3 = .ok (.iconst 2, 1) := by decide +kernel
theorem dX9_beStraight_4 : decode cX9_beStraight 4 = .ok (.iload_n 1, 1) := by decide +kernel
theorem dX9_beStraight_5 : decode cX9_beStraight 5 = .ok (.imul, 1) := by decide +kernel
theorem dX9_beStraight_6 : decode cX9_beStraight 6 = .ok (.if_icmp .ge 36, 3) := by decide +kernel
theorem dX9_beStraight_9 : decode cX9_beStraight 9 = .ok (.aload_n 0, 1) := by decide +kernel
theorem dX9_beStraight_10 : decode cX9_beStraight 10 = .ok (.getfield 9, 3) := by decide +kernel
theorem dX9_beStraight_13 : decode cX9_beStraight 13 = .ok (.iload_n 2, 1) := by decide +kernel
theorem dX9_beStraight_14 : decode cX9_beStraight 14 = .ok (.iload_n 2, 1) := by decide +kernel
theorem dX9_beStraight_15 : decode cX9_beStraight 15 = .ok (.iload_n 1, 1) := by decide +kernel
theorem dX9_beStraight_16 : decode cX9_beStraight 16 = .ok (.if_icmp .ge 9, 3) := by decide +kernel
theorem dX9_beStraight_19 : decode cX9_beStraight 19 = .ok (.iload_n 2, 1) := by decide +kernel
theorem dX9_beStraight_20 : decode cX9_beStraight 20 = .ok (.iload_n 1, 1) := by decide +kernel
theorem dX9_beStraight_21 : decode cX9_beStraight 21 = .ok (.iadd, 1) := by decide +kernel
theorem dX9_beStraight_22 : decode cX9_beStraight 22 = .ok (.goto 6, 3) := by decide +kernel
theorem dX9_beStraight_25 : decode cX9_beStraight 25 = .ok (.iload_n 2, 1) := by decide +kernel
theorem dX9_beStraight_26 : decode cX9_beStraight 26 = .ok (.iload_n 1, 1) := by decide +kernel
theorem dX9_beStraight_27 : decode cX9_beStraight 27 = .ok (.isub, 1) := by decide +kernel
theorem dX9_beStraight_28 : decode cX9_beStraight 28 = .ok (.iastore, 1) := by decide +kernel
theorem dX9_beStraight_29 : decode cX9_beStraight 29 = .ok (.aload_n 0, 1) := by decide +kernel
theorem dX9_beStraight_30 : decode cX9_beStraight 30 = .ok (.getfield 15, 3) := by decide +kernel
theorem dX9_beStraight_33 : decode cX9_beStraight 33 = .ok (.iload_n 2, 1) := by decide +kernel
theorem dX9_beStraight_34 : decode cX9_beStraight 34 = .ok (.lconst 0, 1) := by decide +kernel
theorem dX9_beStraight_35 : decode cX9_beStraight 35 = .ok (.lastore, 1) := by decide +kernel
theorem dX9_beStraight_36 : decode cX9_beStraight 36 = .ok (.iinc 2 1, 3) := by decide +kernel
theorem dX9_beStraight_39 : decode cX9_beStraight 39 = .ok (.goto (-37), 3) := by decide +kernel
theorem dX9_beStraight_42 : decode cX9_beStraight 42 = .ok (.aload_n 0, 1) := by decide +kernel
theorem dX9_beStraight_43 : decode cX9_beStraight 43 = .ok (.lconst 0, 1) := by decide +kernel
theorem dX9_beStraight_44 : decode cX9_beStraight 44 = .ok (.putfield 19, 3) := by decide +kernel
theorem dX9_beStraight_47 : decode cX9_beStraight 47 = .ok (.aload_n 0, 1) := by decide +kernel
theorem dX9_beStraight_48 : decode cX9_beStraight 48 = .ok (.lconst 0, 1) := by decide +kernel
theorem dX9_beStraight_49 : decode cX9_beStraight 49 = .ok (.putfield 23, 3) := by decide +kernel
theorem dX9_beStraight_52 : decode cX9_beStraight 52 = .ok (.aload_n 0, 1) := by decide +kernel
theorem dX9_beStraight_53 : decode cX9_beStraight 53 = .ok (.lconst 0, 1) := by decide +kernel
theorem dX9_beStraight_54 : decode cX9_beStraight 54 = .ok (.putfield 26, 3) := by decide +kernel
theorem dX9_beStraight_57 : decode cX9_beStraight 57 = .ok (.aload_n 0, 1) := by decide +kernel
theorem dX9_beStraight_58 : decode cX9_beStraight 58 = .ok (.lconst 0, 1) := by decide +kernel
theorem dX9_beStraight_59 : decode cX9_beStraight 59 = .ok (.putfield 29, 3) := by decide +kernel
theorem dX9_beStraight_62 : decode cX9_beStraight 62 = .ok (.aload_n 0, 1) := by decide +kernel
theorem dX9_beStraight_63 : decode cX9_beStraight 63 = .ok (.iconst 0, 1) := by decide +kernel
theorem dX9_beStraight_64 : decode cX9_beStraight 64 = .ok (.putfield 32, 3) := by decide +kernel
theorem dX9_beStraight_67 : decode cX9_beStraight 67 = .ok (.aload_n 0, 1) := by decide +kernel
theorem dX9_beStraight_68 : decode cX9_beStraight 68 = .ok (.iconst 0, 1) := by decide +kernel
theorem dX9_beStraight_69 : decode cX9_beStraight 69 = .ok (.putfield 36, 3) := by decide +kernel
theorem dX9_beStraight_72 : decode cX9_beStraight 72 = .ok (.return_, 1) := by decide +kernel
def f_X9_beStraight_u28 (Q : ml_St → Prop) (K2 : ml_St → Int → Int → Prop) (th : Int) (σ : ml_St) (x1 : Int) (x2 : Int) (s1 : Int) (s2 : Int) : Prop :=
(0 : Int) ≤ s1 ∧ (s1 : Int) < 10 ∧
∀ σ1, σ1 = ml_up σ (th + 1) s1 s2 →
(0 : Int) ≤ x2 ∧ (x2 : Int) < 10 ∧
∀ σ2, σ2 = ml_up σ1 (th + 2) x2 0 →
I32 (x2 + 1) ∧
∀ y3 : Int, y3 = x2 + 1 →
K2 σ2 x1 y3
def f_X9_beStraight_u2 (Q : ml_St → Prop) (K42 : ml_St → Prop) (th : Int) : Nat → ml_St → Int → Int → Prop
| 0, _, _, _ => False
| N + 1, σ, x1, x2 =>
I32 (2 * x1) ∧
((2 * x1) ≤ x2 →
K42 σ) ∧
(¬ ((2 * x1) ≤ x2) →
(x1 ≤ x2 →
I32 (x2 - x1) ∧
f_X9_beStraight_u28 Q (f_X9_beStraight_u2 Q K42 th N) th σ x1 x2 x2 (x2 - x1)) ∧
(¬ (x1 ≤ x2) →
I32 (x2 + x1) ∧
f_X9_beStraight_u28 Q (f_X9_beStraight_u2 Q K42 th N) th σ x1 x2 x2 (x2 + x1)))
def f_X9_beStraight_u42 (Q : ml_St → Prop) (th : Int) (σ : ml_St) : Prop :=
∀ σ1, σ1 = ml_up σ th 2 0 →
∀ σ2, σ2 = ml_up σ1 th 3 0 →
∀ σ3, σ3 = ml_up σ2 th 4 0 →
∀ σ4, σ4 = ml_up σ3 th 5 0 →
∀ σ5, σ5 = ml_up σ4 th 6 0 →
∀ σ6, σ6 = ml_up σ5 th 7 0 →
Q σ6
def f_X9_beStraight_u0 (Q : ml_St → Prop) (th : Int) (σ : ml_St) (x1 : Int) : Prop :=
∃ N1, f_X9_beStraight_u2 Q (f_X9_beStraight_u42 Q th) th N1 σ x1 0
def f_X9_beStraight (σ : ml_St) (th : Int) (x1 : Int) (Q : ml_St → Prop) : Prop := f_X9_beStraight_u0 Q th σ x1
def rm_X9_beStraight : Room := { frames := 0, cells := 0, slots := 0, locals := 0 }
set_option maxRecDepth 100000 in
set_option maxHeartbeats 4000000 in
theorem u_X9_beStraight_28 {p : Program} {e : Env} {s : State} {m : MethodId} {args : Array Value} {below : List Frame} {meth : Method} {c : Code} {base : Nat} {D : va_G} {cA : Nat → ClassId} {n : Nat} {l : Launch} {th : Int} {Q : ml_St → Prop} {K2 : ml_St → Int → Int → Prop} (X : ml_X p s m c meth args D cA cX9_beStraight 3 RX9 none) (hn : 214 ≤ n) (hp_th : ml_at n th (19, 8)) (hK2 : ∀ (σ : ml_St) (x1 : Int) (x2 : Int) (h_x1 : I32 x1) (h_x2 : I32 x2) (ls : Array Slot), lv_has ls 3 [(0, .ref (base + (th : Int).toNat)), (1, .int (Int32.ofInt x1)), (2, .int (Int32.ofInt x2))] → K2 σ x1 x2 → ml_V p l e rm_X9_beStraight s m args below meth c (MQ below (ml_Qv base D cA n Q) args s 0 0 (ml_A base)) base D cA 0 0 n n σ (F0 m 2 ls [])) (σ : ml_St) (x1 : Int) (x2 : Int) (s1 : Int) (s2 : Int) (h_x1 : I32 x1) (h_x2 : I32 x2) (h_s1 : I32 s1) (h_s2 : I32 s2) (ls : Array Slot) (hl : lv_has ls 3 [(0, .ref (base + (th : Int).toNat)), (1, .int (Int32.ofInt x1)), (2, .int (Int32.ofInt x2))]) (hw : f_X9_beStraight_u28 Q K2 th σ x1 x2 s1 s2) : ml_V p l e rm_X9_beStraight s m args below meth c (MQ below (ml_Qv base D cA n Q) args s 0 0 (ml_A base)) base D cA 0 0 n n σ (F0 m 28 ls [.int (Int32.ofInt s2), .int (Int32.ofInt s1), .ref (base + ((th + 1) : Int).toNat)]) := by
  unfold f_X9_beStraight_u28 at hw
  obtain ⟨a1, b1, hw⟩ := hw
  refine ml_iast (pc := 28) (N := 10) X (ml_r19_1 hn hp_th) a1 b1 h_s2 dX9_beStraight_28 (fun σ1 g1 => ?_)
  have hw := hw σ1 g1
  refine ml_aload_n (pc := 29) X hl 0 rfl rfl dX9_beStraight_29 ?_
  refine gf_X9_15 (pc := 30) X hp_th dX9_beStraight_30 ?_
  refine ml_iload_n (pc := 33) X hl 2 rfl rfl dX9_beStraight_33 ?_
  refine ml_lconst0 (pc := 34) X dX9_beStraight_34 ?_
  obtain ⟨a2, b2, hw⟩ := hw
  refine ml_last (pc := 35) (N := 10) X (ml_r19_2 hn hp_th) a2 b2 ⟨by decide, by decide⟩ dX9_beStraight_35 (fun σ2 g2 => ?_)
  have hw := hw σ2 g2
  obtain ⟨v3, hw⟩ := hw
  obtain ⟨y3, e3⟩ : ∃ y : Int, y = x2 + 1 := ⟨_, rfl⟩
  have hw := hw y3 e3
  rw [← e3] at v3
  refine ml_iinc (pc := 36) X e3 hl 2 rfl (by decide) (lst' := [(2, .int (Int32.ofInt y3)), (0, .ref (base + (th : Int).toNat)), (1, .int (Int32.ofInt x1))]) rfl dX9_beStraight_36 (fun ls hl => ?_)
  refine ml_goto (pc := 39) (tgt := 2) X dX9_beStraight_39 (by decide) ?_
  exact hK2 σ2 x1 y3 h_x1 v3 _ (lv_sub hl [1, 2, 0] rfl) hw
set_option maxRecDepth 100000 in
set_option maxHeartbeats 4000000 in
theorem u_X9_beStraight_2 {p : Program} {e : Env} {s : State} {m : MethodId} {args : Array Value} {below : List Frame} {meth : Method} {c : Code} {base : Nat} {D : va_G} {cA : Nat → ClassId} {n : Nat} {l : Launch} {th : Int} {Q : ml_St → Prop} {K42 : ml_St → Prop} (X : ml_X p s m c meth args D cA cX9_beStraight 3 RX9 none) (hn : 214 ≤ n) (hp_th : ml_at n th (19, 8)) (hK42 : ∀ (σ : ml_St) (ls : Array Slot), lv_has ls 3 [(0, .ref (base + (th : Int).toNat))] → K42 σ → ml_V p l e rm_X9_beStraight s m args below meth c (MQ below (ml_Qv base D cA n Q) args s 0 0 (ml_A base)) base D cA 0 0 n n σ (F0 m 42 ls [])) : ∀ (N : Nat) (σ : ml_St) (x1 : Int) (x2 : Int) (h_x1 : I32 x1) (h_x2 : I32 x2) (ls : Array Slot), lv_has ls 3 [(0, .ref (base + (th : Int).toNat)), (1, .int (Int32.ofInt x1)), (2, .int (Int32.ofInt x2))] → f_X9_beStraight_u2 Q K42 th N σ x1 x2 → ml_V p l e rm_X9_beStraight s m args below meth c (MQ below (ml_Qv base D cA n Q) args s 0 0 (ml_A base)) base D cA 0 0 n n σ (F0 m 2 ls []) := by
  intro N
  induction N with
  | zero => intro σ x1 x2 h_x1 h_x2 ls hl hw; exact False.elim hw
  | succ N ih =>
    intro σ x1 x2 h_x1 h_x2 ls hl hw
    unfold f_X9_beStraight_u2 at hw
    refine ml_iload_n (pc := 2) X hl 2 rfl rfl dX9_beStraight_2 ?_
    refine ml_iconst (pc := 3) X dX9_beStraight_3 ?_
    refine ml_iload_n (pc := 4) X hl 1 rfl rfl dX9_beStraight_4 ?_
    obtain ⟨v1, hw⟩ := hw
    refine ml_imul (pc := 5) X dX9_beStraight_5 ?_
    refine ml_icmp_ge (pc := 6) (tgt := 42) X h_x2 v1 dX9_beStraight_6 (by decide) (fun c2 => ?_) (fun c2 => ?_)
    · have hw := hw.1 c2
      exact hK42 σ   _ (lv_sub hl [0] rfl) hw
    · have hw := hw.2 c2
      refine ml_aload_n (pc := 9) X hl 0 rfl rfl dX9_beStraight_9 ?_
      refine gf_X9_9 (pc := 10) X hp_th dX9_beStraight_10 ?_
      refine ml_iload_n (pc := 13) X hl 2 rfl rfl dX9_beStraight_13 ?_
      refine ml_iload_n (pc := 14) X hl 2 rfl rfl dX9_beStraight_14 ?_
      refine ml_iload_n (pc := 15) X hl 1 rfl rfl dX9_beStraight_15 ?_
      refine ml_icmp_ge (pc := 16) (tgt := 25) X h_x2 h_x1 dX9_beStraight_16 (by decide) (fun c3 => ?_) (fun c3 => ?_)
      · have hw := hw.1 c3
        refine ml_iload_n (pc := 25) X hl 2 rfl rfl dX9_beStraight_25 ?_
        refine ml_iload_n (pc := 26) X hl 1 rfl rfl dX9_beStraight_26 ?_
        obtain ⟨v4, hw⟩ := hw
        refine ml_isub (pc := 27) X dX9_beStraight_27 ?_
        exact u_X9_beStraight_28 X hn hp_th ih σ x1 x2 x2 (x2 - x1) h_x1 h_x2 h_x2 v4 _ (lv_sub hl [0, 1, 2] rfl) hw
      · have hw := hw.2 c3
        refine ml_iload_n (pc := 19) X hl 2 rfl rfl dX9_beStraight_19 ?_
        refine ml_iload_n (pc := 20) X hl 1 rfl rfl dX9_beStraight_20 ?_
        obtain ⟨v5, hw⟩ := hw
        refine ml_iadd (pc := 21) X dX9_beStraight_21 ?_
        refine ml_goto (pc := 22) (tgt := 28) X dX9_beStraight_22 (by decide) ?_
        exact u_X9_beStraight_28 X hn hp_th ih σ x1 x2 x2 (x2 + x1) h_x1 h_x2 h_x2 v5 _ (lv_sub hl [0, 1, 2] rfl) hw
set_option maxRecDepth 100000 in
set_option maxHeartbeats 4000000 in
theorem u_X9_beStraight_42 {p : Program} {e : Env} {s : State} {m : MethodId} {args : Array Value} {below : List Frame} {meth : Method} {c : Code} {base : Nat} {D : va_G} {cA : Nat → ClassId} {n : Nat} {l : Launch} {th : Int} {Q : ml_St → Prop} (X : ml_X p s m c meth args D cA cX9_beStraight 3 RX9 none) (hn : 214 ≤ n) (hp_th : ml_at n th (19, 8)) (σ : ml_St) (ls : Array Slot) (hl : lv_has ls 3 [(0, .ref (base + (th : Int).toNat))]) (hw : f_X9_beStraight_u42 Q th σ) : ml_V p l e rm_X9_beStraight s m args below meth c (MQ below (ml_Qv base D cA n Q) args s 0 0 (ml_A base)) base D cA 0 0 n n σ (F0 m 42 ls []) := by
  unfold f_X9_beStraight_u42 at hw
  refine ml_aload_n (pc := 42) X hl 0 rfl rfl dX9_beStraight_42 ?_
  refine ml_lconst0 (pc := 43) X dX9_beStraight_43 ?_
  refine pf_X9_19 (pc := 44) X hp_th ⟨by decide, by decide⟩ dX9_beStraight_44 (fun σ1 g1 => ?_)
  have hw := hw σ1 g1
  refine ml_aload_n (pc := 47) X hl 0 rfl rfl dX9_beStraight_47 ?_
  refine ml_lconst0 (pc := 48) X dX9_beStraight_48 ?_
  refine pf_X9_23 (pc := 49) X hp_th ⟨by decide, by decide⟩ dX9_beStraight_49 (fun σ2 g2 => ?_)
  have hw := hw σ2 g2
  refine ml_aload_n (pc := 52) X hl 0 rfl rfl dX9_beStraight_52 ?_
  refine ml_lconst0 (pc := 53) X dX9_beStraight_53 ?_
  refine pf_X9_26 (pc := 54) X hp_th ⟨by decide, by decide⟩ dX9_beStraight_54 (fun σ3 g3 => ?_)
  have hw := hw σ3 g3
  refine ml_aload_n (pc := 57) X hl 0 rfl rfl dX9_beStraight_57 ?_
  refine ml_lconst0 (pc := 58) X dX9_beStraight_58 ?_
  refine pf_X9_29 (pc := 59) X hp_th ⟨by decide, by decide⟩ dX9_beStraight_59 (fun σ4 g4 => ?_)
  have hw := hw σ4 g4
  refine ml_aload_n (pc := 62) X hl 0 rfl rfl dX9_beStraight_62 ?_
  refine ml_iconst (pc := 63) X dX9_beStraight_63 ?_
  refine pf_X9_32 (pc := 64) X hp_th ⟨by decide, by decide⟩ dX9_beStraight_64 (fun σ5 g5 => ?_)
  have hw := hw σ5 g5
  refine ml_aload_n (pc := 67) X hl 0 rfl rfl dX9_beStraight_67 ?_
  refine ml_iconst (pc := 68) X dX9_beStraight_68 ?_
  refine pf_X9_36 (pc := 69) X hp_th ⟨by decide, by decide⟩ dX9_beStraight_69 (fun σ6 g6 => ?_)
  have hw := hw σ6 g6
  exact ml_vret (pc := 72) X hw dX9_beStraight_72
set_option maxRecDepth 100000 in
set_option maxHeartbeats 4000000 in
theorem u_X9_beStraight_0 {p : Program} {e : Env} {s : State} {m : MethodId} {args : Array Value} {below : List Frame} {meth : Method} {c : Code} {base : Nat} {D : va_G} {cA : Nat → ClassId} {n : Nat} {l : Launch} {th : Int} {Q : ml_St → Prop} (X : ml_X p s m c meth args D cA cX9_beStraight 3 RX9 none) (hn : 214 ≤ n) (hp_th : ml_at n th (19, 8)) (σ : ml_St) (x1 : Int) (h_x1 : I32 x1) (ls : Array Slot) (hl : lv_has ls 3 [(0, .ref (base + (th : Int).toNat)), (1, .int (Int32.ofInt x1))]) (hw : f_X9_beStraight_u0 Q th σ x1) : ml_V p l e rm_X9_beStraight s m args below meth c (MQ below (ml_Qv base D cA n Q) args s 0 0 (ml_A base)) base D cA 0 0 n n σ (F0 m 0 ls []) := by
  unfold f_X9_beStraight_u0 at hw
  refine ml_iconst (pc := 0) X dX9_beStraight_0 ?_
  refine ml_istore_n (pc := 1) X rfl hl (by decide) (lst' := [(2, .int (Int32.ofInt 0)), (0, .ref (base + (th : Int).toNat)), (1, .int (Int32.ofInt x1))]) rfl dX9_beStraight_1 (fun ls hl => ?_)
  obtain ⟨N0, hw⟩ := hw
  exact u_X9_beStraight_2 X hn hp_th (fun σ   ls hl hw => u_X9_beStraight_42 X hn hp_th σ   ls hl hw) N0 σ x1 0 h_x1 ⟨by decide, by decide⟩ _ (lv_sub hl [1, 2, 0] rfl) hw
set_option maxRecDepth 100000 in
theorem c_X9_beStraight (l : Launch) (base : Nat) (D : va_G) (cA : Nat → ClassId) (n : Nat) (hn : 214 ≤ n) (σ : ml_St) (th : Int) (hp_th : ml_at n th (19, 8)) (x1 : Int) (h_x1 : I32 x1) (Q : ml_St → Prop) (hw : f_X9_beStraight σ th x1 Q) : Met l yX9_beStraight (Cond.code yX9_beStraight cX9_beStraight 3 none :: ml_T) rm_X9_beStraight (va_Pc [.ref (base + (th : Int).toNat), .int (Int32.ofInt x1)] (ml_U base D cA n σ)) (ml_Qv base D cA n Q) 0 0 (ml_A base) := by
  refine Met.ofW (cc := cX9_beStraight) (maxL := 3) (ret := none) (by decide) rfl ?_
  intro p e s m args below meth c s₁ B hml hv
  obtain ⟨rfl, hP, hK, hok, hro⟩ := hv
  have X : ml_X p s m c meth _ D cA cX9_beStraight 3 RX9 none := ⟨B.exec, B.bytes, hml, findClass_of_methodNamed B.named, fun w hw => atoms_spec (ws := Cond.code yX9_beStraight cX9_beStraight 3 none :: ml_T) B.pre w (List.mem_cons_of_mem _ hw), hK, B.notSynchronized, B.returns⟩
  have hl := lv_entry [.ref (base + (th : Int).toNat), .int (Int32.ofInt x1)] (n := 3) (Nat.le_of_ble_eq_true rfl)
  rw [lg_entry_eq]
  generalize (lg_sl [.ref (base + (th : Int).toNat), .int (Int32.ofInt x1)] ++ List.replicate (3 - (lg_sl [.ref (base + (th : Int).toNat), .int (Int32.ofInt x1)]).length) Slot.unset).toArray = ls at hl ⊢
  have hl : lv_has ls 3 [(0, .ref (base + (th : Int).toNat)), (1, .int (Int32.ofInt x1))] := hl
  unfold f_X9_beStraight at hw
  exact u_X9_beStraight_0 X hn hp_th σ x1 h_x1 _ (lv_sub hl [0, 1] rfl) hw s.heap [] hP va_S.rf hok hro
theorem dX4_repeatItem_0 : decode cX4_repeatItem 0 = .ok (.iload_n 1, 1) := by decide +kernel
theorem dX4_repeatItem_1 : decode cX4_repeatItem 1 = .ok (.iconst 1, 1) := by decide +kernel
theorem dX4_repeatItem_2 : decode cX4_repeatItem 2 = .ok (.if_icmp .ne 4, 3) := by decide +kernel
theorem dX4_repeatItem_5 : decode cX4_repeatItem 5 = .ok (.return_, 1) := by decide +kernel
theorem dX4_repeatItem_6 : decode cX4_repeatItem 6 = .ok (.aload_n 0, 1) := by decide +kernel
theorem dX4_repeatItem_7 : decode cX4_repeatItem 7 = .ok (.getfield 33, 3) := by decide +kernel
theorem dX4_repeatItem_10 : decode cX4_repeatItem 10 = .ok (.aload_n 0, 1) := by decide +kernel
theorem dX4_repeatItem_11 : decode cX4_repeatItem 11 = .ok (.getfield 29, 3) := by decide +kernel
theorem dX4_repeatItem_14 : decode cX4_repeatItem 14 = .ok (.invokevirtual 64, 3) := by decide +kernel
theorem dX4_repeatItem_17 : decode cX4_repeatItem 17 = .ok (.aload_n 0, 1) := by decide +kernel
theorem dX4_repeatItem_18 : decode cX4_repeatItem 18 = .ok (.getfield 29, 3) := by decide +kernel
theorem dX4_repeatItem_21 : decode cX4_repeatItem 21 = .ok (.iload_n 2, 1) := by decide +kernel
theorem dX4_repeatItem_22 : decode cX4_repeatItem 22 = .ok (.invokevirtual 42, 3) := by decide +kernel
theorem dX4_repeatItem_25 : decode cX4_repeatItem 25 = .ok (.iload_n 1, 1) := by decide +kernel
theorem dX4_repeatItem_26 : decode cX4_repeatItem 26 = .ok (.istore_n 3, 1) := by decide +kernel
theorem dX4_repeatItem_27 : decode cX4_repeatItem 27 = .ok (.iload_n 3, 1) := by decide +kernel
theorem dX4_repeatItem_28 : decode cX4_repeatItem 28 = .ok (.ifCond .le 70, 3) := by decide +kernel
theorem dX4_repeatItem_31 : decode cX4_repeatItem 31 = .ok (.iload_n 3, 1) := by decide +kernel
theorem dX4_repeatItem_32 : decode cX4_repeatItem 32 = .ok (.iconst 2, 1) := by decide +kernel
theorem dX4_repeatItem_33 : decode cX4_repeatItem 33 = .ok (.irem, 1) := by decide +kernel
theorem dX4_repeatItem_34 : decode cX4_repeatItem 34 = .ok (.ifCond .eq 30, 3) := by decide +kernel
theorem dX4_repeatItem_37 : decode cX4_repeatItem 37 = .ok (.aload_n 0, 1) := by decide +kernel
theorem dX4_repeatItem_38 : decode cX4_repeatItem 38 = .ok (.getfield 36, 3) := by decide +kernel
theorem dX4_repeatItem_41 : decode cX4_repeatItem 41 = .ok (.aload_n 0, 1) := by decide +kernel
theorem dX4_repeatItem_42 : decode cX4_repeatItem 42 = .ok (.getfield 29, 3) := by decide +kernel
theorem dX4_repeatItem_45 : decode cX4_repeatItem 45 = .ok (.aload_n 0, 1) := by decide +kernel
theorem dX4_repeatItem_46 : decode cX4_repeatItem 46 = .ok (.getfield 33, 3) := by decide +kernel
theorem dX4_repeatItem_49 : decode cX4_repeatItem 49 = .ok (.iload_n 2, 1) := by decide +kernel
theorem dX4_repeatItem_50 : decode cX4_repeatItem 50 = .ok (.invokevirtual 89, 3) := by decide +kernel
theorem dX4_repeatItem_53 : decode cX4_repeatItem 53 = .ok (.aload_n 0, 1) := by decide +kernel
theorem dX4_repeatItem_54 : decode cX4_repeatItem 54 = .ok (.getfield 29, 3) := by decide +kernel
theorem dX4_repeatItem_57 : decode cX4_repeatItem 57 = .ok (.aload_n 0, 1) := by decide +kernel
theorem dX4_repeatItem_58 : decode cX4_repeatItem 58 = .ok (.getfield 36, 3) := by decide +kernel
theorem dX4_repeatItem_61 : decode cX4_repeatItem 61 = .ok (.invokevirtual 64, 3) := by decide +kernel
theorem dX4_repeatItem_64 : decode cX4_repeatItem 64 = .ok (.aload_n 0, 1) := by decide +kernel
theorem dX4_repeatItem_65 : decode cX4_repeatItem 65 = .ok (.getfield 36, 3) := by decide +kernel
theorem dX4_repeatItem_68 : decode cX4_repeatItem 68 = .ok (.aload_n 0, 1) := by decide +kernel
theorem dX4_repeatItem_69 : decode cX4_repeatItem 69 = .ok (.getfield 33, 3) := by decide +kernel
theorem dX4_repeatItem_72 : decode cX4_repeatItem 72 = .ok (.aload_n 0, 1) := by decide +kernel
theorem dX4_repeatItem_73 : decode cX4_repeatItem 73 = .ok (.getfield 33, 3) := by decide +kernel
theorem dX4_repeatItem_76 : decode cX4_repeatItem 76 = .ok (.iload_n 2, 1) := by decide +kernel
theorem dX4_repeatItem_77 : decode cX4_repeatItem 77 = .ok (.invokevirtual 89, 3) := by decide +kernel
theorem dX4_repeatItem_80 : decode cX4_repeatItem 80 = .ok (.aload_n 0, 1) := by decide +kernel
theorem dX4_repeatItem_81 : decode cX4_repeatItem 81 = .ok (.getfield 33, 3) := by decide +kernel
theorem dX4_repeatItem_84 : decode cX4_repeatItem 84 = .ok (.aload_n 0, 1) := by decide +kernel
theorem dX4_repeatItem_85 : decode cX4_repeatItem 85 = .ok (.getfield 36, 3) := by decide +kernel
theorem dX4_repeatItem_88 : decode cX4_repeatItem 88 = .ok (.invokevirtual 64, 3) := by decide +kernel
theorem dX4_repeatItem_91 : decode cX4_repeatItem 91 = .ok (.iload_n 3, 1) := by decide +kernel
theorem dX4_repeatItem_92 : decode cX4_repeatItem 92 = .ok (.iconst 2, 1) := by decide +kernel
theorem dX4_repeatItem_93 : decode cX4_repeatItem 93 = .ok (.idiv, 1) := by decide +kernel
theorem dX4_repeatItem_94 : decode cX4_repeatItem 94 = .ok (.istore_n 3, 1) := by decide +kernel
theorem dX4_repeatItem_95 : decode cX4_repeatItem 95 = .ok (.goto (-68), 3) := by decide +kernel
theorem dX4_repeatItem_98 : decode cX4_repeatItem 98 = .ok (.return_, 1) := by decide +kernel
def f_X4_repeatItem_u64 (Q : ml_St → Prop) (K27 : ml_St → Int → Int → Prop) (σ : ml_St) (x2 : Int) (x3 : Int) : Prop :=
f_X9_beBoth σ 19 16 16 x2 (fun σ1 =>
f_X9_beLike σ1 16 19 (fun σ2 =>
(2 : Int) ≠ 0 ∧ I32 (Int.tdiv x3 2) ∧
∀ y4 : Int, y4 = Int.tdiv x3 2 →
K27 σ2 x2 y4))
def f_X4_repeatItem_u27 (Q : ml_St → Prop) (K98 : ml_St → Prop) : Nat → ml_St → Int → Int → Prop
| 0, _, _, _ => False
| N + 1, σ, x2, x3 =>
(x3 ≤ 0 →
K98 σ) ∧
(¬ (x3 ≤ 0) →
(2 : Int) ≠ 0 ∧ I32 (Int.tmod x3 2) ∧
(((Int.tmod x3 2) : Int) = 0 →
f_X4_repeatItem_u64 Q (f_X4_repeatItem_u27 Q K98 N) σ x2 x3) ∧
((Int.tmod x3 2) ≠ 0 →
f_X9_beBoth σ 19 13 16 x2 (fun σ4 =>
f_X9_beLike σ4 13 19 (fun σ5 =>
f_X4_repeatItem_u64 Q (f_X4_repeatItem_u27 Q K98 N) σ5 x2 x3))))
def f_X4_repeatItem_u98 (Q : ml_St → Prop) (σ : ml_St) : Prop :=
Q σ
def f_X4_repeatItem_u0 (Q : ml_St → Prop) (σ : ml_St) (x1 : Int) (x2 : Int) : Prop :=
(x1 ≠ 1 →
f_X9_beLike σ 16 13 (fun σ2 =>
f_X9_beStraight σ2 13 x2 (fun σ3 =>
∃ N1, f_X4_repeatItem_u27 Q (f_X4_repeatItem_u98 Q) N1 σ3 x2 x1))) ∧
(x1 = 1 →
Q σ)
def f_X4_repeatItem (σ : ml_St) (x1 : Int) (x2 : Int) (Q : ml_St → Prop) : Prop := f_X4_repeatItem_u0 Q σ x1 x2
def rm_X4_repeatItem : Room := { frames := 3, cells := 0, slots := 0, locals := 115 }
set_option maxRecDepth 100000 in
set_option maxHeartbeats 4000000 in
theorem u_X4_repeatItem_64 {p : Program} {e : Env} {s : State} {m : MethodId} {args : Array Value} {below : List Frame} {meth : Method} {c : Code} {base : Nat} {D : va_G} {cA : Nat → ClassId} {n : Nat} {l : Launch} {Q : ml_St → Prop} {K27 : ml_St → Int → Int → Prop} (X : ml_X p s m c meth args D cA cX4_repeatItem 4 RX4 none) (hn : 214 ≤ n) (hK27 : ∀ (σ : ml_St) (x2 : Int) (x3 : Int) (h_x2 : I32 x2) (h_x3 : I32 x3) (ls : Array Slot), lv_has ls 4 [(0, .ref (base + (8 : Int).toNat)), (2, .int (Int32.ofInt x2)), (3, .int (Int32.ofInt x3))] → K27 σ x2 x3 → ml_V p l e rm_X4_repeatItem s m args below meth c (MQ below (ml_Qv base D cA n Q) args s 0 0 (ml_A base)) base D cA 0 0 n n σ (F0 m 27 ls [])) (σ : ml_St) (x2 : Int) (x3 : Int) (h_x2 : I32 x2) (h_x3 : I32 x3) (ls : Array Slot) (hl : lv_has ls 4 [(0, .ref (base + (8 : Int).toNat)), (2, .int (Int32.ofInt x2)), (3, .int (Int32.ofInt x3))]) (hw : f_X4_repeatItem_u64 Q K27 σ x2 x3) : ml_V p l e rm_X4_repeatItem s m args below meth c (MQ below (ml_Qv base D cA n Q) args s 0 0 (ml_A base)) base D cA 0 0 n n σ (F0 m 64 ls []) := by
  unfold f_X4_repeatItem_u64 at hw
  refine ml_aload_n (pc := 64) X hl 0 rfl rfl dX4_repeatItem_64 ?_
  refine gf_X4_36 (pc := 65) X (ml_c8 hn) dX4_repeatItem_65 ?_
  refine ml_aload_n (pc := 68) X hl 0 rfl rfl dX4_repeatItem_68 ?_
  refine gf_X4_33 (pc := 69) X (ml_c8 hn) dX4_repeatItem_69 ?_
  refine ml_aload_n (pc := 72) X hl 0 rfl rfl dX4_repeatItem_72 ?_
  refine gf_X4_33 (pc := 73) X (ml_c8 hn) dX4_repeatItem_73 ?_
  refine ml_iload_n (pc := 76) X hl 1 rfl rfl dX4_repeatItem_76 ?_
  refine ml_callvV (pc := 77) (rest := []) X [.ref (base + (16 : Int).toNat), .ref (base + (16 : Int).toNat), .int (Int32.ofInt x2)] (by decide) rfl (ml_c19 hn) (c_X9_beBoth l base D cA n hn σ 19 16 16 (ml_c19 hn) (ml_c16 hn) (ml_c16 hn) x2 h_x2 _ hw) cv_X4_89 ⟨rfl, rfl⟩ ⟨by decide, by decide⟩ rfl rfl hl (Nat.le_of_ble_eq_true rfl) ⟨Nat.zero_le _, Nat.zero_le _⟩ dX4_repeatItem_77 (fun σ1 hw => ?_)
  refine ml_aload_n (pc := 80) X hl 0 rfl rfl dX4_repeatItem_80 ?_
  refine gf_X4_33 (pc := 81) X (ml_c8 hn) dX4_repeatItem_81 ?_
  refine ml_aload_n (pc := 84) X hl 0 rfl rfl dX4_repeatItem_84 ?_
  refine gf_X4_36 (pc := 85) X (ml_c8 hn) dX4_repeatItem_85 ?_
  refine ml_callvV (pc := 88) (rest := []) X [.ref (base + (19 : Int).toNat)] (by decide) rfl (ml_c16 hn) (c_X9_beLike l base D cA n hn σ1 16 19 (ml_c16 hn) (ml_c19 hn) _ hw) cv_X4_64 ⟨rfl, rfl⟩ ⟨by decide, by decide⟩ rfl rfl hl (Nat.le_of_ble_eq_true rfl) ⟨Nat.zero_le _, Nat.zero_le _⟩ dX4_repeatItem_88 (fun σ2 hw => ?_)
  refine ml_iload_n (pc := 91) X hl 2 rfl rfl dX4_repeatItem_91 ?_
  refine ml_iconst (pc := 92) X dX4_repeatItem_92 ?_
  obtain ⟨z3, v3, hw⟩ := hw
  refine ml_idiv (pc := 93) X h_x3 ⟨by decide, by decide⟩ z3 dX4_repeatItem_93 ?_
  refine ml_topI (pc := 94) (fun y4 e4 => ?_)
  have hw := hw y4 e4
  have q4 : I32 y4 := by rw [e4]; exact v3
  refine ml_istore_n (pc := 94) X rfl hl (by decide) (lst' := [(3, .int (Int32.ofInt y4)), (0, .ref (base + (8 : Int).toNat)), (2, .int (Int32.ofInt x2))]) rfl dX4_repeatItem_94 (fun ls hl => ?_)
  refine ml_goto (pc := 95) (tgt := 27) X dX4_repeatItem_95 (by decide) ?_
  exact hK27 σ2 x2 y4 h_x2 q4 _ (lv_sub hl [1, 2, 0] rfl) hw
set_option maxRecDepth 100000 in
set_option maxHeartbeats 4000000 in
theorem u_X4_repeatItem_27 {p : Program} {e : Env} {s : State} {m : MethodId} {args : Array Value} {below : List Frame} {meth : Method} {c : Code} {base : Nat} {D : va_G} {cA : Nat → ClassId} {n : Nat} {l : Launch} {Q : ml_St → Prop} {K98 : ml_St → Prop} (X : ml_X p s m c meth args D cA cX4_repeatItem 4 RX4 none) (hn : 214 ≤ n) (hK98 : ∀ (σ : ml_St) (ls : Array Slot), lv_has ls 4 [] → K98 σ → ml_V p l e rm_X4_repeatItem s m args below meth c (MQ below (ml_Qv base D cA n Q) args s 0 0 (ml_A base)) base D cA 0 0 n n σ (F0 m 98 ls [])) : ∀ (N : Nat) (σ : ml_St) (x2 : Int) (x3 : Int) (h_x2 : I32 x2) (h_x3 : I32 x3) (ls : Array Slot), lv_has ls 4 [(0, .ref (base + (8 : Int).toNat)), (2, .int (Int32.ofInt x2)), (3, .int (Int32.ofInt x3))] → f_X4_repeatItem_u27 Q K98 N σ x2 x3 → ml_V p l e rm_X4_repeatItem s m args below meth c (MQ below (ml_Qv base D cA n Q) args s 0 0 (ml_A base)) base D cA 0 0 n n σ (F0 m 27 ls []) := by
  intro N
  induction N with
  | zero => intro σ x2 x3 h_x2 h_x3 ls hl hw; exact False.elim hw
  | succ N ih =>
    intro σ x2 x3 h_x2 h_x3 ls hl hw
    unfold f_X4_repeatItem_u27 at hw
    refine ml_iload_n (pc := 27) X hl 2 rfl rfl dX4_repeatItem_27 ?_
    refine ml_if_le (pc := 28) (tgt := 98) X h_x3 dX4_repeatItem_28 (by decide) (fun c1 => ?_) (fun c1 => ?_)
    · have hw := hw.1 c1
      exact hK98 σ   _ (lv_sub hl [] rfl) hw
    · have hw := hw.2 c1
      refine ml_iload_n (pc := 31) X hl 2 rfl rfl dX4_repeatItem_31 ?_
      refine ml_iconst (pc := 32) X dX4_repeatItem_32 ?_
      obtain ⟨z2, v2, hw⟩ := hw
      refine ml_irem (pc := 33) X h_x3 ⟨by decide, by decide⟩ z2 dX4_repeatItem_33 ?_
      refine ml_if_eq (pc := 34) (tgt := 64) X v2 dX4_repeatItem_34 (by decide) (fun c3 => ?_) (fun c3 => ?_)
      · have hw := hw.1 c3
        exact u_X4_repeatItem_64 X hn ih σ x2 x3 h_x2 h_x3 _ (lv_sub hl [0, 1, 2] rfl) hw
      · have hw := hw.2 c3
        refine ml_aload_n (pc := 37) X hl 0 rfl rfl dX4_repeatItem_37 ?_
        refine gf_X4_36 (pc := 38) X (ml_c8 hn) dX4_repeatItem_38 ?_
        refine ml_aload_n (pc := 41) X hl 0 rfl rfl dX4_repeatItem_41 ?_
        refine gf_X4_29 (pc := 42) X (ml_c8 hn) dX4_repeatItem_42 ?_
        refine ml_aload_n (pc := 45) X hl 0 rfl rfl dX4_repeatItem_45 ?_
        refine gf_X4_33 (pc := 46) X (ml_c8 hn) dX4_repeatItem_46 ?_
        refine ml_iload_n (pc := 49) X hl 1 rfl rfl dX4_repeatItem_49 ?_
        refine ml_callvV (pc := 50) (rest := []) X [.ref (base + (13 : Int).toNat), .ref (base + (16 : Int).toNat), .int (Int32.ofInt x2)] (by decide) rfl (ml_c19 hn) (c_X9_beBoth l base D cA n hn σ 19 13 16 (ml_c19 hn) (ml_c13 hn) (ml_c16 hn) x2 h_x2 _ hw) cv_X4_89 ⟨rfl, rfl⟩ ⟨by decide, by decide⟩ rfl rfl hl (Nat.le_of_ble_eq_true rfl) ⟨Nat.zero_le _, Nat.zero_le _⟩ dX4_repeatItem_50 (fun σ4 hw => ?_)
        refine ml_aload_n (pc := 53) X hl 0 rfl rfl dX4_repeatItem_53 ?_
        refine gf_X4_29 (pc := 54) X (ml_c8 hn) dX4_repeatItem_54 ?_
        refine ml_aload_n (pc := 57) X hl 0 rfl rfl dX4_repeatItem_57 ?_
        refine gf_X4_36 (pc := 58) X (ml_c8 hn) dX4_repeatItem_58 ?_
        refine ml_callvV (pc := 61) (rest := []) X [.ref (base + (19 : Int).toNat)] (by decide) rfl (ml_c13 hn) (c_X9_beLike l base D cA n hn σ4 13 19 (ml_c13 hn) (ml_c19 hn) _ hw) cv_X4_64 ⟨rfl, rfl⟩ ⟨by decide, by decide⟩ rfl rfl hl (Nat.le_of_ble_eq_true rfl) ⟨Nat.zero_le _, Nat.zero_le _⟩ dX4_repeatItem_61 (fun σ5 hw => ?_)
        exact u_X4_repeatItem_64 X hn ih σ5 x2 x3 h_x2 h_x3 _ (lv_sub hl [0, 1, 2] rfl) hw
set_option maxRecDepth 100000 in
set_option maxHeartbeats 4000000 in
theorem u_X4_repeatItem_98 {p : Program} {e : Env} {s : State} {m : MethodId} {args : Array Value} {below : List Frame} {meth : Method} {c : Code} {base : Nat} {D : va_G} {cA : Nat → ClassId} {n : Nat} {l : Launch} {Q : ml_St → Prop} (X : ml_X p s m c meth args D cA cX4_repeatItem 4 RX4 none) (hn : 214 ≤ n) (σ : ml_St) (ls : Array Slot) (hl : lv_has ls 4 []) (hw : f_X4_repeatItem_u98 Q σ) : ml_V p l e rm_X4_repeatItem s m args below meth c (MQ below (ml_Qv base D cA n Q) args s 0 0 (ml_A base)) base D cA 0 0 n n σ (F0 m 98 ls []) := by
  unfold f_X4_repeatItem_u98 at hw
  exact ml_vret (pc := 98) X hw dX4_repeatItem_98
set_option maxRecDepth 100000 in
set_option maxHeartbeats 4000000 in
theorem u_X4_repeatItem_0 {p : Program} {e : Env} {s : State} {m : MethodId} {args : Array Value} {below : List Frame} {meth : Method} {c : Code} {base : Nat} {D : va_G} {cA : Nat → ClassId} {n : Nat} {l : Launch} {Q : ml_St → Prop} (X : ml_X p s m c meth args D cA cX4_repeatItem 4 RX4 none) (hn : 214 ≤ n) (σ : ml_St) (x1 : Int) (x2 : Int) (h_x1 : I32 x1) (h_x2 : I32 x2) (ls : Array Slot) (hl : lv_has ls 4 [(0, .ref (base + (8 : Int).toNat)), (1, .int (Int32.ofInt x1)), (2, .int (Int32.ofInt x2))]) (hw : f_X4_repeatItem_u0 Q σ x1 x2) : ml_V p l e rm_X4_repeatItem s m args below meth c (MQ below (ml_Qv base D cA n Q) args s 0 0 (ml_A base)) base D cA 0 0 n n σ (F0 m 0 ls []) := by
  unfold f_X4_repeatItem_u0 at hw
  refine ml_iload_n (pc := 0) X hl 1 rfl rfl dX4_repeatItem_0 ?_
  refine ml_iconst (pc := 1) X dX4_repeatItem_1 ?_
  refine ml_icmp_ne (pc := 2) (tgt := 6) X h_x1 ⟨by decide, by decide⟩ dX4_repeatItem_2 (by decide) (fun c1 => ?_) (fun c1 => ?_)
  · have hw := hw.1 c1
    refine ml_aload_n (pc := 6) X hl 0 rfl rfl dX4_repeatItem_6 ?_
    refine gf_X4_33 (pc := 7) X (ml_c8 hn) dX4_repeatItem_7 ?_
    refine ml_aload_n (pc := 10) X hl 0 rfl rfl dX4_repeatItem_10 ?_
    refine gf_X4_29 (pc := 11) X (ml_c8 hn) dX4_repeatItem_11 ?_
    refine ml_callvV (pc := 14) (rest := []) X [.ref (base + (13 : Int).toNat)] (by decide) rfl (ml_c16 hn) (c_X9_beLike l base D cA n hn σ 16 13 (ml_c16 hn) (ml_c13 hn) _ hw) cv_X4_64 ⟨rfl, rfl⟩ ⟨by decide, by decide⟩ rfl rfl hl (Nat.le_of_ble_eq_true rfl) ⟨Nat.zero_le _, Nat.zero_le _⟩ dX4_repeatItem_14 (fun σ2 hw => ?_)
    refine ml_aload_n (pc := 17) X hl 0 rfl rfl dX4_repeatItem_17 ?_
    refine gf_X4_29 (pc := 18) X (ml_c8 hn) dX4_repeatItem_18 ?_
    refine ml_iload_n (pc := 21) X hl 2 rfl rfl dX4_repeatItem_21 ?_
    refine ml_callvV (pc := 22) (rest := []) X [.int (Int32.ofInt x2)] (by decide) rfl (ml_c13 hn) (c_X9_beStraight l base D cA n hn σ2 13 (ml_c13 hn) x2 h_x2 _ hw) cv_X4_42 ⟨rfl, rfl⟩ ⟨by decide, by decide⟩ rfl rfl hl (Nat.le_of_ble_eq_true rfl) ⟨Nat.zero_le _, Nat.zero_le _⟩ dX4_repeatItem_22 (fun σ3 hw => ?_)
    refine ml_iload_n (pc := 25) X hl 1 rfl rfl dX4_repeatItem_25 ?_
    refine ml_istore_n (pc := 26) X rfl hl (by decide) (lst' := [(3, .int (Int32.ofInt x1)), (0, .ref (base + (8 : Int).toNat)), (1, .int (Int32.ofInt x1)), (2, .int (Int32.ofInt x2))]) rfl dX4_repeatItem_26 (fun ls hl => ?_)
    obtain ⟨N0, hw⟩ := hw
    exact u_X4_repeatItem_27 X hn (fun σ   ls hl hw => u_X4_repeatItem_98 X hn σ   ls hl hw) N0 σ3 x2 x1 h_x2 h_x1 _ (lv_sub hl [1, 3, 0] rfl) hw
  · have hw := hw.2 c1
    exact ml_vret (pc := 5) X hw dX4_repeatItem_5
set_option maxRecDepth 100000 in
theorem c_X4_repeatItem (l : Launch) (base : Nat) (D : va_G) (cA : Nat → ClassId) (n : Nat) (hn : 214 ≤ n) (σ : ml_St) (x1 : Int) (x2 : Int) (h_x1 : I32 x1) (h_x2 : I32 x2) (Q : ml_St → Prop) (hw : f_X4_repeatItem σ x1 x2 Q) : Met l yX4_repeatItem (Cond.code yX4_repeatItem cX4_repeatItem 4 none :: ml_T) rm_X4_repeatItem (va_Pc [.ref (base + (8 : Int).toNat), .int (Int32.ofInt x1), .int (Int32.ofInt x2)] (ml_U base D cA n σ)) (ml_Qv base D cA n Q) 0 0 (ml_A base) := by
  refine Met.ofW (cc := cX4_repeatItem) (maxL := 4) (ret := none) (by decide) rfl ?_
  intro p e s m args below meth c s₁ B hml hv
  obtain ⟨rfl, hP, hK, hok, hro⟩ := hv
  have X : ml_X p s m c meth _ D cA cX4_repeatItem 4 RX4 none := ⟨B.exec, B.bytes, hml, findClass_of_methodNamed B.named, fun w hw => atoms_spec (ws := Cond.code yX4_repeatItem cX4_repeatItem 4 none :: ml_T) B.pre w (List.mem_cons_of_mem _ hw), hK, B.notSynchronized, B.returns⟩
  have hl := lv_entry [.ref (base + (8 : Int).toNat), .int (Int32.ofInt x1), .int (Int32.ofInt x2)] (n := 4) (Nat.le_of_ble_eq_true rfl)
  rw [lg_entry_eq]
  generalize (lg_sl [.ref (base + (8 : Int).toNat), .int (Int32.ofInt x1), .int (Int32.ofInt x2)] ++ List.replicate (4 - (lg_sl [.ref (base + (8 : Int).toNat), .int (Int32.ofInt x1), .int (Int32.ofInt x2)]).length) Slot.unset).toArray = ls at hl ⊢
  have hl : lv_has ls 4 [(0, .ref (base + (8 : Int).toNat)), (1, .int (Int32.ofInt x1)), (2, .int (Int32.ofInt x2))] := hl
  unfold f_X4_repeatItem at hw
  exact u_X4_repeatItem_0 X hn σ x1 x2 h_x1 h_x2 _ (lv_sub hl [0, 1, 2] rfl) hw s.heap [] hP va_S.rf hok hro
