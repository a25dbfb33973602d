theorem dX9_touch_0 : decode cX9_touch 0 = .ok (.aload_n 0, 1) := by decide +kernel
theorem dX9_touch_1 : decode cX9_touch 1 = .ok (.getfield 9, 3) := by decide +kernel
theorem dX9_touch_4 : decode cX9_touch 4 = .ok (.iload_n 1, 1) := by decide +kernel
theorem dX9_touch_5 : decode cX9_touch 5 = .ok (.iload_n 2, 1) := by decide +kernel
theorem dX9_touch_6 : decode cX9_touch 6 = .ok (.iastore, 1) := by decide +kernel
theorem dX9_touch_7 : decode cX9_touch 7 = .ok (.aload_n 0, 1) := by decide +kernel
theorem dX9_touch_8 : decode cX9_touch 8 = .ok (.getfield 9, 3) := by decide +kernel
theorem dX9_touch_11 : decode cX9_touch 11 = .ok (.iload_n 2, 1) := by decide +kernel
theorem dX9_touch_12 : decode cX9_touch 12 = .ok (.iload_n 1, 1) := by decide +kernel
theorem dX9_touch_13 : decode cX9_touch 13 = .ok (.iastore, 1) := by decide +kernel
theorem dX9_touch_14 : decode cX9_touch 14 = .ok (.aload_n 0, 1) := by decide +kernel
theorem dX9_touch_15 : decode cX9_touch 15 = .ok (.getfield 15, 3) := by decide +kernel
theorem dX9_touch_18 : decode cX9_touch 18 = .ok (.iload_n 1, 1) := by decide +kernel
theorem dX9_touch_19 : decode cX9_touch 19 = .ok (.lconst 1, 1) := by decide +kernel
theorem dX9_touch_20 : decode cX9_touch 20 = .ok (.lastore, 1) := by decide +kernel
theorem dX9_touch_21 : decode cX9_touch 21 = .ok (.aload_n 0, 1) := by decide +kernel
theorem dX9_touch_22 : decode cX9_touch 22 = .ok (.getfield 15, 3) := by decide +kernel
theorem dX9_touch_25 : decode cX9_touch 25 = .ok (.iload_n 2, 1) := by decide +kernel
theorem dX9_touch_26 : decode cX9_touch 26 = .ok (.lconst 1, 1) := by decide +kernel
theorem dX9_touch_27 : decode cX9_touch 27 = .ok (.lastore, 1) := by decide +kernel
theorem dX9_touch_28 : decode cX9_touch 28 = .ok (.return_, 1) := by decide +kernel
def f_X9_touch_u0 (Q : ml_St → Prop) (th : Int) (σ : ml_St) (x1 : Int) (x2 : Int) : Prop :=
(0 : Int) ≤ x1 ∧ (x1 : Int) < 10 ∧
∀ σ1, σ1 = ml_up σ (th + 1) x1 x2 →
(0 : Int) ≤ x2 ∧ (x2 : Int) < 10 ∧
∀ σ2, σ2 = ml_up σ1 (th + 1) x2 x1 →
(0 : Int) ≤ x1 ∧ (x1 : Int) < 10 ∧
∀ σ3, σ3 = ml_up σ2 (th + 2) x1 1 →
(0 : Int) ≤ x2 ∧ (x2 : Int) < 10 ∧
∀ σ4, σ4 = ml_up σ3 (th + 2) x2 1 →
Q σ4
def f_X9_touch (σ : ml_St) (th : Int) (x1 : Int) (x2 : Int) (Q : ml_St → Prop) : Prop := f_X9_touch_u0 Q th σ x1 x2
def rm_X9_touch : Room := { frames := 0, cells := 0, slots := 0, locals := 0 }
set_option maxRecDepth 100000 in
set_option maxHeartbeats 4000000 in
theorem u_X9_touch_0 {p : Program} {e : Env} {s : State} {m : MethodId} {args : Array Value} {below : List Frame} {meth : Method} {c : Code} {base : Nat} {D : va_G} {cA : Nat → ClassId} {n : Nat} {l : Launch} {th : Int} {Q : ml_St → Prop} (X : ml_X p s m c meth args D cA cX9_touch 3 RX9 none) (hn : 214 ≤ n) (hp_th : ml_at n th (19, 8)) (σ : ml_St) (x1 : Int) (x2 : Int) (h_x1 : I32 x1) (h_x2 : I32 x2) (ls : Array Slot) (hl : lv_has ls 3 [(0, .ref (base + (th : Int).toNat)), (1, .int (Int32.ofInt x1)), (2, .int (Int32.ofInt x2))]) (hw : f_X9_touch_u0 Q th σ x1 x2) : ml_V p l e rm_X9_touch s m args below meth c (MQ below (ml_Qv base D cA n Q) args s 0 0 (ml_A base)) base D cA 0 0 n n σ (F0 m 0 ls []) := by
  unfold f_X9_touch_u0 at hw
  refine ml_aload_n (pc := 0) X hl 0 rfl rfl dX9_touch_0 ?_
  refine gf_X9_9 (pc := 1) X hp_th dX9_touch_1 ?_
  refine ml_iload_n (pc := 4) X hl 1 rfl rfl dX9_touch_4 ?_
  refine ml_iload_n (pc := 5) X hl 2 rfl rfl dX9_touch_5 ?_
  obtain ⟨a1, b1, hw⟩ := hw
  refine ml_iast (pc := 6) (N := 10) X (ml_r19_1 hn hp_th) a1 b1 h_x2 dX9_touch_6 (fun σ1 g1 => ?_)
  have hw := hw σ1 g1
  refine ml_aload_n (pc := 7) X hl 0 rfl rfl dX9_touch_7 ?_
  refine gf_X9_9 (pc := 8) X hp_th dX9_touch_8 ?_
  refine ml_iload_n (pc := 11) X hl 2 rfl rfl dX9_touch_11 ?_
  refine ml_iload_n (pc := 12) X hl 1 rfl rfl dX9_touch_12 ?_
  obtain ⟨a2, b2, hw⟩ := hw
  refine ml_iast (pc := 13) (N := 10) X (ml_r19_1 hn hp_th) a2 b2 h_x1 dX9_touch_13 (fun σ2 g2 => ?_)
  have hw := hw σ2 g2
  refine ml_aload_n (pc := 14) X hl 0 rfl rfl dX9_touch_14 ?_
  refine gf_X9_15 (pc := 15) X hp_th dX9_touch_15 ?_
  refine ml_iload_n (pc := 18) X hl 1 rfl rfl dX9_touch_18 ?_
  refine ml_lconst1 (pc := 19) X dX9_touch_19 ?_
  obtain ⟨a3, b3, hw⟩ := hw
  refine ml_last (pc := 20) (N := 10) X (ml_r19_2 hn hp_th) a3 b3 ⟨by decide, by decide⟩ dX9_touch_20 (fun σ3 g3 => ?_)
  have hw := hw σ3 g3
  refine ml_aload_n (pc := 21) X hl 0 rfl rfl dX9_touch_21 ?_
  refine gf_X9_15 (pc := 22) X hp_th dX9_touch_22 ?_
  refine ml_iload_n (pc := 25) X hl 2 rfl rfl dX9_touch_25 ?_
  refine ml_lconst1 (pc := 26) X dX9_touch_26 ?_
  obtain ⟨a4, b4, hw⟩ := hw
  refine ml_last (pc := 27) (N := 10) X (ml_r19_2 hn hp_th) a4 b4 ⟨by decide, by decide⟩ dX9_touch_27 (fun σ4 g4 => ?_)
  have hw := hw σ4 g4
  exact ml_vret (pc := 28) X hw dX9_touch_28
set_option maxRecDepth 100000 in
theorem c_X9_touch (l : Launch) (base : Nat) (D : va_G) (cA : Nat → ClassId) (n : Nat) (hn : 214 ≤ n) (σ : ml_St) (th : Int) (hp_th : ml_at n th (19, 8)) (x1 : Int) (x2 : Int) (h_x1 : I32 x1) (h_x2 : I32 x2) (Q : ml_St → Prop) (hw : f_X9_touch σ th x1 x2 Q) : Met l yX9_touch (Cond.code yX9_touch cX9_touch 3 none :: ml_T) rm_X9_touch (va_Pc [.ref (base + (th : Int).toNat), .int (Int32.ofInt x1), .int (Int32.ofInt x2)] (ml_U base D cA n σ)) (ml_Qv base D cA n Q) 0 0 (ml_A base) := by
  refine Met.ofW (cc := cX9_touch) (maxL := 3) (ret := none) (by decide) rfl ?_
  intro p e s m args below meth c s₁ B hml hv
  obtain ⟨rfl, hP, hK, hok, hro⟩ := hv
  have X : ml_X p s m c meth _ D cA cX9_touch 3 RX9 none := ⟨B.exec, B.bytes, hml, findClass_of_methodNamed B.named, fun w hw => atoms_spec (ws := Cond.code yX9_touch cX9_touch 3 none :: ml_T) B.pre w (List.mem_cons_of_mem _ hw), hK, B.notSynchronized, B.returns⟩
  have hl := lv_entry [.ref (base + (th : Int).toNat), .int (Int32.ofInt x1), .int (Int32.ofInt x2)] (n := 3) (Nat.le_of_ble_eq_true rfl)
  rw [lg_entry_eq]
  generalize (lg_sl [.ref (base + (th : Int).toNat), .int (Int32.ofInt x1), .int (Int32.ofInt x2)] ++ List.replicate (3 - (lg_sl [.ref (base + (th : Int).toNat), .int (Int32.ofInt x1), .int (Int32.ofInt x2)]).length) Slot.unset).toArray = ls at hl ⊢
  have hl : lv_has ls 3 [(0, .ref (base + (th : Int).toNat)), (1, .int (Int32.ofInt x1)), (2, .int (Int32.ofInt x2))] := hl
  unfold f_X9_touch at hw
  exact u_X9_touch_0 X hn hp_th σ x1 x2 h_x1 h_x2 _ (lv_sub hl [0, 1, 2] rfl) hw s.heap [] hP va_S.rf hok hro
theorem dX9_beSign_0 : decode cX9_beSign 0 = .ok (.aload_n 0, 1) := by decide +kernel
theorem dX9_beSign_1 : decode cX9_beSign 1 = .ok (.iload_n 2, 1) := by decide +kernel
theorem dX9_beSign_2 : decode cX9_beSign 2 = .ok (.invokevirtual 41, 3) := by decide +kernel
theorem dX9_beSign_5 : decode cX9_beSign 5 = .ok (.iload_n 1, 1) := by decide +kernel
theorem dX9_beSign_6 : decode cX9_beSign 6 = .ok (.iconst 2, 1) := by decide +kernel
theorem dX9_beSign_7 : decode cX9_beSign 7 = .ok (.idiv, 1) := by decide +kernel
theorem dX9_beSign_8 : decode cX9_beSign 8 = .ok (.istore_n 3, 1) := by decide +kernel
theorem dX9_beSign_9 : decode cX9_beSign 9 = .ok (.aload_n 0, 1) := by decide +kernel
theorem dX9_beSign_10 : decode cX9_beSign 10 = .ok (.lconst 1, 1) := by decide +kernel
theorem dX9_beSign_11 : decode cX9_beSign 11 = .ok (.putfield 29, 3) := by decide +kernel
theorem dX9_beSign_14 : decode cX9_beSign 14 = .ok (.aload_n 0, 1) := by decide +kernel
theorem dX9_beSign_15 : decode cX9_beSign 15 = .ok (.iload_n 1, 1) := by decide +kernel
theorem dX9_beSign_16 : decode cX9_beSign 16 = .ok (.iconst 2, 1) := by decide +kernel
theorem dX9_beSign_17 : decode cX9_beSign 17 = .ok (.irem, 1) := by decide +kernel
theorem dX9_beSign_18 : decode cX9_beSign 18 = .ok (.ifCond .eq 7, 3) := by decide +kernel
theorem dX9_beSign_21 : decode cX9_beSign 21 = .ok (.iconst 1, 1) := by decide +kernel
theorem dX9_beSign_22 : decode cX9_beSign 22 = .ok (.goto 4, 3) := by decide +kernel
theorem dX9_beSign_25 : decode cX9_beSign 25 = .ok (.iconst 0, 1) := by decide +kernel
theorem dX9_beSign_26 : decode cX9_beSign 26 = .ok (.putfield 36, 3) := by decide +kernel
theorem dX9_beSign_29 : decode cX9_beSign 29 = .ok (.aload_n 0, 1) := by decide +kernel
theorem dX9_beSign_30 : decode cX9_beSign 30 = .ok (.aload_n 0, 1) := by decide +kernel
theorem dX9_beSign_31 : decode cX9_beSign 31 = .ok (.getfield 36, 3) := by decide +kernel
theorem dX9_beSign_34 : decode cX9_beSign 34 = .ok (.ifCond .ne 7, 3) := by decide +kernel
theorem dX9_beSign_37 : decode cX9_beSign 37 = .ok (.iconst 1, 1) := by decide +kernel
theorem dX9_beSign_38 : decode cX9_beSign 38 = .ok (.goto 4, 3) := by decide +kernel
theorem dX9_beSign_41 : decode cX9_beSign 41 = .ok (.iconst 0, 1) := by decide +kernel
theorem dX9_beSign_42 : decode cX9_beSign 42 = .ok (.putfield 32, 3) := by decide +kernel
theorem dX9_beSign_45 : decode cX9_beSign 45 = .ok (.aload_n 0, 1) := by decide +kernel
theorem dX9_beSign_46 : decode cX9_beSign 46 = .ok (.getfield 36, 3) := by decide +kernel
theorem dX9_beSign_49 : decode cX9_beSign 49 = .ok (.ifCond .eq 26, 3) := by decide +kernel
theorem dX9_beSign_52 : decode cX9_beSign 52 = .ok (.aload_n 0, 1) := by decide +kernel
theorem dX9_beSign_53 : decode cX9_beSign 53 = .ok (.iload_n 3, 1) := by decide +kernel
theorem dX9_beSign_54 : decode cX9_beSign 54 = .ok (.iload_n 3, 1) := by decide +kernel
theorem dX9_beSign_55 : decode cX9_beSign 55 = .ok (.iconst 1, 1) := by decide +kernel
theorem dX9_beSign_56 : decode cX9_beSign 56 = .ok (.iadd, 1) := by decide +kernel
theorem dX9_beSign_57 : decode cX9_beSign 57 = .ok (.invokevirtual 45, 3) := by decide +kernel
theorem dX9_beSign_60 : decode cX9_beSign 60 = .ok (.aload_n 0, 1) := by decide +kernel
theorem dX9_beSign_61 : decode cX9_beSign 61 = .ok (.iload_n 2, 1) := by decide +kernel
theorem dX9_beSign_62 : decode cX9_beSign 62 = .ok (.iload_n 3, 1) := by decide +kernel
theorem dX9_beSign_63 : decode cX9_beSign 63 = .ok (.iadd, 1) := by decide +kernel
theorem dX9_beSign_64 : decode cX9_beSign 64 = .ok (.iload_n 2, 1) := by decide +kernel
theorem dX9_beSign_65 : decode cX9_beSign 65 = .ok (.iload_n 3, 1) := by decide +kernel
theorem dX9_beSign_66 : decode cX9_beSign 66 = .ok (.iadd, 1) := by decide +kernel
theorem dX9_beSign_67 : decode cX9_beSign 67 = .ok (.iconst 1, 1) := by decide +kernel
theorem dX9_beSign_68 : decode cX9_beSign 68 = .ok (.iadd, 1) := by decide +kernel
theorem dX9_beSign_69 : decode cX9_beSign 69 = .ok (.invokevirtual 45, 3) := by decide +kernel
theorem dX9_beSign_72 : decode cX9_beSign 72 = .ok (.goto 23, 3) := by decide +kernel
theorem dX9_beSign_75 : decode cX9_beSign 75 = .ok (.aload_n 0, 1) := by decide +kernel
theorem dX9_beSign_76 : decode cX9_beSign 76 = .ok (.iload_n 3, 1) := by decide +kernel
theorem dX9_beSign_77 : decode cX9_beSign 77 = .ok (.iload_n 2, 1) := by decide +kernel
theorem dX9_beSign_78 : decode cX9_beSign 78 = .ok (.iload_n 3, 1) := by decide +kernel
theorem dX9_beSign_79 : decode cX9_beSign 79 = .ok (.iadd, 1) := by decide +kernel
theorem dX9_beSign_80 : decode cX9_beSign 80 = .ok (.iconst 1, 1) := by decide +kernel
theorem dX9_beSign_81 : decode cX9_beSign 81 = .ok (.iadd, 1) := by decide +kernel
theorem dX9_beSign_82 : decode cX9_beSign 82 = .ok (.invokevirtual 45, 3) := by decide +kernel
theorem dX9_beSign_85 : decode cX9_beSign 85 = .ok (.aload_n 0, 1) := by decide +kernel
theorem dX9_beSign_86 : decode cX9_beSign 86 = .ok (.iload_n 3, 1) := by decide +kernel
theorem dX9_beSign_87 : decode cX9_beSign 87 = .ok (.iconst 1, 1) := by decide +kernel
theorem dX9_beSign_88 : decode cX9_beSign 88 = .ok (.iadd, 1) := by decide +kernel
theorem dX9_beSign_89 : decode cX9_beSign 89 = .ok (.iload_n 2, 1) := by decide +kernel
theorem dX9_beSign_90 : decode cX9_beSign 90 = .ok (.iload_n 3, 1) := by decide +kernel
theorem dX9_beSign_91 : decode cX9_beSign 91 = .ok (.iadd, 1) := by decide +kernel
theorem dX9_beSign_92 : decode cX9_beSign 92 = .ok (.invokevirtual 45, 3) := by decide +kernel
theorem dX9_beSign_95 : decode cX9_beSign 95 = .ok (.return_, 1) := by decide +kernel
def f_X9_beSign_u95 (Q : ml_St → Prop) (th : Int) (σ : ml_St) : Prop :=
Q σ
def f_X9_beSign_u42 (Q : ml_St → Prop) (th : Int) (σ : ml_St) (x2 : Int) (x3 : Int) (s1 : Int) : Prop :=
∀ σ1, σ1 = ml_up σ th 6 s1 →
∀ _ : ml_B (σ1 th 7),
(((σ1 th 7) : Int) = 0 →
I32 (x2 + x3) ∧
I32 ((x2 + x3) + 1) ∧
f_X9_touch σ1 th x3 ((x2 + x3) + 1) (fun σ6 =>
I32 (x3 + 1) ∧
I32 (x2 + x3) ∧
f_X9_touch σ6 th (x3 + 1) (x2 + x3) (fun σ9 =>
f_X9_beSign_u95 Q th σ9))) ∧
((σ1 th 7) ≠ 0 →
I32 (x3 + 1) ∧
f_X9_touch σ1 th x3 (x3 + 1) (fun σ11 =>
I32 (x2 + x3) ∧
I32 (x2 + x3) ∧
I32 ((x2 + x3) + 1) ∧
f_X9_touch σ11 th (x2 + x3) ((x2 + x3) + 1) (fun σ15 =>
f_X9_beSign_u95 Q th σ15)))
def f_X9_beSign_u26 (Q : ml_St → Prop) (th : Int) (σ : ml_St) (x2 : Int) (x3 : Int) (s1 : Int) : Prop :=
∀ σ1, σ1 = ml_up σ th 7 s1 →
∀ _ : ml_B (σ1 th 7),
(((σ1 th 7) : Int) ≠ 0 →
f_X9_beSign_u42 Q th σ1 x2 x3 0) ∧
((σ1 th 7) = 0 →
f_X9_beSign_u42 Q th σ1 x2 x3 1)
def f_X9_beSign_u0 (Q : ml_St → Prop) (th : Int) (σ : ml_St) (x1 : Int) (x2 : Int) : Prop :=
f_X9_beStraight σ th x2 (fun σ1 =>
(2 : Int) ≠ 0 ∧ I32 (Int.tdiv x1 2) ∧
∀ y3 : Int, y3 = Int.tdiv x1 2 →
∀ σ4, σ4 = ml_up σ1 th 5 1 →
(2 : Int) ≠ 0 ∧ I32 (Int.tmod x1 2) ∧
(((Int.tmod x1 2) : Int) = 0 →
f_X9_beSign_u26 Q th σ4 x2 y3 0) ∧
((Int.tmod x1 2) ≠ 0 →
f_X9_beSign_u26 Q th σ4 x2 y3 1))
def f_X9_beSign (σ : ml_St) (th : Int) (x1 : Int) (x2 : Int) (Q : ml_St → Prop) : Prop := f_X9_beSign_u0 Q th σ x1 x2
def rm_X9_beSign : Room := { frames := 1, cells := 0, slots := 0, locals := 22 }
set_option maxRecDepth 100000 in
set_option maxHeartbeats 4000000 in
theorem u_X9_beSign_95 {p : Program} {e : Env} {s : State} {m : MethodId} {args : Array Value} {below : List Frame} {meth : Method} {c : Code} {base : Nat} {D : va_G} {cA : Nat → ClassId} {n : Nat} {l : Launch} {th : Int} {Q : ml_St → Prop} (X : ml_X p s m c meth args D cA cX9_beSign 4 RX9 none) (hn : 214 ≤ n) (hp_th : ml_at n th (19, 8)) (σ : ml_St) (ls : Array Slot) (hl : lv_has ls 4 []) (hw : f_X9_beSign_u95 Q th σ) : ml_V p l e rm_X9_beSign s m args below meth c (MQ below (ml_Qv base D cA n Q) args s 0 0 (ml_A base)) base D cA 0 0 n n σ (F0 m 95 ls []) := by
  unfold f_X9_beSign_u95 at hw
  exact ml_vret (pc := 95) X hw dX9_beSign_95
set_option maxRecDepth 100000 in
set_option maxHeartbeats 4000000 in
theorem u_X9_beSign_42 {p : Program} {e : Env} {s : State} {m : MethodId} {args : Array Value} {below : List Frame} {meth : Method} {c : Code} {base : Nat} {D : va_G} {cA : Nat → ClassId} {n : Nat} {l : Launch} {th : Int} {Q : ml_St → Prop} (X : ml_X p s m c meth args D cA cX9_beSign 4 RX9 none) (hn : 214 ≤ n) (hp_th : ml_at n th (19, 8)) (σ : ml_St) (x2 : Int) (x3 : Int) (s1 : Int) (h_x2 : I32 x2) (h_x3 : I32 x3) (h_s1 : ml_B s1) (ls : Array Slot) (hl : lv_has ls 4 [(0, .ref (base + (th : Int).toNat)), (2, .int (Int32.ofInt x2)), (3, .int (Int32.ofInt x3))]) (hw : f_X9_beSign_u42 Q th σ x2 x3 s1) : ml_V p l e rm_X9_beSign s m args below meth c (MQ below (ml_Qv base D cA n Q) args s 0 0 (ml_A base)) base D cA 0 0 n n σ (F0 m 42 ls [.int (Int32.ofInt s1), .ref (base + (th : Int).toNat)]) := by
  unfold f_X9_beSign_u42 at hw
  refine pf_X9_32 (pc := 42) X hp_th h_s1 dX9_beSign_42 (fun σ1 g1 => ?_)
  have hw := hw σ1 g1
  refine ml_aload_n (pc := 45) X hl 0 rfl rfl dX9_beSign_45 ?_
  refine gf_X9_36 (pc := 46) X hp_th dX9_beSign_46 (fun r2 => ?_)
  have hw := hw r2
  refine ml_if_eq (pc := 49) (tgt := 75) X r2.i dX9_beSign_49 (by decide) (fun c3 => ?_) (fun c3 => ?_)
  · have hw := hw.1 c3
    refine ml_aload_n (pc := 75) X hl 0 rfl rfl dX9_beSign_75 ?_
    refine ml_iload_n (pc := 76) X hl 2 rfl rfl dX9_beSign_76 ?_
    refine ml_iload_n (pc := 77) X hl 1 rfl rfl dX9_beSign_77 ?_
    refine ml_iload_n (pc := 78) X hl 2 rfl rfl dX9_beSign_78 ?_
    obtain ⟨v4, hw⟩ := hw
    refine ml_iadd (pc := 79) X dX9_beSign_79 ?_
    refine ml_iconst (pc := 80) X dX9_beSign_80 ?_
    obtain ⟨v5, hw⟩ := hw
    refine ml_iadd (pc := 81) X dX9_beSign_81 ?_
    refine ml_callvV (pc := 82) (rest := []) X [.int (Int32.ofInt x3), .int (Int32.ofInt ((x2 + x3) + 1))] (by decide) rfl hp_th (c_X9_touch l base D cA n hn σ1 th hp_th x3 ((x2 + x3) + 1) h_x3 v5 _ hw) cv_X9_45 ⟨rfl, rfl⟩ ⟨by decide, by decide⟩ rfl rfl hl (Nat.le_of_ble_eq_true rfl) ⟨Nat.zero_le _, Nat.zero_le _⟩ dX9_beSign_82 (fun σ6 hw => ?_)
    refine ml_aload_n (pc := 85) X hl 0 rfl rfl dX9_beSign_85 ?_
    refine ml_iload_n (pc := 86) X hl 2 rfl rfl dX9_beSign_86 ?_
    refine ml_iconst (pc := 87) X dX9_beSign_87 ?_
    obtain ⟨v7, hw⟩ := hw
    refine ml_iadd (pc := 88) X dX9_beSign_88 ?_
    refine ml_iload_n (pc := 89) X hl 1 rfl rfl dX9_beSign_89 ?_
    refine ml_iload_n (pc := 90) X hl 2 rfl rfl dX9_beSign_90 ?_
    obtain ⟨v8, hw⟩ := hw
    refine ml_iadd (pc := 91) X dX9_beSign_91 ?_
    refine ml_callvV (pc := 92) (rest := []) X [.int (Int32.ofInt (x3 + 1)), .int (Int32.ofInt (x2 + x3))] (by decide) rfl hp_th (c_X9_touch l base D cA n hn σ6 th hp_th (x3 + 1) (x2 + x3) v7 v8 _ hw) cv_X9_45 ⟨rfl, rfl⟩ ⟨by decide, by decide⟩ rfl rfl hl (Nat.le_of_ble_eq_true rfl) ⟨Nat.zero_le _, Nat.zero_le _⟩ dX9_beSign_92 (fun σ9 hw => ?_)
    exact u_X9_beSign_95 X hn hp_th σ9   _ (lv_sub hl [] rfl) hw
  · have hw := hw.2 c3
    refine ml_aload_n (pc := 52) X hl 0 rfl rfl dX9_beSign_52 ?_
    refine ml_iload_n (pc := 53) X hl 2 rfl rfl dX9_beSign_53 ?_
    refine ml_iload_n (pc := 54) X hl 2 rfl rfl dX9_beSign_54 ?_
    refine ml_iconst (pc := 55) X dX9_beSign_55 ?_
    obtain ⟨v10, hw⟩ := hw
    refine ml_iadd (pc := 56) X dX9_beSign_56 ?_
    refine ml_callvV (pc := 57) (rest := []) X [.int (Int32.ofInt x3), .int (Int32.ofInt (x3 + 1))] (by decide) rfl hp_th (c_X9_touch l base D cA n hn σ1 th hp_th x3 (x3 + 1) h_x3 v10 _ hw) cv_X9_45 ⟨rfl, rfl⟩ ⟨by decide, by decide⟩ rfl rfl hl (Nat.le_of_ble_eq_true rfl) ⟨Nat.zero_le _, Nat.zero_le _⟩ dX9_beSign_57 (fun σ11 hw => ?_)
    refine ml_aload_n (pc := 60) X hl 0 rfl rfl dX9_beSign_60 ?_
    refine ml_iload_n (pc := 61) X hl 1 rfl rfl dX9_beSign_61 ?_
    refine ml_iload_n (pc := 62) X hl 2 rfl rfl dX9_beSign_62 ?_
    obtain ⟨v12, hw⟩ := hw
    refine ml_iadd (pc := 63) X dX9_beSign_63 ?_
    refine ml_iload_n (pc := 64) X hl 1 rfl rfl dX9_beSign_64 ?_
    refine ml_iload_n (pc := 65) X hl 2 rfl rfl dX9_beSign_65 ?_
    obtain ⟨v13, hw⟩ := hw
    refine ml_iadd (pc := 66) X dX9_beSign_66 ?_
    refine ml_iconst (pc := 67) X dX9_beSign_67 ?_
    obtain ⟨v14, hw⟩ := hw
    refine ml_iadd (pc := 68) X dX9_beSign_68 ?_
    refine ml_callvV (pc := 69) (rest := []) X [.int (Int32.ofInt (x2 + x3)), .int (Int32.ofInt ((x2 + x3) + 1))] (by decide) rfl hp_th (c_X9_touch l base D cA n hn σ11 th hp_th (x2 + x3) ((x2 + x3) + 1) v12 v14 _ hw) cv_X9_45 ⟨rfl, rfl⟩ ⟨by decide, by decide⟩ rfl rfl hl (Nat.le_of_ble_eq_true rfl) ⟨Nat.zero_le _, Nat.zero_le _⟩ dX9_beSign_69 (fun σ15 hw => ?_)
    refine ml_goto (pc := 72) (tgt := 95) X dX9_beSign_72 (by decide) ?_
    exact u_X9_beSign_95 X hn hp_th σ15   _ (lv_sub hl [] rfl) hw
set_option maxRecDepth 100000 in
set_option maxHeartbeats 4000000 in
theorem u_X9_beSign_26 {p : Program} {e : Env} {s : State} {m : MethodId} {args : Array Value} {below : List Frame} {meth : Method} {c : Code} {base : Nat} {D : va_G} {cA : Nat → ClassId} {n : Nat} {l : Launch} {th : Int} {Q : ml_St → Prop} (X : ml_X p s m c meth args D cA cX9_beSign 4 RX9 none) (hn : 214 ≤ n) (hp_th : ml_at n th (19, 8)) (σ : ml_St) (x2 : Int) (x3 : Int) (s1 : Int) (h_x2 : I32 x2) (h_x3 : I32 x3) (h_s1 : ml_B s1) (ls : Array Slot) (hl : lv_has ls 4 [(0, .ref (base + (th : Int).toNat)), (2, .int (Int32.ofInt x2)), (3, .int (Int32.ofInt x3))]) (hw : f_X9_beSign_u26 Q th σ x2 x3 s1) : ml_V p l e rm_X9_beSign s m args below meth c (MQ below (ml_Qv base D cA n Q) args s 0 0 (ml_A base)) base D cA 0 0 n n σ (F0 m 26 ls [.int (Int32.ofInt s1), .ref (base + (th : Int).toNat)]) := by
  unfold f_X9_beSign_u26 at hw
  refine pf_X9_36 (pc := 26) X hp_th h_s1 dX9_beSign_26 (fun σ1 g1 => ?_)
  have hw := hw σ1 g1
  refine ml_aload_n (pc := 29) X hl 0 rfl rfl dX9_beSign_29 ?_
  refine ml_aload_n (pc := 30) X hl 0 rfl rfl dX9_beSign_30 ?_
  refine gf_X9_36 (pc := 31) X hp_th dX9_beSign_31 (fun r2 => ?_)
  have hw := hw r2
  refine ml_if_ne (pc := 34) (tgt := 41) X r2.i dX9_beSign_34 (by decide) (fun c3 => ?_) (fun c3 => ?_)
  · have hw := hw.1 c3
    refine ml_iconst (pc := 41) X dX9_beSign_41 ?_
    exact u_X9_beSign_42 X hn hp_th σ1 x2 x3 0 h_x2 h_x3 ⟨by decide, by decide⟩ _ (lv_sub hl [0, 1, 2] rfl) hw
  · have hw := hw.2 c3
    refine ml_iconst (pc := 37) X dX9_beSign_37 ?_
    refine ml_goto (pc := 38) (tgt := 42) X dX9_beSign_38 (by decide) ?_
    exact u_X9_beSign_42 X hn hp_th σ1 x2 x3 1 h_x2 h_x3 ⟨by decide, by decide⟩ _ (lv_sub hl [0, 1, 2] rfl) hw
set_option maxRecDepth 100000 in
set_option maxHeartbeats 4000000 in
theorem u_X9_beSign_0 {p : Program} {e : Env} {s : State} {m : MethodId} {args : Array Value} {below : List Frame} {meth : Method} {c : Code} {base : Nat} {D : va_G} {cA : Nat → ClassId} {n : Nat} {l : Launch} {th : Int} {Q : ml_St → Prop} (X : ml_X p s m c meth args D cA cX9_beSign 4 RX9 none) (hn : 214 ≤ n) (hp_th : ml_at n th (19, 8)) (σ : ml_St) (x1 : Int) (x2 : Int) (h_x1 : I32 x1) (h_x2 : I32 x2) (ls : Array Slot) (hl : lv_has ls 4 [(0, .ref (base + (th : Int).toNat)), (1, .int (Int32.ofInt x1)), (2, .int (Int32.ofInt x2))]) (hw : f_X9_beSign_u0 Q th σ x1 x2) : ml_V p l e rm_X9_beSign s m args below meth c (MQ below (ml_Qv base D cA n Q) args s 0 0 (ml_A base)) base D cA 0 0 n n σ (F0 m 0 ls []) := by
  unfold f_X9_beSign_u0 at hw
  refine ml_aload_n (pc := 0) X hl 0 rfl rfl dX9_beSign_0 ?_
  refine ml_iload_n (pc := 1) X hl 2 rfl rfl dX9_beSign_1 ?_
  refine ml_callvV (pc := 2) (rest := []) X [.int (Int32.ofInt x2)] (by decide) rfl hp_th (c_X9_beStraight l base D cA n hn σ th hp_th x2 h_x2 _ hw) cv_X9_41 ⟨rfl, rfl⟩ ⟨by decide, by decide⟩ rfl rfl hl (Nat.le_of_ble_eq_true rfl) ⟨Nat.zero_le _, Nat.zero_le _⟩ dX9_beSign_2 (fun σ1 hw => ?_)
  refine ml_iload_n (pc := 5) X hl 1 rfl rfl dX9_beSign_5 ?_
  refine ml_iconst (pc := 6) X dX9_beSign_6 ?_
  obtain ⟨z2, v2, hw⟩ := hw
  refine ml_idiv (pc := 7) X h_x1 ⟨by decide, by decide⟩ z2 dX9_beSign_7 ?_
  refine ml_topI (pc := 8) (fun y3 e3 => ?_)
  have hw := hw y3 e3
  have q3 : I32 y3 := by rw [e3]; exact v2
  refine ml_istore_n (pc := 8) X rfl hl (by decide) (lst' := [(3, .int (Int32.ofInt y3)), (0, .ref (base + (th : Int).toNat)), (1, .int (Int32.ofInt x1)), (2, .int (Int32.ofInt x2))]) rfl dX9_beSign_8 (fun ls hl => ?_)
  refine ml_aload_n (pc := 9) X hl 1 rfl rfl dX9_beSign_9 ?_
  refine ml_lconst1 (pc := 10) X dX9_beSign_10 ?_
  refine pf_X9_29 (pc := 11) X hp_th ⟨by decide, by decide⟩ dX9_beSign_11 (fun σ4 g4 => ?_)
  have hw := hw σ4 g4
  refine ml_aload_n (pc := 14) X hl 1 rfl rfl dX9_beSign_14 ?_
  refine ml_iload_n (pc := 15) X hl 2 rfl rfl dX9_beSign_15 ?_
  refine ml_iconst (pc := 16) X dX9_beSign_16 ?_
  obtain ⟨z5, v5, hw⟩ := hw
  refine ml_irem (pc := 17) X h_x1 ⟨by decide, by decide⟩ z5 dX9_beSign_17 ?_
  refine ml_if_eq (pc := 18) (tgt := 25) X v5 dX9_beSign_18 (by decide) (fun c6 => ?_) (fun c6 => ?_)
  · have hw := hw.1 c6
    refine ml_iconst (pc := 25) X dX9_beSign_25 ?_
    exact u_X9_beSign_26 X hn hp_th σ4 x2 y3 0 h_x2 q3 ⟨by decide, by decide⟩ _ (lv_sub hl [1, 3, 0] rfl) hw
  · have hw := hw.2 c6
    refine ml_iconst (pc := 21) X dX9_beSign_21 ?_
    refine ml_goto (pc := 22) (tgt := 26) X dX9_beSign_22 (by decide) ?_
    exact u_X9_beSign_26 X hn hp_th σ4 x2 y3 1 h_x2 q3 ⟨by decide, by decide⟩ _ (lv_sub hl [1, 3, 0] rfl) hw
set_option maxRecDepth 100000 in
theorem c_X9_beSign (l : Launch) (base : Nat) (D : va_G) (cA : Nat → ClassId) (n : Nat) (hn : 214 ≤ n) (σ : ml_St) (th : Int) (hp_th : ml_at n th (19, 8)) (x1 : Int) (x2 : Int) (h_x1 : I32 x1) (h_x2 : I32 x2) (Q : ml_St → Prop) (hw : f_X9_beSign σ th x1 x2 Q) : Met l yX9_beSign (Cond.code yX9_beSign cX9_beSign 4 none :: ml_T) rm_X9_beSign (va_Pc [.ref (base + (th : Int).toNat), .int (Int32.ofInt x1), .int (Int32.ofInt x2)] (ml_U base D cA n σ)) (ml_Qv base D cA n Q) 0 0 (ml_A base) := by
  refine Met.ofW (cc := cX9_beSign) (maxL := 4) (ret := none) (by decide) rfl ?_
  intro p e s m args below meth c s₁ B hml hv
  obtain ⟨rfl, hP, hK, hok, hro⟩ := hv
  have X : ml_X p s m c meth _ D cA cX9_beSign 4 RX9 none := ⟨B.exec, B.bytes, hml, findClass_of_methodNamed B.named, fun w hw => atoms_spec (ws := Cond.code yX9_beSign cX9_beSign 4 none :: ml_T) B.pre w (List.mem_cons_of_mem _ hw), hK, B.notSynchronized, B.returns⟩
  have hl := lv_entry [.ref (base + (th : Int).toNat), .int (Int32.ofInt x1), .int (Int32.ofInt x2)] (n := 4) (Nat.le_of_ble_eq_true rfl)
  rw [lg_entry_eq]
  generalize (lg_sl [.ref (base + (th : Int).toNat), .int (Int32.ofInt x1), .int (Int32.ofInt x2)] ++ List.replicate (4 - (lg_sl [.ref (base + (th : Int).toNat), .int (Int32.ofInt x1), .int (Int32.ofInt x2)]).length) Slot.unset).toArray = ls at hl ⊢
  have hl : lv_has ls 4 [(0, .ref (base + (th : Int).toNat)), (1, .int (Int32.ofInt x1)), (2, .int (Int32.ofInt x2))] := hl
  unfold f_X9_beSign at hw
  exact u_X9_beSign_0 X hn hp_th σ x1 x2 h_x1 h_x2 _ (lv_sub hl [0, 1, 2] rfl) hw s.heap [] hP va_S.rf hok hro
theorem dX4_weave_0 : decode cX4_weave 0 = .ok (.iconst 0, 1) := by decide +kernel
theorem dX4_weave_1 : decode cX4_weave 1 = .ok (.istore 6, 2) := by decide +kernel
theorem dX4_weave_3 : decode cX4_weave 3 = .ok (.aload_n 0, 1) := by decide +kernel
theorem dX4_weave_4 : decode cX4_weave 4 = .ok (.getfield 20, 3) := by decide +kernel
theorem dX4_weave_7 : decode cX4_weave 7 = .ok (.iconst 0, 1) := by decide +kernel
theorem dX4_weave_8 : decode cX4_weave 8 = .ok (.aaload, 1) := by decide +kernel
theorem dX4_weave_9 : decode cX4_weave 9 = .ok (.iload 5, 2) := by decide +kernel
theorem dX4_weave_11 : decode cX4_weave 11 = .ok (.invokevirtual 42, 3) := by decide +kernel
theorem dX4_weave_14 : decode cX4_weave 14 = .ok (.aload_n 0, 1) := by decide +kernel
theorem dX4_weave_15 : decode cX4_weave 15 = .ok (.getfield 12, 3) := by decide +kernel
theorem dX4_weave_18 : decode cX4_weave 18 = .ok (.aload_n 1, 1) := by decide +kernel
theorem dX4_weave_19 : decode cX4_weave 19 = .ok (.iload_n 2, 1) := by decide +kernel
theorem dX4_weave_20 : decode cX4_weave 20 = .ok (.invokevirtual 46, 3) := by decide +kernel
theorem dX4_weave_23 : decode cX4_weave 23 = .ok (.iconst 0, 1) := by decide +kernel
theorem dX4_weave_24 : decode cX4_weave 24 = .ok (.istore 7, 2) := by decide +kernel
theorem dX4_weave_26 : decode cX4_weave 26 = .ok (.iload 7, 2) := by decide +kernel
theorem dX4_weave_28 : decode cX4_weave 28 = .ok (.iload_n 2, 1) := by decide +kernel
theorem dX4_weave_29 : decode cX4_weave 29 = .ok (.if_icmp .ge 189, 3) := by decide +kernel
theorem dX4_weave_32 : decode cX4_weave 32 = .ok (.aload_n 0, 1) := by decide +kernel
theorem dX4_weave_33 : decode cX4_weave 33 = .ok (.getfield 12, 3) := by decide +kernel
theorem dX4_weave_36 : decode cX4_weave 36 = .ok (.invokevirtual 50, 3) := by decide +kernel
theorem dX4_weave_39 : decode cX4_weave 39 = .ok (.ifCond .eq 179, 3) := by decide +kernel
theorem dX4_weave_42 : decode cX4_weave 42 = .ok (.aload_n 0, 1) := by decide +kernel
theorem dX4_weave_43 : decode cX4_weave 43 = .ok (.getfield 12, 3) := by decide +kernel
theorem dX4_weave_46 : decode cX4_weave 46 = .ok (.getfield 54, 3) := by decide +kernel
theorem dX4_weave_49 : decode cX4_weave 49 = .ok (.ifCond .ne 29, 3) := by decide +kernel
theorem dX4_weave_52 : decode cX4_weave 52 = .ok (.iload 6, 2) := by decide +kernel
theorem dX4_weave_54 : decode cX4_weave 54 = .ok (.iconst 1, 1) := by decide +kernel
theorem dX4_weave_55 : decode cX4_weave 55 = .ok (.iadd, 1) := by decide +kernel
theorem dX4_weave_56 : decode cX4_weave 56 = .ok (.bipush 6, 2) := by decide +kernel
theorem dX4_weave_58 : decode cX4_weave 58 = .ok (.invokestatic 58, 3) := by decide +kernel
theorem dX4_weave_61 : decode cX4_weave 61 = .ok (.istore 6, 2) := by decide +kernel
theorem dX4_weave_63 : decode cX4_weave 63 = .ok (.aload_n 0, 1) := by decide +kernel
theorem dX4_weave_64 : decode cX4_weave 64 = .ok (.getfield 20, 3) := by decide +kernel
theorem dX4_weave_67 : decode cX4_weave 67 = .ok (.iload 6, 2) := by decide +kernel
theorem dX4_weave_69 : decode cX4_weave 69 = .ok (.aaload, 1) := by decide +kernel
theorem dX4_weave_70 : decode cX4_weave 70 = .ok (.iload 5, 2) := by decide +kernel
theorem dX4_weave_72 : decode cX4_weave 72 = .ok (.invokevirtual 42, 3) := by decide +kernel
theorem dX4_weave_75 : decode cX4_weave 75 = .ok (.goto 137, 3) := by decide +kernel
theorem dX4_weave_78 : decode cX4_weave 78 = .ok (.aload_n 0, 1) := by decide +kernel
theorem dX4_weave_79 : decode cX4_weave 79 = .ok (.getfield 12, 3) := by decide +kernel
theorem dX4_weave_82 : decode cX4_weave 82 = .ok (.getfield 54, 3) := by decide +kernel
theorem dX4_weave_85 : decode cX4_weave 85 = .ok (.iconst 1, 1) := by decide +kernel
theorem dX4_weave_86 : decode cX4_weave 86 = .ok (.if_icmp .ne 30, 3) := by decide +kernel
theorem dX4_weave_89 : decode cX4_weave 89 = .ok (.aload_n 0, 1) := by decide +kernel
theorem dX4_weave_90 : decode cX4_weave 90 = .ok (.getfield 29, 3) := by decide +kernel
theorem dX4_weave_93 : decode cX4_weave 93 = .ok (.aload_n 0, 1) := by decide +kernel
theorem dX4_weave_94 : decode cX4_weave 94 = .ok (.getfield 20, 3) := by decide +kernel
theorem dX4_weave_97 : decode cX4_weave 97 = .ok (.iload 6, 2) := by decide +kernel
theorem dX4_weave_99 : decode cX4_weave 99 = .ok (.aaload, 1) := by decide +kernel
theorem dX4_weave_100 : decode cX4_weave 100 = .ok (.invokevirtual 64, 3) := by decide +kernel
theorem dX4_weave_103 : decode cX4_weave 103 = .ok (.iload 6, 2) := by decide +kernel
theorem dX4_weave_105 : decode cX4_weave 105 = .ok (.iconst 1, 1) := by decide +kernel
theorem dX4_weave_106 : decode cX4_weave 106 = .ok (.isub, 1) := by decide +kernel
theorem dX4_weave_107 : decode cX4_weave 107 = .ok (.iconst 0, 1) := by decide +kernel
theorem dX4_weave_108 : decode cX4_weave 108 = .ok (.invokestatic 68, 3) := by decide +kernel
theorem dX4_weave_111 : decode cX4_weave 111 = .ok (.istore 6, 2) := by decide +kernel
theorem dX4_weave_113 : decode cX4_weave 113 = .ok (.goto 52, 3) := by decide +kernel
theorem dX4_weave_116 : decode cX4_weave 116 = .ok (.aload_n 0, 1) := by decide +kernel
theorem dX4_weave_117 : decode cX4_weave 117 = .ok (.getfield 12, 3) := by decide +kernel
theorem dX4_weave_120 : decode cX4_weave 120 = .ok (.getfield 54, 3) := by decide +kernel
theorem dX4_weave_123 : decode cX4_weave 123 = .ok (.iconst 2, 1) := by decide +kernel
theorem dX4_weave_124 : decode cX4_weave 124 = .ok (.if_icmp .ne 22, 3) := by decide +kernel
theorem dX4_weave_127 : decode cX4_weave 127 = .ok (.aload_n 0, 1) := by decide +kernel
theorem dX4_weave_128 : decode cX4_weave 128 = .ok (.getfield 29, 3) := by decide +kernel
theorem dX4_weave_131 : decode cX4_weave 131 = .ok (.aload_n 0, 1) := by decide +kernel
theorem dX4_weave_132 : decode cX4_weave 132 = .ok (.getfield 12, 3) := by decide +kernel
theorem dX4_weave_135 : decode cX4_weave 135 = .ok (.getfield 71, 3) := by decide +kernel
theorem dX4_weave_138 : decode cX4_weave 138 = .ok (.iload 5, 2) := by decide +kernel
theorem dX4_weave_140 : decode cX4_weave 140 = .ok (.invokevirtual 74, 3) := by decide +kernel
theorem dX4_weave_143 : decode cX4_weave 143 = .ok (.goto 22, 3) := by decide +kernel
theorem dX4_weave_146 : decode cX4_weave 146 = .ok (.aload_n 0, 1) := by decide +kernel
theorem dX4_weave_147 : decode cX4_weave 147 = .ok (.getfield 29, 3) := by decide +kernel
theorem dX4_weave_150 : decode cX4_weave 150 = .ok (.aload_n 3, 1) := by decide +kernel
theorem dX4_weave_151 : decode cX4_weave 151 = .ok (.aload_n 0, 1) := by decide +kernel
theorem dX4_weave_152 : decode cX4_weave 152 = .ok (.getfield 12, 3) := by decide +kernel
theorem dX4_weave_155 : decode cX4_weave 155 = .ok (.getfield 71, 3) := by decide +kernel
theorem dX4_weave_158 : decode cX4_weave 158 = .ok (.aaload, 1) := by decide +kernel
theorem dX4_weave_159 : decode cX4_weave 159 = .ok (.getfield 78, 3) := by decide +kernel
theorem dX4_weave_162 : decode cX4_weave 162 = .ok (.invokevirtual 64, 3) := by decide +kernel
theorem dX4_weave_165 : decode cX4_weave 165 = .ok (.aload_n 0, 1) := by decide +kernel
theorem dX4_weave_166 : decode cX4_weave 166 = .ok (.aload_n 0, 1) := by decide +kernel
theorem dX4_weave_167 : decode cX4_weave 167 = .ok (.getfield 12, 3) := by decide +kernel
theorem dX4_weave_170 : decode cX4_weave 170 = .ok (.getfield 83, 3) := by decide +kernel
theorem dX4_weave_173 : decode cX4_weave 173 = .ok (.iload 5, 2) := by decide +kernel
theorem dX4_weave_175 : decode cX4_weave 175 = .ok (.invokevirtual 86, 3) := by decide +kernel
theorem dX4_weave_178 : decode cX4_weave 178 = .ok (.aload_n 0, 1) := by decide +kernel
theorem dX4_weave_179 : decode cX4_weave 179 = .ok (.getfield 36, 3) := by decide +kernel
theorem dX4_weave_182 : decode cX4_weave 182 = .ok (.aload_n 0, 1) := by decide +kernel
theorem dX4_weave_183 : decode cX4_weave 183 = .ok (.getfield 20, 3) := by decide +kernel
theorem dX4_weave_186 : decode cX4_weave 186 = .ok (.iload 6, 2) := by decide +kernel
theorem dX4_weave_188 : decode cX4_weave 188 = .ok (.aaload, 1) := by decide +kernel
theorem dX4_weave_189 : decode cX4_weave 189 = .ok (.aload_n 0, 1) := by decide +kernel
theorem dX4_weave_190 : decode cX4_weave 190 = .ok (.getfield 29, 3) := by decide +kernel
theorem dX4_weave_193 : decode cX4_weave 193 = .ok (.iload 5, 2) := by decide +kernel
theorem dX4_weave_195 : decode cX4_weave 195 = .ok (.invokevirtual 89, 3) := by decide +kernel
theorem dX4_weave_198 : decode cX4_weave 198 = .ok (.aload_n 0, 1) := by decide +kernel
theorem dX4_weave_199 : decode cX4_weave 199 = .ok (.getfield 20, 3) := by decide +kernel
theorem dX4_weave_202 : decode cX4_weave 202 = .ok (.iload 6, 2) := by decide +kernel
theorem dX4_weave_204 : decode cX4_weave 204 = .ok (.aaload, 1) := by decide +kernel
theorem dX4_weave_205 : decode cX4_weave 205 = .ok (.aload_n 0, 1) := by decide +kernel
theorem dX4_weave_206 : decode cX4_weave 206 = .ok (.getfield 36, 3) := by decide +kernel
theorem dX4_weave_209 : decode cX4_weave 209 = .ok (.invokevirtual 64, 3) := by decide +kernel
theorem dX4_weave_212 : decode cX4_weave 212 = .ok (.iinc 7 1, 3) := by decide +kernel
theorem dX4_weave_215 : decode cX4_weave 215 = .ok (.goto (-189), 3) := by decide +kernel
theorem dX4_weave_218 : decode cX4_weave 218 = .ok (.aload 4, 2) := by decide +kernel
theorem dX4_weave_220 : decode cX4_weave 220 = .ok (.aload_n 0, 1) := by decide +kernel
theorem dX4_weave_221 : decode cX4_weave 221 = .ok (.getfield 20, 3) := by decide +kernel
theorem dX4_weave_224 : decode cX4_weave 224 = .ok (.iconst 0, 1) := by decide +kernel
theorem dX4_weave_225 : decode cX4_weave 225 = .ok (.aaload, 1) := by decide +kernel
theorem dX4_weave_226 : decode cX4_weave 226 = .ok (.invokevirtual 64, 3) := by decide +kernel
theorem dX4_weave_229 : decode cX4_weave 229 = .ok (.return_, 1) := by decide +kernel
def f_X4_weave_u212 (Q : ml_St → Prop) (K26 : ml_St → Int → Int → Int → Int → Prop) (p1 : Int) (p4 : Int) (σ : ml_St) (x2 : Int) (x5 : Int) (x6 : Int) (x7 : Int) : Prop :=
I32 (x7 + 1) ∧
∀ y1 : Int, y1 = x7 + 1 →
K26 σ x2 x5 x6 y1
def f_X4_weave_u165 (Q : ml_St → Prop) (K26 : ml_St → Int → Int → Int → Int → Prop) (p1 : Int) (p4 : Int) (σ : ml_St) (x2 : Int) (x5 : Int) (x6 : Int) (x7 : Int) : Prop :=
∀ _ : I32 (σ 9 5),
f_X4_repeatItem σ (σ 9 5) x5 (fun σ2 =>
(0 : Int) ≤ x6 ∧ (x6 : Int) < 7 ∧
f_X9_beBoth σ2 19 (25 + 3 * x6) 13 x5 (fun σ4 =>
(0 : Int) ≤ x6 ∧ (x6 : Int) < 7 ∧
f_X9_beLike σ4 (25 + 3 * x6) 19 (fun σ6 =>
f_X4_weave_u212 Q K26 p1 p4 σ6 x2 x5 x6 x7)))
def f_X4_weave_u26 (Q : ml_St → Prop) (K218 : ml_St → Prop) (p1 : Int) (p4 : Int) : Nat → ml_St → Int → Int → Int → Int → Prop
| 0, _, _, _, _, _ => False
| N + 1, σ, x2, x5, x6, x7 =>
(x2 ≤ x7 →
K218 σ) ∧
(¬ (x2 ≤ x7) →
f_X3_step σ (fun r2 σ2 => ∀ _ : ml_B r2,
(r2 = 0 →
K218 σ2) ∧
(r2 ≠ 0 →
∀ _ : I32 (σ2 9 3),
(((σ2 9 3) : Int) ≠ 0 →
∀ _ : I32 (σ2 9 3),
(((σ2 9 3) : Int) ≠ 1 →
∀ _ : I32 (σ2 9 3),
(((σ2 9 3) : Int) ≠ 2 →
∀ _ : I32 (σ2 9 4),
(0 : Int) ≤ (σ2 9 4) ∧ ((σ2 9 4) : Int) < 16 ∧
f_X9_beLike σ2 13 ((119 + 6 * (σ2 9 4)) + 2) (fun σ12 =>
f_X4_weave_u165 Q (f_X4_weave_u26 Q K218 p1 p4 N) p1 p4 σ12 x2 x5 x6 x7)) ∧
((σ2 9 3) = 2 →
∀ _ : I32 (σ2 9 4),
f_X9_beSign σ2 13 (σ2 9 4) x5 (fun σ14 =>
f_X4_weave_u165 Q (f_X4_weave_u26 Q K218 p1 p4 N) p1 p4 σ14 x2 x5 x6 x7))) ∧
((σ2 9 3) = 1 →
(0 : Int) ≤ x6 ∧ (x6 : Int) < 7 ∧
f_X9_beLike σ2 13 (25 + 3 * x6) (fun σ16 =>
I32 (x6 - 1) ∧
∀ y18 : Int, y18 = max (x6 - 1) 0 →
f_X4_weave_u165 Q (f_X4_weave_u26 Q K218 p1 p4 N) p1 p4 σ16 x2 x5 y18 x7))) ∧
((σ2 9 3) = 0 →
I32 (x6 + 1) ∧
∀ y20 : Int, y20 = min (x6 + 1) 6 →
(0 : Int) ≤ y20 ∧ (y20 : Int) < 7 ∧
f_X9_beStraight σ2 (25 + 3 * y20) x5 (fun σ22 =>
f_X4_weave_u212 Q (f_X4_weave_u26 Q K218 p1 p4 N) p1 p4 σ22 x2 x5 y20 x7)))))
def f_X4_weave_u218 (Q : ml_St → Prop) (p1 : Int) (p4 : Int) (σ : ml_St) : Prop :=
(0 : Int) ≤ 0 ∧ (0 : Int) < 7 ∧
f_X9_beLike σ p4 (25 + 3 * 0) (fun σ2 =>
Q σ2)
def f_X4_weave_u0 (Q : ml_St → Prop) (p1 : Int) (p4 : Int) (σ : ml_St) (x2 : Int) (x5 : Int) : Prop :=
(0 : Int) ≤ 0 ∧ (0 : Int) < 7 ∧
f_X9_beStraight σ (25 + 3 * 0) x5 (fun σ2 =>
f_X3_begin σ2 p1 x2 (fun σ3 =>
∃ N1, f_X4_weave_u26 Q (f_X4_weave_u218 Q p1 p4) p1 p4 N1 σ3 x2 x5 0 0))
def f_X4_weave (σ : ml_St) (p1 : Int) (p4 : Int) (x2 : Int) (x5 : Int) (Q : ml_St → Prop) : Prop := f_X4_weave_u0 Q p1 p4 σ x2 x5
def rm_X4_weave : Room := { frames := 4, cells := 0, slots := 0, locals := 138 }
set_option maxRecDepth 100000 in
set_option maxHeartbeats 4000000 in
theorem u_X4_weave_212 {p : Program} {e : Env} {s : State} {m : MethodId} {args : Array Value} {below : List Frame} {meth : Method} {c : Code} {base : Nat} {D : va_G} {cA : Nat → ClassId} {n : Nat} {l : Launch} {p1 : Int} {p4 : Int} {Q : ml_St → Prop} {K26 : ml_St → Int → Int → Int → Int → Prop} (X : ml_X p s m c meth args D cA cX4_weave 8 RX4 none) (hn : 214 ≤ n) (hp_p1 : ml_at n p1 (2, 100)) (hp_p4 : ml_at n p4 (19, 8)) (hK26 : ∀ (σ : ml_St) (x2 : Int) (x5 : Int) (x6 : Int) (x7 : Int) (h_x2 : I32 x2) (h_x5 : I32 x5) (h_x6 : I32 x6) (h_x7 : I32 x7) (ls : Array Slot), lv_has ls 8 [(0, .ref (base + (8 : Int).toNat)), (2, .int (Int32.ofInt x2)), (3, .ref (base + (114 : Int).toNat)), (4, .ref (base + (p4 : Int).toNat)), (5, .int (Int32.ofInt x5)), (6, .int (Int32.ofInt x6)), (7, .int (Int32.ofInt x7))] → K26 σ x2 x5 x6 x7 → ml_V p l e rm_X4_weave s m args below meth c (MQ below (ml_Qv base D cA n Q) args s 0 0 (ml_A base)) base D cA 0 0 n n σ (F0 m 26 ls [])) (σ : ml_St) (x2 : Int) (x5 : Int) (x6 : Int) (x7 : Int) (h_x2 : I32 x2) (h_x5 : I32 x5) (h_x6 : I32 x6) (h_x7 : I32 x7) (ls : Array Slot) (hl : lv_has ls 8 [(0, .ref (base + (8 : Int).toNat)), (2, .int (Int32.ofInt x2)), (3, .ref (base + (114 : Int).toNat)), (4, .ref (base + (p4 : Int).toNat)), (5, .int (Int32.ofInt x5)), (6, .int (Int32.ofInt x6)), (7, .int (Int32.ofInt x7))]) (hw : f_X4_weave_u212 Q K26 p1 p4 σ x2 x5 x6 x7) : ml_V p l e rm_X4_weave s m args below meth c (MQ below (ml_Qv base D cA n Q) args s 0 0 (ml_A base)) base D cA 0 0 n n σ (F0 m 212 ls []) := by
  unfold f_X4_weave_u212 at hw
  obtain ⟨v1, hw⟩ := hw
  obtain ⟨y1, e1⟩ : ∃ y : Int, y = x7 + 1 := ⟨_, rfl⟩
  have hw := hw y1 e1
  rw [← e1] at v1
  refine ml_iinc (pc := 212) X e1 hl 6 rfl (by decide) (lst' := [(7, .int (Int32.ofInt y1)), (0, .ref (base + (8 : Int).toNat)), (2, .int (Int32.ofInt x2)), (3, .ref (base + (114 : Int).toNat)), (4, .ref (base + (p4 : Int).toNat)), (5, .int (Int32.ofInt x5)), (6, .int (Int32.ofInt x6))]) rfl dX4_weave_212 (fun ls hl => ?_)
  refine ml_goto (pc := 215) (tgt := 26) X dX4_weave_215 (by decide) ?_
  exact hK26 σ x2 x5 x6 y1 h_x2 h_x5 h_x6 v1 _ (lv_sub hl [1, 2, 3, 4, 5, 6, 0] rfl) hw
set_option maxRecDepth 100000 in
set_option maxHeartbeats 4000000 in
theorem u_X4_weave_165 {p : Program} {e : Env} {s : State} {m : MethodId} {args : Array Value} {below : List Frame} {meth : Method} {c : Code} {base : Nat} {D : va_G} {cA : Nat → ClassId} {n : Nat} {l : Launch} {p1 : Int} {p4 : Int} {Q : ml_St → Prop} {K26 : ml_St → Int → Int → Int → Int → Prop} (X : ml_X p s m c meth args D cA cX4_weave 8 RX4 none) (hn : 214 ≤ n) (hp_p1 : ml_at n p1 (2, 100)) (hp_p4 : ml_at n p4 (19, 8)) (hK26 : ∀ (σ : ml_St) (x2 : Int) (x5 : Int) (x6 : Int) (x7 : Int) (h_x2 : I32 x2) (h_x5 : I32 x5) (h_x6 : I32 x6) (h_x7 : I32 x7) (ls : Array Slot), lv_has ls 8 [(0, .ref (base + (8 : Int).toNat)), (2, .int (Int32.ofInt x2)), (3, .ref (base + (114 : Int).toNat)), (4, .ref (base + (p4 : Int).toNat)), (5, .int (Int32.ofInt x5)), (6, .int (Int32.ofInt x6)), (7, .int (Int32.ofInt x7))] → K26 σ x2 x5 x6 x7 → ml_V p l e rm_X4_weave s m args below meth c (MQ below (ml_Qv base D cA n Q) args s 0 0 (ml_A base)) base D cA 0 0 n n σ (F0 m 26 ls [])) (σ : ml_St) (x2 : Int) (x5 : Int) (x6 : Int) (x7 : Int) (h_x2 : I32 x2) (h_x5 : I32 x5) (h_x6 : I32 x6) (h_x7 : I32 x7) (ls : Array Slot) (hl : lv_has ls 8 [(0, .ref (base + (8 : Int).toNat)), (2, .int (Int32.ofInt x2)), (3, .ref (base + (114 : Int).toNat)), (4, .ref (base + (p4 : Int).toNat)), (5, .int (Int32.ofInt x5)), (6, .int (Int32.ofInt x6)), (7, .int (Int32.ofInt x7))]) (hw : f_X4_weave_u165 Q K26 p1 p4 σ x2 x5 x6 x7) : ml_V p l e rm_X4_weave s m args below meth c (MQ below (ml_Qv base D cA n Q) args s 0 0 (ml_A base)) base D cA 0 0 n n σ (F0 m 165 ls []) := by
  unfold f_X4_weave_u165 at hw
  refine ml_aload_n (pc := 165) X hl 0 rfl rfl dX4_weave_165 ?_
  refine ml_aload_n (pc := 166) X hl 0 rfl rfl dX4_weave_166 ?_
  refine gf_X4_12 (pc := 167) X (ml_c8 hn) dX4_weave_167 ?_
  refine gf_X4_83 (pc := 170) X (ml_c9 hn) dX4_weave_170 (fun r1 => ?_)
  have hw := hw r1
  refine ml_iload (pc := 173) X hl 4 rfl dX4_weave_173 ?_
  refine ml_callvV (pc := 175) (rest := []) X [.int (Int32.ofInt (σ 9 5)), .int (Int32.ofInt x5)] (by decide) rfl (ml_c8 hn) (c_X4_repeatItem l base D cA n hn σ (σ 9 5) x5 r1 h_x5 _ hw) cv_X4_86 ⟨rfl, rfl⟩ ⟨by decide, by decide⟩ rfl rfl hl (Nat.le_of_ble_eq_true rfl) ⟨Nat.zero_le _, Nat.zero_le _⟩ dX4_weave_175 (fun σ2 hw => ?_)
  refine ml_aload_n (pc := 178) X hl 0 rfl rfl dX4_weave_178 ?_
  refine gf_X4_36 (pc := 179) X (ml_c8 hn) dX4_weave_179 ?_
  refine ml_aload_n (pc := 182) X hl 0 rfl rfl dX4_weave_182 ?_
  refine gf_X4_20 (pc := 183) X (ml_c8 hn) dX4_weave_183 ?_
  refine ml_iload (pc := 186) X hl 5 rfl dX4_weave_186 ?_
  obtain ⟨a3, b3, hw⟩ := hw
  refine ml_aald_open (pc := 188) X hn a3 b3 dX4_weave_188 ?_
  refine ml_aload_n (pc := 189) X hl 0 rfl rfl dX4_weave_189 ?_
  refine gf_X4_29 (pc := 190) X (ml_c8 hn) dX4_weave_190 ?_
  refine ml_iload (pc := 193) X hl 4 rfl dX4_weave_193 ?_
  refine ml_callvV (pc := 195) (rest := []) X [.ref (base + ((25 + 3 * x6) : Int).toNat), .ref (base + (13 : Int).toNat), .int (Int32.ofInt x5)] (by decide) rfl (ml_c19 hn) (c_X9_beBoth l base D cA n hn σ2 19 (25 + 3 * x6) 13 (ml_c19 hn) (ml_at_open hn a3 b3) (ml_c13 hn) x5 h_x5 _ hw) cv_X4_89 ⟨rfl, rfl⟩ ⟨by decide, by decide⟩ rfl rfl hl (Nat.le_of_ble_eq_true rfl) ⟨Nat.zero_le _, Nat.zero_le _⟩ dX4_weave_195 (fun σ4 hw => ?_)
  refine ml_aload_n (pc := 198) X hl 0 rfl rfl dX4_weave_198 ?_
  refine gf_X4_20 (pc := 199) X (ml_c8 hn) dX4_weave_199 ?_
  refine ml_iload (pc := 202) X hl 5 rfl dX4_weave_202 ?_
  obtain ⟨a5, b5, hw⟩ := hw
  refine ml_aald_open (pc := 204) X hn a5 b5 dX4_weave_204 ?_
  refine ml_aload_n (pc := 205) X hl 0 rfl rfl dX4_weave_205 ?_
  refine gf_X4_36 (pc := 206) X (ml_c8 hn) dX4_weave_206 ?_
  refine ml_callvV (pc := 209) (rest := []) X [.ref (base + (19 : Int).toNat)] (by decide) rfl (ml_at_open hn a5 b5) (c_X9_beLike l base D cA n hn σ4 (25 + 3 * x6) 19 (ml_at_open hn a5 b5) (ml_c19 hn) _ hw) cv_X4_64 ⟨rfl, rfl⟩ ⟨by decide, by decide⟩ rfl rfl hl (Nat.le_of_ble_eq_true rfl) ⟨Nat.zero_le _, Nat.zero_le _⟩ dX4_weave_209 (fun σ6 hw => ?_)
  exact u_X4_weave_212 X hn hp_p1 hp_p4 hK26 σ6 x2 x5 x6 x7 h_x2 h_x5 h_x6 h_x7 _ (lv_sub hl [0, 1, 2, 3, 4, 5, 6] rfl) hw
set_option maxRecDepth 100000 in
set_option maxHeartbeats 4000000 in
theorem u_X4_weave_26 {p : Program} {e : Env} {s : State} {m : MethodId} {args : Array Value} {below : List Frame} {meth : Method} {c : Code} {base : Nat} {D : va_G} {cA : Nat → ClassId} {n : Nat} {l : Launch} {p1 : Int} {p4 : Int} {Q : ml_St → Prop} {K218 : ml_St → Prop} (X : ml_X p s m c meth args D cA cX4_weave 8 RX4 none) (hn : 214 ≤ n) (hp_p1 : ml_at n p1 (2, 100)) (hp_p4 : ml_at n p4 (19, 8)) (hK218 : ∀ (σ : ml_St) (ls : Array Slot), lv_has ls 8 [(0, .ref (base + (8 : Int).toNat)), (4, .ref (base + (p4 : Int).toNat))] → K218 σ → ml_V p l e rm_X4_weave s m args below meth c (MQ below (ml_Qv base D cA n Q) args s 0 0 (ml_A base)) base D cA 0 0 n n σ (F0 m 218 ls [])) : ∀ (N : Nat) (σ : ml_St) (x2 : Int) (x5 : Int) (x6 : Int) (x7 : Int) (h_x2 : I32 x2) (h_x5 : I32 x5) (h_x6 : I32 x6) (h_x7 : I32 x7) (ls : Array Slot), lv_has ls 8 [(0, .ref (base + (8 : Int).toNat)), (2, .int (Int32.ofInt x2)), (3, .ref (base + (114 : Int).toNat)), (4, .ref (base + (p4 : Int).toNat)), (5, .int (Int32.ofInt x5)), (6, .int (Int32.ofInt x6)), (7, .int (Int32.ofInt x7))] → f_X4_weave_u26 Q K218 p1 p4 N σ x2 x5 x6 x7 → ml_V p l e rm_X4_weave s m args below meth c (MQ below (ml_Qv base D cA n Q) args s 0 0 (ml_A base)) base D cA 0 0 n n σ (F0 m 26 ls []) := by
  intro N
  induction N with
  | zero => intro σ x2 x5 x6 x7 h_x2 h_x5 h_x6 h_x7 ls hl hw; exact False.elim hw
  | succ N ih =>
    intro σ x2 x5 x6 x7 h_x2 h_x5 h_x6 h_x7 ls hl hw
    unfold f_X4_weave_u26 at hw
    refine ml_iload (pc := 26) X hl 6 rfl dX4_weave_26 ?_
    refine ml_iload_n (pc := 28) X hl 1 rfl rfl dX4_weave_28 ?_
    refine ml_icmp_ge (pc := 29) (tgt := 218) X h_x7 h_x2 dX4_weave_29 (by decide) (fun c1 => ?_) (fun c1 => ?_)
    · have hw := hw.1 c1
      exact hK218 σ   _ (lv_sub hl [0, 3] rfl) hw
    · have hw := hw.2 c1
      refine ml_aload_n (pc := 32) X hl 0 rfl rfl dX4_weave_32 ?_
      refine gf_X4_12 (pc := 33) X (ml_c8 hn) dX4_weave_33 ?_
      refine ml_callzV (pc := 36) (rest := []) X [] (by decide) rfl (ml_c9 hn) (c_X3_step l base D cA n hn σ _ hw) cv_X4_50 ⟨rfl, rfl⟩ ⟨by decide, by decide⟩ rfl rfl hl (Nat.le_of_ble_eq_true rfl) ⟨Nat.zero_le _, Nat.zero_le _⟩ dX4_weave_36 (fun r2 σ2 t2 hw => ?_)
      have hw := hw t2
      refine ml_if_eq (pc := 39) (tgt := 218) X t2.i dX4_weave_39 (by decide) (fun c3 => ?_) (fun c3 => ?_)
      · have hw := hw.1 c3
        exact hK218 σ2   _ (lv_sub hl [0, 3] rfl) hw
      · have hw := hw.2 c3
        refine ml_aload_n (pc := 42) X hl 0 rfl rfl dX4_weave_42 ?_
        refine gf_X4_12 (pc := 43) X (ml_c8 hn) dX4_weave_43 ?_
        refine gf_X4_54 (pc := 46) X (ml_c9 hn) dX4_weave_46 (fun r4 => ?_)
        have hw := hw r4
        refine ml_if_ne (pc := 49) (tgt := 78) X r4 dX4_weave_49 (by decide) (fun c5 => ?_) (fun c5 => ?_)
        · have hw := hw.1 c5
          refine ml_aload_n (pc := 78) X hl 0 rfl rfl dX4_weave_78 ?_
          refine gf_X4_12 (pc := 79) X (ml_c8 hn) dX4_weave_79 ?_
          refine gf_X4_54 (pc := 82) X (ml_c9 hn) dX4_weave_82 (fun r6 => ?_)
          have hw := hw r6
          refine ml_iconst (pc := 85) X dX4_weave_85 ?_
          refine ml_icmp_ne (pc := 86) (tgt := 116) X r6 ⟨by decide, by decide⟩ dX4_weave_86 (by decide) (fun c7 => ?_) (fun c7 => ?_)
          · have hw := hw.1 c7
            refine ml_aload_n (pc := 116) X hl 0 rfl rfl dX4_weave_116 ?_
            refine gf_X4_12 (pc := 117) X (ml_c8 hn) dX4_weave_117 ?_
            refine gf_X4_54 (pc := 120) X (ml_c9 hn) dX4_weave_120 (fun r8 => ?_)
            have hw := hw r8
            refine ml_iconst (pc := 123) X dX4_weave_123 ?_
            refine ml_icmp_ne (pc := 124) (tgt := 146) X r8 ⟨by decide, by decide⟩ dX4_weave_124 (by decide) (fun c9 => ?_) (fun c9 => ?_)
            · have hw := hw.1 c9
              refine ml_aload_n (pc := 146) X hl 0 rfl rfl dX4_weave_146 ?_
              refine gf_X4_29 (pc := 147) X (ml_c8 hn) dX4_weave_147 ?_
              refine ml_aload_n (pc := 150) X hl 2 rfl rfl dX4_weave_150 ?_
              refine ml_aload_n (pc := 151) X hl 0 rfl rfl dX4_weave_151 ?_
              refine gf_X4_12 (pc := 152) X (ml_c8 hn) dX4_weave_152 ?_
              refine gf_X4_71 (pc := 155) X (ml_c9 hn) dX4_weave_155 (fun r10 => ?_)
              have hw := hw r10
              obtain ⟨a11, b11, hw⟩ := hw
              refine ml_aald_words (pc := 158) X hn a11 b11 dX4_weave_158 ?_
              refine gf_X4_78 (pc := 159) X (ml_at_words hn a11 b11) dX4_weave_159 ?_
              refine ml_callvV (pc := 162) (rest := []) X [.ref (base + (((119 + 6 * (σ2 9 4)) + 2) : Int).toNat)] (by decide) rfl (ml_c13 hn) (c_X9_beLike l base D cA n hn σ2 13 ((119 + 6 * (σ2 9 4)) + 2) (ml_c13 hn) (ml_r20_2 hn (ml_at_words hn a11 b11)) _ hw) cv_X4_64 ⟨rfl, rfl⟩ ⟨by decide, by decide⟩ rfl rfl hl (Nat.le_of_ble_eq_true rfl) ⟨Nat.zero_le _, Nat.zero_le _⟩ dX4_weave_162 (fun σ12 hw => ?_)
              exact u_X4_weave_165 X hn hp_p1 hp_p4 ih σ12 x2 x5 x6 x7 h_x2 h_x5 h_x6 h_x7 _ (lv_sub hl [0, 1, 2, 3, 4, 5, 6] rfl) hw
            · have hw := hw.2 c9
              refine ml_aload_n (pc := 127) X hl 0 rfl rfl dX4_weave_127 ?_
              refine gf_X4_29 (pc := 128) X (ml_c8 hn) dX4_weave_128 ?_
              refine ml_aload_n (pc := 131) X hl 0 rfl rfl dX4_weave_131 ?_
              refine gf_X4_12 (pc := 132) X (ml_c8 hn) dX4_weave_132 ?_
              refine gf_X4_71 (pc := 135) X (ml_c9 hn) dX4_weave_135 (fun r13 => ?_)
              have hw := hw r13
              refine ml_iload (pc := 138) X hl 4 rfl dX4_weave_138 ?_
              refine ml_callvV (pc := 140) (rest := []) X [.int (Int32.ofInt (σ2 9 4)), .int (Int32.ofInt x5)] (by decide) rfl (ml_c13 hn) (c_X9_beSign l base D cA n hn σ2 13 (ml_c13 hn) (σ2 9 4) x5 r13 h_x5 _ hw) cv_X4_74 ⟨rfl, rfl⟩ ⟨by decide, by decide⟩ rfl rfl hl (Nat.le_of_ble_eq_true rfl) ⟨Nat.zero_le _, Nat.zero_le _⟩ dX4_weave_140 (fun σ14 hw => ?_)
              refine ml_goto (pc := 143) (tgt := 165) X dX4_weave_143 (by decide) ?_
              exact u_X4_weave_165 X hn hp_p1 hp_p4 ih σ14 x2 x5 x6 x7 h_x2 h_x5 h_x6 h_x7 _ (lv_sub hl [0, 1, 2, 3, 4, 5, 6] rfl) hw
          · have hw := hw.2 c7
            refine ml_aload_n (pc := 89) X hl 0 rfl rfl dX4_weave_89 ?_
            refine gf_X4_29 (pc := 90) X (ml_c8 hn) dX4_weave_90 ?_
            refine ml_aload_n (pc := 93) X hl 0 rfl rfl dX4_weave_93 ?_
            refine gf_X4_20 (pc := 94) X (ml_c8 hn) dX4_weave_94 ?_
            refine ml_iload (pc := 97) X hl 5 rfl dX4_weave_97 ?_
            obtain ⟨a15, b15, hw⟩ := hw
            refine ml_aald_open (pc := 99) X hn a15 b15 dX4_weave_99 ?_
            refine ml_callvV (pc := 100) (rest := []) X [.ref (base + ((25 + 3 * x6) : Int).toNat)] (by decide) rfl (ml_c13 hn) (c_X9_beLike l base D cA n hn σ2 13 (25 + 3 * x6) (ml_c13 hn) (ml_at_open hn a15 b15) _ hw) cv_X4_64 ⟨rfl, rfl⟩ ⟨by decide, by decide⟩ rfl rfl hl (Nat.le_of_ble_eq_true rfl) ⟨Nat.zero_le _, Nat.zero_le _⟩ dX4_weave_100 (fun σ16 hw => ?_)
            refine ml_iload (pc := 103) X hl 5 rfl dX4_weave_103 ?_
            refine ml_iconst (pc := 105) X dX4_weave_105 ?_
            obtain ⟨v17, hw⟩ := hw
            refine ml_isub (pc := 106) X dX4_weave_106 ?_
            refine ml_iconst (pc := 107) X dX4_weave_107 ?_
            refine ml_mmax (pc := 108) X ⟨tw_3_44, tw_3_45, tw_1_14, tw_3_46⟩ v17 ⟨by decide, by decide⟩ ⟨Nat.zero_le _, Nat.zero_le _⟩ hl (Nat.le_of_ble_eq_true rfl) ⟨by decide, by decide⟩ dX4_weave_108 ?_
            refine ml_topI (pc := 111) (fun y18 e18 => ?_)
            have hw := hw y18 e18
            have q18 : I32 y18 := by rw [e18]; exact (ml_max_r v17 ⟨by decide, by decide⟩)
            refine ml_istore (pc := 111) X hl (by decide) (lst' := [(6, .int (Int32.ofInt y18)), (0, .ref (base + (8 : Int).toNat)), (2, .int (Int32.ofInt x2)), (3, .ref (base + (114 : Int).toNat)), (4, .ref (base + (p4 : Int).toNat)), (5, .int (Int32.ofInt x5)), (7, .int (Int32.ofInt x7))]) rfl dX4_weave_111 (fun ls hl => ?_)
            refine ml_goto (pc := 113) (tgt := 165) X dX4_weave_113 (by decide) ?_
            exact u_X4_weave_165 X hn hp_p1 hp_p4 ih σ16 x2 x5 y18 x7 h_x2 h_x5 q18 h_x7 _ (lv_sub hl [1, 2, 3, 4, 5, 0, 6] rfl) hw
        · have hw := hw.2 c5
          refine ml_iload (pc := 52) X hl 5 rfl dX4_weave_52 ?_
          refine ml_iconst (pc := 54) X dX4_weave_54 ?_
          obtain ⟨v19, hw⟩ := hw
          refine ml_iadd (pc := 55) X dX4_weave_55 ?_
          refine ml_bipush (pc := 56) X dX4_weave_56 (by decide) ?_
          refine ml_mmin (pc := 58) X ⟨tw_3_34, tw_3_35, tw_1_14, tw_3_36⟩ v19 ⟨by decide, by decide⟩ ⟨Nat.zero_le _, Nat.zero_le _⟩ hl (Nat.le_of_ble_eq_true rfl) ⟨by decide, by decide⟩ dX4_weave_58 ?_
          refine ml_topI (pc := 61) (fun y20 e20 => ?_)
          have hw := hw y20 e20
          have q20 : I32 y20 := by rw [e20]; exact (ml_min_r v19 ⟨by decide, by decide⟩)
          refine ml_istore (pc := 61) X hl (by decide) (lst' := [(6, .int (Int32.ofInt y20)), (0, .ref (base + (8 : Int).toNat)), (2, .int (Int32.ofInt x2)), (3, .ref (base + (114 : Int).toNat)), (4, .ref (base + (p4 : Int).toNat)), (5, .int (Int32.ofInt x5)), (7, .int (Int32.ofInt x7))]) rfl dX4_weave_61 (fun ls hl => ?_)
          refine ml_aload_n (pc := 63) X hl 1 rfl rfl dX4_weave_63 ?_
          refine gf_X4_20 (pc := 64) X (ml_c8 hn) dX4_weave_64 ?_
          refine ml_iload (pc := 67) X hl 0 rfl dX4_weave_67 ?_
          obtain ⟨a21, b21, hw⟩ := hw
          refine ml_aald_open (pc := 69) X hn a21 b21 dX4_weave_69 ?_
          refine ml_iload (pc := 70) X hl 5 rfl dX4_weave_70 ?_
          refine ml_callvV (pc := 72) (rest := []) X [.int (Int32.ofInt x5)] (by decide) rfl (ml_at_open hn a21 b21) (c_X9_beStraight l base D cA n hn σ2 (25 + 3 * y20) (ml_at_open hn a21 b21) x5 h_x5 _ hw) cv_X4_42 ⟨rfl, rfl⟩ ⟨by decide, by decide⟩ rfl rfl hl (Nat.le_of_ble_eq_true rfl) ⟨Nat.zero_le _, Nat.zero_le _⟩ dX4_weave_72 (fun σ22 hw => ?_)
          refine ml_goto (pc := 75) (tgt := 212) X dX4_weave_75 (by decide) ?_
          exact u_X4_weave_212 X hn hp_p1 hp_p4 ih σ22 x2 x5 y20 x7 h_x2 h_x5 q20 h_x7 _ (lv_sub hl [1, 2, 3, 4, 5, 0, 6] rfl) hw
set_option maxRecDepth 100000 in
set_option maxHeartbeats 4000000 in
theorem u_X4_weave_218 {p : Program} {e : Env} {s : State} {m : MethodId} {args : Array Value} {below : List Frame} {meth : Method} {c : Code} {base : Nat} {D : va_G} {cA : Nat → ClassId} {n : Nat} {l : Launch} {p1 : Int} {p4 : Int} {Q : ml_St → Prop} (X : ml_X p s m c meth args D cA cX4_weave 8 RX4 none) (hn : 214 ≤ n) (hp_p1 : ml_at n p1 (2, 100)) (hp_p4 : ml_at n p4 (19, 8)) (σ : ml_St) (ls : Array Slot) (hl : lv_has ls 8 [(0, .ref (base + (8 : Int).toNat)), (4, .ref (base + (p4 : Int).toNat))]) (hw : f_X4_weave_u218 Q p1 p4 σ) : ml_V p l e rm_X4_weave s m args below meth c (MQ below (ml_Qv base D cA n Q) args s 0 0 (ml_A base)) base D cA 0 0 n n σ (F0 m 218 ls []) := by
  unfold f_X4_weave_u218 at hw
  refine ml_aload (pc := 218) X hl 1 rfl dX4_weave_218 ?_
  refine ml_aload_n (pc := 220) X hl 0 rfl rfl dX4_weave_220 ?_
  refine gf_X4_20 (pc := 221) X (ml_c8 hn) dX4_weave_221 ?_
  refine ml_iconst (pc := 224) X dX4_weave_224 ?_
  obtain ⟨a1, b1, hw⟩ := hw
  refine ml_aald_open (pc := 225) X hn a1 b1 dX4_weave_225 ?_
  refine ml_callvV (pc := 226) (rest := []) X [.ref (base + ((25 + 3 * 0) : Int).toNat)] (by decide) rfl hp_p4 (c_X9_beLike l base D cA n hn σ p4 (25 + 3 * 0) hp_p4 (ml_at_open hn a1 b1) _ hw) cv_X4_64 ⟨rfl, rfl⟩ ⟨by decide, by decide⟩ rfl rfl hl (Nat.le_of_ble_eq_true rfl) ⟨Nat.zero_le _, Nat.zero_le _⟩ dX4_weave_226 (fun σ2 hw => ?_)
  exact ml_vret (pc := 229) X hw dX4_weave_229
set_option maxRecDepth 100000 in
set_option maxHeartbeats 4000000 in
theorem u_X4_weave_0 {p : Program} {e : Env} {s : State} {m : MethodId} {args : Array Value} {below : List Frame} {meth : Method} {c : Code} {base : Nat} {D : va_G} {cA : Nat → ClassId} {n : Nat} {l : Launch} {p1 : Int} {p4 : Int} {Q : ml_St → Prop} (X : ml_X p s m c meth args D cA cX4_weave 8 RX4 none) (hn : 214 ≤ n) (hp_p1 : ml_at n p1 (2, 100)) (hp_p4 : ml_at n p4 (19, 8)) (σ : ml_St) (x2 : Int) (x5 : Int) (h_x2 : I32 x2) (h_x5 : I32 x5) (ls : Array Slot) (hl : lv_has ls 8 [(0, .ref (base + (8 : Int).toNat)), (1, .ref (base + (p1 : Int).toNat)), (2, .int (Int32.ofInt x2)), (3, .ref (base + (114 : Int).toNat)), (4, .ref (base + (p4 : Int).toNat)), (5, .int (Int32.ofInt x5))]) (hw : f_X4_weave_u0 Q p1 p4 σ x2 x5) : ml_V p l e rm_X4_weave s m args below meth c (MQ below (ml_Qv base D cA n Q) args s 0 0 (ml_A base)) base D cA 0 0 n n σ (F0 m 0 ls []) := by
  unfold f_X4_weave_u0 at hw
  refine ml_iconst (pc := 0) X dX4_weave_0 ?_
  refine ml_istore (pc := 1) X hl (by decide) (lst' := [(6, .int (Int32.ofInt 0)), (0, .ref (base + (8 : Int).toNat)), (1, .ref (base + (p1 : Int).toNat)), (2, .int (Int32.ofInt x2)), (3, .ref (base + (114 : Int).toNat)), (4, .ref (base + (p4 : Int).toNat)), (5, .int (Int32.ofInt x5))]) rfl dX4_weave_1 (fun ls hl => ?_)
  refine ml_aload_n (pc := 3) X hl 1 rfl rfl dX4_weave_3 ?_
  refine gf_X4_20 (pc := 4) X (ml_c8 hn) dX4_weave_4 ?_
  refine ml_iconst (pc := 7) X dX4_weave_7 ?_
  obtain ⟨a1, b1, hw⟩ := hw
  refine ml_aald_open (pc := 8) X hn a1 b1 dX4_weave_8 ?_
  refine ml_iload (pc := 9) X hl 6 rfl dX4_weave_9 ?_
  refine ml_callvV (pc := 11) (rest := []) X [.int (Int32.ofInt x5)] (by decide) rfl (ml_at_open hn a1 b1) (c_X9_beStraight l base D cA n hn σ (25 + 3 * 0) (ml_at_open hn a1 b1) x5 h_x5 _ hw) cv_X4_42 ⟨rfl, rfl⟩ ⟨by decide, by decide⟩ rfl rfl hl (Nat.le_of_ble_eq_true rfl) ⟨Nat.zero_le _, Nat.zero_le _⟩ dX4_weave_11 (fun σ2 hw => ?_)
  refine ml_aload_n (pc := 14) X hl 1 rfl rfl dX4_weave_14 ?_
  refine gf_X4_12 (pc := 15) X (ml_c8 hn) dX4_weave_15 ?_
  refine ml_aload_n (pc := 18) X hl 2 rfl rfl dX4_weave_18 ?_
  refine ml_iload_n (pc := 19) X hl 3 rfl rfl dX4_weave_19 ?_
  refine ml_callvV (pc := 20) (rest := []) X [.ref (base + (p1 : Int).toNat), .int (Int32.ofInt x2)] (by decide) rfl (ml_c9 hn) (c_X3_begin l base D cA n hn σ2 p1 hp_p1 x2 h_x2 _ hw) cv_X4_46 ⟨rfl, rfl⟩ ⟨by decide, by decide⟩ rfl rfl hl (Nat.le_of_ble_eq_true rfl) ⟨Nat.zero_le _, Nat.zero_le _⟩ dX4_weave_20 (fun σ3 hw => ?_)
  refine ml_iconst (pc := 23) X dX4_weave_23 ?_
  refine ml_istore (pc := 24) X hl (by decide) (lst' := [(7, .int (Int32.ofInt 0)), (6, .int (Int32.ofInt 0)), (0, .ref (base + (8 : Int).toNat)), (1, .ref (base + (p1 : Int).toNat)), (2, .int (Int32.ofInt x2)), (3, .ref (base + (114 : Int).toNat)), (4, .ref (base + (p4 : Int).toNat)), (5, .int (Int32.ofInt x5))]) rfl dX4_weave_24 (fun ls hl => ?_)
  obtain ⟨N0, hw⟩ := hw
  exact u_X4_weave_26 X hn hp_p1 hp_p4 (fun σ   ls hl hw => u_X4_weave_218 X hn hp_p1 hp_p4 σ   ls hl hw) N0 σ3 x2 x5 0 0 h_x2 h_x5 ⟨by decide, by decide⟩ ⟨by decide, by decide⟩ _ (lv_sub hl [2, 4, 5, 6, 7, 1, 0] rfl) hw
set_option maxRecDepth 100000 in
theorem c_X4_weave (l : Launch) (base : Nat) (D : va_G) (cA : Nat → ClassId) (n : Nat) (hn : 214 ≤ n) (σ : ml_St) (p1 : Int) (p4 : Int) (hp_p1 : ml_at n p1 (2, 100)) (hp_p4 : ml_at n p4 (19, 8)) (x2 : Int) (x5 : Int) (h_x2 : I32 x2) (h_x5 : I32 x5) (Q : ml_St → Prop) (hw : f_X4_weave σ p1 p4 x2 x5 Q) : Met l yX4_weave (Cond.code yX4_weave cX4_weave 8 none :: ml_T) rm_X4_weave (va_Pc [.ref (base + (8 : Int).toNat), .ref (base + (p1 : Int).toNat), .int (Int32.ofInt x2), .ref (base + (114 : Int).toNat), .ref (base + (p4 : Int).toNat), .int (Int32.ofInt x5)] (ml_U base D cA n σ)) (ml_Qv base D cA n Q) 0 0 (ml_A base) := by
  refine Met.ofW (cc := cX4_weave) (maxL := 8) (ret := none) (by decide) rfl ?_
  intro p e s m args below meth c s₁ B hml hv
  obtain ⟨rfl, hP, hK, hok, hro⟩ := hv
  have X : ml_X p s m c meth _ D cA cX4_weave 8 RX4 none := ⟨B.exec, B.bytes, hml, findClass_of_methodNamed B.named, fun w hw => atoms_spec (ws := Cond.code yX4_weave cX4_weave 8 none :: ml_T) B.pre w (List.mem_cons_of_mem _ hw), hK, B.notSynchronized, B.returns⟩
  have hl := lv_entry [.ref (base + (8 : Int).toNat), .ref (base + (p1 : Int).toNat), .int (Int32.ofInt x2), .ref (base + (114 : Int).toNat), .ref (base + (p4 : Int).toNat), .int (Int32.ofInt x5)] (n := 8) (Nat.le_of_ble_eq_true rfl)
  rw [lg_entry_eq]
  generalize (lg_sl [.ref (base + (8 : Int).toNat), .ref (base + (p1 : Int).toNat), .int (Int32.ofInt x2), .ref (base + (114 : Int).toNat), .ref (base + (p4 : Int).toNat), .int (Int32.ofInt x5)] ++ List.replicate (8 - (lg_sl [.ref (base + (8 : Int).toNat), .ref (base + (p1 : Int).toNat), .int (Int32.ofInt x2), .ref (base + (114 : Int).toNat), .ref (base + (p4 : Int).toNat), .int (Int32.ofInt x5)]).length) Slot.unset).toArray = ls at hl ⊢
  have hl : lv_has ls 8 [(0, .ref (base + (8 : Int).toNat)), (1, .ref (base + (p1 : Int).toNat)), (2, .int (Int32.ofInt x2)), (3, .ref (base + (114 : Int).toNat)), (4, .ref (base + (p4 : Int).toNat)), (5, .int (Int32.ofInt x5))] := hl
  unfold f_X4_weave at hw
  exact u_X4_weave_0 X hn hp_p1 hp_p4 σ x2 x5 h_x2 h_x5 _ (lv_sub hl [0, 1, 2, 3, 4, 5] rfl) hw s.heap [] hP va_S.rf hok hro
theorem dX7_forget_0 : decode cX7_forget 0 = .ok (.aload_n 0, 1) := by decide +kernel
theorem dX7_forget_1 : decode cX7_forget 1 = .ok (.iconst 0, 1) := by decide +kernel
theorem dX7_forget_2 : decode cX7_forget 2 = .ok (.putfield 11, 3) := by decide +kernel
theorem dX7_forget_5 : decode cX7_forget 5 = .ok (.return_, 1) := by decide +kernel
def f_X7_forget_u0 (Q : ml_St → Prop) (σ : ml_St) : Prop :=
∀ σ1, σ1 = ml_up σ 55 0 0 →
Q σ1
def f_X7_forget (σ : ml_St) (Q : ml_St → Prop) : Prop := f_X7_forget_u0 Q σ
def rm_X7_forget : Room := { frames := 0, cells := 0, slots := 0, locals := 0 }
set_option maxRecDepth 100000 in
set_option maxHeartbeats 4000000 in
theorem u_X7_forget_0 {p : Program} {e : Env} {s : State} {m : MethodId} {args : Array Value} {below : List Frame} {meth : Method} {c : Code} {base : Nat} {D : va_G} {cA : Nat → ClassId} {n : Nat} {l : Launch} {Q : ml_St → Prop} (X : ml_X p s m c meth args D cA cX7_forget 1 RX7 none) (hn : 214 ≤ n) (σ : ml_St) (ls : Array Slot) (hl : lv_has ls 1 [(0, .ref (base + (55 : Int).toNat))]) (hw : f_X7_forget_u0 Q σ) : ml_V p l e rm_X7_forget s m args below meth c (MQ below (ml_Qv base D cA n Q) args s 0 0 (ml_A base)) base D cA 0 0 n n σ (F0 m 0 ls []) := by
  unfold f_X7_forget_u0 at hw
  refine ml_aload_n (pc := 0) X hl 0 rfl rfl dX7_forget_0 ?_
  refine ml_iconst (pc := 1) X dX7_forget_1 ?_
  refine pf_X7_11 (pc := 2) X (ml_c55 hn) ⟨by decide, by decide⟩ dX7_forget_2 (fun σ1 g1 => ?_)
  have hw := hw σ1 g1
  exact ml_vret (pc := 5) X hw dX7_forget_5
set_option maxRecDepth 100000 in
theorem c_X7_forget (l : Launch) (base : Nat) (D : va_G) (cA : Nat → ClassId) (n : Nat) (hn : 214 ≤ n) (σ : ml_St) (Q : ml_St → Prop) (hw : f_X7_forget σ Q) : Met l yX7_forget (Cond.code yX7_forget cX7_forget 1 none :: ml_T) rm_X7_forget (va_Pc [.ref (base + (55 : Int).toNat)] (ml_U base D cA n σ)) (ml_Qv base D cA n Q) 0 0 (ml_A base) := by
  refine Met.ofW (cc := cX7_forget) (maxL := 1) (ret := none) (by decide) rfl ?_
  intro p e s m args below meth c s₁ B hml hv
  obtain ⟨rfl, hP, hK, hok, hro⟩ := hv
  have X : ml_X p s m c meth _ D cA cX7_forget 1 RX7 none := ⟨B.exec, B.bytes, hml, findClass_of_methodNamed B.named, fun w hw => atoms_spec (ws := Cond.code yX7_forget cX7_forget 1 none :: ml_T) B.pre w (List.mem_cons_of_mem _ hw), hK, B.notSynchronized, B.returns⟩
  have hl := lv_entry [.ref (base + (55 : Int).toNat)] (n := 1) (Nat.le_of_ble_eq_true rfl)
  rw [lg_entry_eq]
  generalize (lg_sl [.ref (base + (55 : Int).toNat)] ++ List.replicate (1 - (lg_sl [.ref (base + (55 : Int).toNat)]).length) Slot.unset).toArray = ls at hl ⊢
  have hl : lv_has ls 1 [(0, .ref (base + (55 : Int).toNat))] := hl
  unfold f_X7_forget at hw
  exact u_X7_forget_0 X hn σ  _ (lv_sub hl [0] rfl) hw s.heap [] hP va_S.rf hok hro
theorem dX11_weaveFrom_0 : decode cX11_weaveFrom 0 = .ok (.iload_n 1, 1) := by decide +kernel
theorem dX11_weaveFrom_1 : decode cX11_weaveFrom 1 = .ok (.istore_n 2, 1) := by decide +kernel
theorem dX11_weaveFrom_2 : decode cX11_weaveFrom 2 = .ok (.iload_n 2, 1) := by decide +kernel
theorem dX11_weaveFrom_3 : decode cX11_weaveFrom 3 = .ok (.aload_n 0, 1) := by decide +kernel
theorem dX11_weaveFrom_4 : decode cX11_weaveFrom 4 = .ok (.getfield 86, 3) := by decide +kernel
theorem dX11_weaveFrom_7 : decode cX11_weaveFrom 7 = .ok (.if_icmp .ge 48, 3) := by decide +kernel
theorem dX11_weaveFrom_10 : decode cX11_weaveFrom 10 = .ok (.aload_n 0, 1) := by decide +kernel
theorem dX11_weaveFrom_11 : decode cX11_weaveFrom 11 = .ok (.getfield 67, 3) := by decide +kernel
theorem dX11_weaveFrom_14 : decode cX11_weaveFrom 14 = .ok (.iload_n 2, 1) := by decide +kernel
theorem dX11_weaveFrom_15 : decode cX11_weaveFrom 15 = .ok (.aaload, 1) := by decide +kernel
theorem dX11_weaveFrom_16 : decode cX11_weaveFrom 16 = .ok (.astore_n 3, 1) := by decide +kernel
theorem dX11_weaveFrom_17 : decode cX11_weaveFrom 17 = .ok (.aload_n 0, 1) := by decide +kernel
theorem dX11_weaveFrom_18 : decode cX11_weaveFrom 18 = .ok (.getfield 33, 3) := by decide +kernel
theorem dX11_weaveFrom_21 : decode cX11_weaveFrom 21 = .ok (.aload_n 3, 1) := by decide +kernel
theorem dX11_weaveFrom_22 : decode cX11_weaveFrom 22 = .ok (.getfield 304, 3) := by decide +kernel
theorem dX11_weaveFrom_25 : decode cX11_weaveFrom 25 = .ok (.aload_n 3, 1) := by decide +kernel
theorem dX11_weaveFrom_26 : decode cX11_weaveFrom 26 = .ok (.getfield 253, 3) := by decide +kernel
theorem dX11_weaveFrom_29 : decode cX11_weaveFrom 29 = .ok (.aload_n 0, 1) := by decide +kernel
theorem dX11_weaveFrom_30 : decode cX11_weaveFrom 30 = .ok (.getfield 67, 3) := by decide +kernel
theorem dX11_weaveFrom_33 : decode cX11_weaveFrom 33 = .ok (.aload_n 3, 1) := by decide +kernel
theorem dX11_weaveFrom_34 : decode cX11_weaveFrom 34 = .ok (.getfield 112, 3) := by decide +kernel
theorem dX11_weaveFrom_37 : decode cX11_weaveFrom 37 = .ok (.aload_n 0, 1) := by decide +kernel
theorem dX11_weaveFrom_38 : decode cX11_weaveFrom 38 = .ok (.getfield 82, 3) := by decide +kernel
theorem dX11_weaveFrom_41 : decode cX11_weaveFrom 41 = .ok (.invokevirtual 285, 3) := by decide +kernel
theorem dX11_weaveFrom_44 : decode cX11_weaveFrom 44 = .ok (.aload_n 3, 1) := by decide +kernel
theorem dX11_weaveFrom_45 : decode cX11_weaveFrom 45 = .ok (.iconst 0, 1) := by decide +kernel
theorem dX11_weaveFrom_46 : decode cX11_weaveFrom 46 = .ok (.putfield 264, 3) := by decide +kernel
theorem dX11_weaveFrom_49 : decode cX11_weaveFrom 49 = .ok (.iinc 2 1, 3) := by decide +kernel
theorem dX11_weaveFrom_52 : decode cX11_weaveFrom 52 = .ok (.goto (-50), 3) := by decide +kernel
theorem dX11_weaveFrom_55 : decode cX11_weaveFrom 55 = .ok (.aload_n 0, 1) := by decide +kernel
theorem dX11_weaveFrom_56 : decode cX11_weaveFrom 56 = .ok (.getfield 47, 3) := by decide +kernel
theorem dX11_weaveFrom_59 : decode cX11_weaveFrom 59 = .ok (.invokevirtual 307, 3) := by decide +kernel
theorem dX11_weaveFrom_62 : decode cX11_weaveFrom 62 = .ok (.return_, 1) := by decide +kernel
def f_X11_weaveFrom_u2 (Q : ml_St → Prop) (K55 : ml_St → Prop) : Nat → ml_St → Int → Prop
| 0, _, _ => False
| N + 1, σ, x2 =>
∀ _ : I32 (σ 1 12),
((σ 1 12) ≤ x2 →
K55 σ) ∧
(¬ ((σ 1 12) ≤ x2) →
(0 : Int) ≤ x2 ∧ (x2 : Int) < 16 ∧
∀ _ : I32 (σ (119 + 6 * x2) 1),
∀ _ : I32 (σ 1 11),
f_X4_weave σ ((119 + 6 * x2) + 1) ((119 + 6 * x2) + 2) (σ (119 + 6 * x2) 1) (σ 1 11) (fun σ6 =>
∀ σ7, σ7 = ml_up σ6 (119 + 6 * x2) 7 0 →
I32 (x2 + 1) ∧
∀ y8 : Int, y8 = x2 + 1 →
f_X11_weaveFrom_u2 Q K55 N σ7 y8))
def f_X11_weaveFrom_u55 (Q : ml_St → Prop) (σ : ml_St) : Prop :=
f_X7_forget σ (fun σ1 =>
Q σ1)
def f_X11_weaveFrom_u0 (Q : ml_St → Prop) (σ : ml_St) (x1 : Int) : Prop :=
∃ N1, f_X11_weaveFrom_u2 Q (f_X11_weaveFrom_u55 Q) N1 σ x1
def f_X11_weaveFrom (σ : ml_St) (x1 : Int) (Q : ml_St → Prop) : Prop := f_X11_weaveFrom_u0 Q σ x1
def rm_X11_weaveFrom : Room := { frames := 5, cells := 0, slots := 0, locals := 165 }
set_option maxRecDepth 100000 in
set_option maxHeartbeats 4000000 in
theorem u_X11_weaveFrom_2 {p : Program} {e : Env} {s : State} {m : MethodId} {args : Array Value} {below : List Frame} {meth : Method} {c : Code} {base : Nat} {D : va_G} {cA : Nat → ClassId} {n : Nat} {l : Launch} {Q : ml_St → Prop} {K55 : ml_St → Prop} (X : ml_X p s m c meth args D cA cX11_weaveFrom 4 RX11 none) (hn : 214 ≤ n) (hK55 : ∀ (σ : ml_St) (ls : Array Slot), lv_has ls 4 [(0, .ref (base + (1 : Int).toNat))] → K55 σ → ml_V p l e rm_X11_weaveFrom s m args below meth c (MQ below (ml_Qv base D cA n Q) args s 0 0 (ml_A base)) base D cA 0 0 n n σ (F0 m 55 ls [])) : ∀ (N : Nat) (σ : ml_St) (x2 : Int) (h_x2 : I32 x2) (ls : Array Slot), lv_has ls 4 [(0, .ref (base + (1 : Int).toNat)), (2, .int (Int32.ofInt x2))] → f_X11_weaveFrom_u2 Q K55 N σ x2 → ml_V p l e rm_X11_weaveFrom s m args below meth c (MQ below (ml_Qv base D cA n Q) args s 0 0 (ml_A base)) base D cA 0 0 n n σ (F0 m 2 ls []) := by
  intro N
  induction N with
  | zero => intro σ x2 h_x2 ls hl hw; exact False.elim hw
  | succ N ih =>
    intro σ x2 h_x2 ls hl hw
    unfold f_X11_weaveFrom_u2 at hw
    refine ml_iload_n (pc := 2) X hl 1 rfl rfl dX11_weaveFrom_2 ?_
    refine ml_aload_n (pc := 3) X hl 0 rfl rfl dX11_weaveFrom_3 ?_
    refine gf_X11_86 (pc := 4) X (ml_c1 hn) dX11_weaveFrom_4 (fun r1 => ?_)
    have hw := hw r1
    refine ml_icmp_ge (pc := 7) (tgt := 55) X h_x2 r1 dX11_weaveFrom_7 (by decide) (fun c2 => ?_) (fun c2 => ?_)
    · have hw := hw.1 c2
      exact hK55 σ   _ (lv_sub hl [0] rfl) hw
    · have hw := hw.2 c2
      refine ml_aload_n (pc := 10) X hl 0 rfl rfl dX11_weaveFrom_10 ?_
      refine gf_X11_67 (pc := 11) X (ml_c1 hn) dX11_weaveFrom_11 ?_
      refine ml_iload_n (pc := 14) X hl 1 rfl rfl dX11_weaveFrom_14 ?_
      obtain ⟨a3, b3, hw⟩ := hw
      refine ml_aald_words (pc := 15) X hn a3 b3 dX11_weaveFrom_15 ?_
      refine ml_astore_n (pc := 16) X rfl hl (by decide) (lst' := [(3, .ref (base + ((119 + 6 * x2) : Int).toNat)), (0, .ref (base + (1 : Int).toNat)), (2, .int (Int32.ofInt x2))]) rfl dX11_weaveFrom_16 (fun ls hl => ?_)
      refine ml_aload_n (pc := 17) X hl 1 rfl rfl dX11_weaveFrom_17 ?_
      refine gf_X11_33 (pc := 18) X (ml_c1 hn) dX11_weaveFrom_18 ?_
      refine ml_aload_n (pc := 21) X hl 0 rfl rfl dX11_weaveFrom_21 ?_
      refine gf_X11_304 (pc := 22) X (ml_at_words hn a3 b3) dX11_weaveFrom_22 ?_
      refine ml_aload_n (pc := 25) X hl 0 rfl rfl dX11_weaveFrom_25 ?_
      refine gf_X11_253 (pc := 26) X (ml_at_words hn a3 b3) dX11_weaveFrom_26 (fun r4 => ?_)
      have hw := hw r4
      refine ml_aload_n (pc := 29) X hl 1 rfl rfl dX11_weaveFrom_29 ?_
      refine gf_X11_67 (pc := 30) X (ml_c1 hn) dX11_weaveFrom_30 ?_
      refine ml_aload_n (pc := 33) X hl 0 rfl rfl dX11_weaveFrom_33 ?_
      refine gf_X11_112 (pc := 34) X (ml_at_words hn a3 b3) dX11_weaveFrom_34 ?_
      refine ml_aload_n (pc := 37) X hl 1 rfl rfl dX11_weaveFrom_37 ?_
      refine gf_X11_82 (pc := 38) X (ml_c1 hn) dX11_weaveFrom_38 (fun r5 => ?_)
      have hw := hw r5
      refine ml_callvV (pc := 41) (rest := []) X [.ref (base + (((119 + 6 * x2) + 1) : Int).toNat), .int (Int32.ofInt (σ (119 + 6 * x2) 1)), .ref (base + (114 : Int).toNat), .ref (base + (((119 + 6 * x2) + 2) : Int).toNat), .int (Int32.ofInt (σ 1 11))] (by decide) rfl (ml_c8 hn) (c_X4_weave l base D cA n hn σ ((119 + 6 * x2) + 1) ((119 + 6 * x2) + 2) (ml_r20_1 hn (ml_at_words hn a3 b3)) (ml_r20_2 hn (ml_at_words hn a3 b3)) (σ (119 + 6 * x2) 1) (σ 1 11) r4 r5 _ hw) cv_X11_285 ⟨rfl, rfl⟩ ⟨by decide, by decide⟩ rfl rfl hl (Nat.le_of_ble_eq_true rfl) ⟨Nat.zero_le _, Nat.zero_le _⟩ dX11_weaveFrom_41 (fun σ6 hw => ?_)
      refine ml_aload_n (pc := 44) X hl 0 rfl rfl dX11_weaveFrom_44 ?_
      refine ml_iconst (pc := 45) X dX11_weaveFrom_45 ?_
      refine pf_X11_264 (pc := 46) X (ml_at_words hn a3 b3) ⟨by decide, by decide⟩ dX11_weaveFrom_46 (fun σ7 g7 => ?_)
      have hw := hw σ7 g7
      obtain ⟨v8, hw⟩ := hw
      obtain ⟨y8, e8⟩ : ∃ y : Int, y = x2 + 1 := ⟨_, rfl⟩
      have hw := hw y8 e8
      rw [← e8] at v8
      refine ml_iinc (pc := 49) X e8 hl 2 rfl (by decide) (lst' := [(2, .int (Int32.ofInt y8)), (3, .ref (base + ((119 + 6 * x2) : Int).toNat)), (0, .ref (base + (1 : Int).toNat))]) rfl dX11_weaveFrom_49 (fun ls hl => ?_)
      refine ml_goto (pc := 52) (tgt := 2) X dX11_weaveFrom_52 (by decide) ?_
      exact ih σ7 y8 v8 _ (lv_sub hl [2, 0] rfl) hw
set_option maxRecDepth 100000 in
set_option maxHeartbeats 4000000 in
theorem u_X11_weaveFrom_55 {p : Program} {e : Env} {s : State} {m : MethodId} {args : Array Value} {below : List Frame} {meth : Method} {c : Code} {base : Nat} {D : va_G} {cA : Nat → ClassId} {n : Nat} {l : Launch} {Q : ml_St → Prop} (X : ml_X p s m c meth args D cA cX11_weaveFrom 4 RX11 none) (hn : 214 ≤ n) (σ : ml_St) (ls : Array Slot) (hl : lv_has ls 4 [(0, .ref (base + (1 : Int).toNat))]) (hw : f_X11_weaveFrom_u55 Q σ) : ml_V p l e rm_X11_weaveFrom s m args below meth c (MQ below (ml_Qv base D cA n Q) args s 0 0 (ml_A base)) base D cA 0 0 n n σ (F0 m 55 ls []) := by
  unfold f_X11_weaveFrom_u55 at hw
  refine ml_aload_n (pc := 55) X hl 0 rfl rfl dX11_weaveFrom_55 ?_
  refine gf_X11_47 (pc := 56) X (ml_c1 hn) dX11_weaveFrom_56 ?_
  refine ml_callvV (pc := 59) (rest := []) X [] (by decide) rfl (ml_c55 hn) (c_X7_forget l base D cA n hn σ _ hw) cv_X11_307 ⟨rfl, rfl⟩ ⟨by decide, by decide⟩ rfl rfl hl (Nat.le_of_ble_eq_true rfl) ⟨Nat.zero_le _, Nat.zero_le _⟩ dX11_weaveFrom_59 (fun σ1 hw => ?_)
  exact ml_vret (pc := 62) X hw dX11_weaveFrom_62
set_option maxRecDepth 100000 in
set_option maxHeartbeats 4000000 in
theorem u_X11_weaveFrom_0 {p : Program} {e : Env} {s : State} {m : MethodId} {args : Array Value} {below : List Frame} {meth : Method} {c : Code} {base : Nat} {D : va_G} {cA : Nat → ClassId} {n : Nat} {l : Launch} {Q : ml_St → Prop} (X : ml_X p s m c meth args D cA cX11_weaveFrom 4 RX11 none) (hn : 214 ≤ n) (σ : ml_St) (x1 : Int) (h_x1 : I32 x1) (ls : Array Slot) (hl : lv_has ls 4 [(0, .ref (base + (1 : Int).toNat)), (1, .int (Int32.ofInt x1))]) (hw : f_X11_weaveFrom_u0 Q σ x1) : ml_V p l e rm_X11_weaveFrom s m args below meth c (MQ below (ml_Qv base D cA n Q) args s 0 0 (ml_A base)) base D cA 0 0 n n σ (F0 m 0 ls []) := by
  unfold f_X11_weaveFrom_u0 at hw
  refine ml_iload_n (pc := 0) X hl 1 rfl rfl dX11_weaveFrom_0 ?_
  refine ml_istore_n (pc := 1) X rfl hl (by decide) (lst' := [(2, .int (Int32.ofInt x1)), (0, .ref (base + (1 : Int).toNat)), (1, .int (Int32.ofInt x1))]) rfl dX11_weaveFrom_1 (fun ls hl => ?_)
  obtain ⟨N0, hw⟩ := hw
  exact u_X11_weaveFrom_2 X hn (fun σ   ls hl hw => u_X11_weaveFrom_55 X hn σ   ls hl hw) N0 σ x1 h_x1 _ (lv_sub hl [1, 0] rfl) hw
set_option maxRecDepth 100000 in
theorem c_X11_weaveFrom (l : Launch) (base : Nat) (D : va_G) (cA : Nat → ClassId) (n : Nat) (hn : 214 ≤ n) (σ : ml_St) (x1 : Int) (h_x1 : I32 x1) (Q : ml_St → Prop) (hw : f_X11_weaveFrom σ x1 Q) : Met l yX11_weaveFrom (Cond.code yX11_weaveFrom cX11_weaveFrom 4 none :: ml_T) rm_X11_weaveFrom (va_Pc [.ref (base + (1 : Int).toNat), .int (Int32.ofInt x1)] (ml_U base D cA n σ)) (ml_Qv base D cA n Q) 0 0 (ml_A base) := by
  refine Met.ofW (cc := cX11_weaveFrom) (maxL := 4) (ret := none) (by decide) rfl ?_
  intro p e s m args below meth c s₁ B hml hv
  obtain ⟨rfl, hP, hK, hok, hro⟩ := hv
  have X : ml_X p s m c meth _ D cA cX11_weaveFrom 4 RX11 none := ⟨B.exec, B.bytes, hml, findClass_of_methodNamed B.named, fun w hw => atoms_spec (ws := Cond.code yX11_weaveFrom cX11_weaveFrom 4 none :: ml_T) B.pre w (List.mem_cons_of_mem _ hw), hK, B.notSynchronized, B.returns⟩
  have hl := lv_entry [.ref (base + (1 : Int).toNat), .int (Int32.ofInt x1)] (n := 4) (Nat.le_of_ble_eq_true rfl)
  rw [lg_entry_eq]
  generalize (lg_sl [.ref (base + (1 : Int).toNat), .int (Int32.ofInt x1)] ++ List.replicate (4 - (lg_sl [.ref (base + (1 : Int).toNat), .int (Int32.ofInt x1)]).length) Slot.unset).toArray = ls at hl ⊢
  have hl : lv_has ls 4 [(0, .ref (base + (1 : Int).toNat)), (1, .int (Int32.ofInt x1))] := hl
  unfold f_X11_weaveFrom at hw
  exact u_X11_weaveFrom_0 X hn σ x1 h_x1 _ (lv_sub hl [0, 1] rfl) hw s.heap [] hP va_S.rf hok hro
theorem dX2_faultAt_0 : decode cX2_faultAt 0 = .ok (.sipush (-1000), 3) := by decide +kernel
theorem dX2_faultAt_3 : decode cX2_faultAt 3 = .ok (.iload_n 0, 1) := by decide +kernel
theorem dX2_faultAt_4 : decode cX2_faultAt 4 = .ok (.imul, 1) := by decide +kernel
theorem dX2_faultAt_5 : decode cX2_faultAt 5 = .ok (.iload_n 1, 1) := by decide +kernel
theorem dX2_faultAt_6 : decode cX2_faultAt 6 = .ok (.isub, 1) := by decide +kernel
theorem dX2_faultAt_7 : decode cX2_faultAt 7 = .ok (.ireturn, 1) := by decide +kernel
def f_X2_faultAt_u0 (Q : Int → ml_St → Prop) (σ : ml_St) (x0 : Int) (x1 : Int) : Prop :=
I32 ((-1000) * x0) ∧
I32 (((-1000) * x0) - x1) ∧
Q (((-1000) * x0) - x1) σ
def f_X2_faultAt (σ : ml_St) (x0 : Int) (x1 : Int) (Q : Int → ml_St → Prop) : Prop := f_X2_faultAt_u0 Q σ x0 x1
def rm_X2_faultAt : Room := { frames := 0, cells := 0, slots := 0, locals := 0 }
set_option maxRecDepth 100000 in
set_option maxHeartbeats 4000000 in
theorem u_X2_faultAt_0 {p : Program} {e : Env} {s : State} {m : MethodId} {args : Array Value} {below : List Frame} {meth : Method} {c : Code} {base : Nat} {D : va_G} {cA : Nat → ClassId} {n : Nat} {l : Launch} {Q : Int → ml_St → Prop} (X : ml_X p s m c meth args D cA cX2_faultAt 2 RX2 (some .int)) (hn : 214 ≤ n) (σ : ml_St) (x0 : Int) (x1 : Int) (h_x0 : I32 x0) (h_x1 : I32 x1) (ls : Array Slot) (hl : lv_has ls 2 [(0, .int (Int32.ofInt x0)), (1, .int (Int32.ofInt x1))]) (hw : f_X2_faultAt_u0 Q σ x0 x1) : ml_V p l e rm_X2_faultAt s m args below meth c (MQ below (ml_Qi I32 base D cA n Q) args s 0 0 (ml_A base)) base D cA 0 0 n n σ (F0 m 0 ls []) := by
  unfold f_X2_faultAt_u0 at hw
  refine ml_sipush (pc := 0) X dX2_faultAt_0 (by decide) ?_
  refine ml_iload_n (pc := 3) X hl 0 rfl rfl dX2_faultAt_3 ?_
  obtain ⟨v1, hw⟩ := hw
  refine ml_imul (pc := 4) X dX2_faultAt_4 ?_
  refine ml_iload_n (pc := 5) X hl 1 rfl rfl dX2_faultAt_5 ?_
  obtain ⟨v2, hw⟩ := hw
  refine ml_isub (pc := 6) X dX2_faultAt_6 ?_
  exact ml_iret (pc := 7) X v2 hw dX2_faultAt_7
set_option maxRecDepth 100000 in
theorem c_X2_faultAt (l : Launch) (base : Nat) (D : va_G) (cA : Nat → ClassId) (n : Nat) (hn : 214 ≤ n) (σ : ml_St) (x0 : Int) (x1 : Int) (h_x0 : I32 x0) (h_x1 : I32 x1) (Q : Int → ml_St → Prop) (hw : f_X2_faultAt σ x0 x1 Q) : Met l yX2_faultAt (Cond.code yX2_faultAt cX2_faultAt 2 (some .int) :: ml_T) rm_X2_faultAt (va_Pc [.int (Int32.ofInt x0), .int (Int32.ofInt x1)] (ml_U base D cA n σ)) (ml_Qi I32 base D cA n Q) 0 0 (ml_A base) := by
  refine Met.ofW (cc := cX2_faultAt) (maxL := 2) (ret := (some .int)) (by decide) rfl ?_
  intro p e s m args below meth c s₁ B hml hv
  obtain ⟨rfl, hP, hK, hok, hro⟩ := hv
  have X : ml_X p s m c meth _ D cA cX2_faultAt 2 RX2 (some .int) := ⟨B.exec, B.bytes, hml, findClass_of_methodNamed B.named, fun w hw => atoms_spec (ws := Cond.code yX2_faultAt cX2_faultAt 2 (some .int) :: ml_T) B.pre w (List.mem_cons_of_mem _ hw), hK, B.notSynchronized, B.returns⟩
  have hl := lv_entry [.int (Int32.ofInt x0), .int (Int32.ofInt x1)] (n := 2) (Nat.le_of_ble_eq_true rfl)
  rw [lg_entry_eq]
  generalize (lg_sl [.int (Int32.ofInt x0), .int (Int32.ofInt x1)] ++ List.replicate (2 - (lg_sl [.int (Int32.ofInt x0), .int (Int32.ofInt x1)]).length) Slot.unset).toArray = ls at hl ⊢
  have hl : lv_has ls 2 [(0, .int (Int32.ofInt x0)), (1, .int (Int32.ofInt x1))] := hl
  unfold f_X2_faultAt at hw
  exact u_X2_faultAt_0 X hn σ x0 x1 h_x0 h_x1 _ (lv_sub hl [0, 1] rfl) hw s.heap [] hP va_S.rf hok hro
theorem dX2_takeItem_0 : decode cX2_takeItem 0 = .ok (.iload_n 1, 1) := by decide +kernel
theorem dX2_takeItem_1 : decode cX2_takeItem 1 = .ok (.ifCond .eq 15, 3) := by decide +kernel
theorem dX2_takeItem_4 : decode cX2_takeItem 4 = .ok (.aload_n 0, 1) := by decide +kernel
theorem dX2_takeItem_5 : decode cX2_takeItem 5 = .ok (.iload_n 1, 1) := by decide +kernel
theorem dX2_takeItem_6 : decode cX2_takeItem 6 = .ok (.aload_n 0, 1) := by decide +kernel
theorem dX2_takeItem_7 : decode cX2_takeItem 7 = .ok (.getfield 19, 3) := by decide +kernel
theorem dX2_takeItem_10 : decode cX2_takeItem 10 = .ok (.invokestatic 39, 3) := by decide +kernel
theorem dX2_takeItem_13 : decode cX2_takeItem 13 = .ok (.putfield 32, 3) := by decide +kernel
theorem dX2_takeItem_16 : decode cX2_takeItem 16 = .ok (.aload_n 0, 1) := by decide +kernel
theorem dX2_takeItem_17 : decode cX2_takeItem 17 = .ok (.iconst 0, 1) := by decide +kernel
theorem dX2_takeItem_18 : decode cX2_takeItem 18 = .ok (.putfield 29, 3) := by decide +kernel
theorem dX2_takeItem_21 : decode cX2_takeItem 21 = .ok (.aload_n 0, 1) := by decide +kernel
theorem dX2_takeItem_22 : decode cX2_takeItem 22 = .ok (.iconst 1, 1) := by decide +kernel
theorem dX2_takeItem_23 : decode cX2_takeItem 23 = .ok (.putfield 25, 3) := by decide +kernel
theorem dX2_takeItem_26 : decode cX2_takeItem 26 = .ok (.return_, 1) := by decide +kernel
def f_X2_takeItem_u16 (Q : ml_St → Prop) (σ : ml_St) : Prop :=
∀ σ1, σ1 = ml_up σ 6 5 0 →
∀ σ2, σ2 = ml_up σ1 6 4 1 →
Q σ2
def f_X2_takeItem_u0 (Q : ml_St → Prop) (σ : ml_St) (x1 : Int) : Prop :=
(x1 = 0 →
f_X2_takeItem_u16 Q σ) ∧
(x1 ≠ 0 →
∀ _ : I32 (σ 6 2),
f_X2_faultAt σ x1 (σ 6 2) (fun r3 σ3 => ∀ _ : I32 r3,
∀ σ4, σ4 = ml_up σ3 6 6 r3 →
f_X2_takeItem_u16 Q σ4))
def f_X2_takeItem (σ : ml_St) (x1 : Int) (Q : ml_St → Prop) : Prop := f_X2_takeItem_u0 Q σ x1
def rm_X2_takeItem : Room := { frames := 1, cells := 0, slots := 0, locals := 21 }
set_option maxRecDepth 100000 in
set_option maxHeartbeats 4000000 in
theorem u_X2_takeItem_16 {p : Program} {e : Env} {s : State} {m : MethodId} {args : Array Value} {below : List Frame} {meth : Method} {c : Code} {base : Nat} {D : va_G} {cA : Nat → ClassId} {n : Nat} {l : Launch} {Q : ml_St → Prop} (X : ml_X p s m c meth args D cA cX2_takeItem 2 RX2 none) (hn : 214 ≤ n) (σ : ml_St) (ls : Array Slot) (hl : lv_has ls 2 [(0, .ref (base + (6 : Int).toNat))]) (hw : f_X2_takeItem_u16 Q σ) : ml_V p l e rm_X2_takeItem s m args below meth c (MQ below (ml_Qv base D cA n Q) args s 0 0 (ml_A base)) base D cA 0 0 n n σ (F0 m 16 ls []) := by
  unfold f_X2_takeItem_u16 at hw
  refine ml_aload_n (pc := 16) X hl 0 rfl rfl dX2_takeItem_16 ?_
  refine ml_iconst (pc := 17) X dX2_takeItem_17 ?_
  refine pf_X2_29 (pc := 18) X (ml_c6 hn) ⟨by decide, by decide⟩ dX2_takeItem_18 (fun σ1 g1 => ?_)
  have hw := hw σ1 g1
  refine ml_aload_n (pc := 21) X hl 0 rfl rfl dX2_takeItem_21 ?_
  refine ml_iconst (pc := 22) X dX2_takeItem_22 ?_
  refine pf_X2_25 (pc := 23) X (ml_c6 hn) ⟨by decide, by decide⟩ dX2_takeItem_23 (fun σ2 g2 => ?_)
  have hw := hw σ2 g2
  exact ml_vret (pc := 26) X hw dX2_takeItem_26
set_option maxRecDepth 100000 in
set_option maxHeartbeats 4000000 in
theorem u_X2_takeItem_0 {p : Program} {e : Env} {s : State} {m : MethodId} {args : Array Value} {below : List Frame} {meth : Method} {c : Code} {base : Nat} {D : va_G} {cA : Nat → ClassId} {n : Nat} {l : Launch} {Q : ml_St → Prop} (X : ml_X p s m c meth args D cA cX2_takeItem 2 RX2 none) (hn : 214 ≤ n) (σ : ml_St) (x1 : Int) (h_x1 : I32 x1) (ls : Array Slot) (hl : lv_has ls 2 [(0, .ref (base + (6 : Int).toNat)), (1, .int (Int32.ofInt x1))]) (hw : f_X2_takeItem_u0 Q σ x1) : ml_V p l e rm_X2_takeItem s m args below meth c (MQ below (ml_Qv base D cA n Q) args s 0 0 (ml_A base)) base D cA 0 0 n n σ (F0 m 0 ls []) := by
  unfold f_X2_takeItem_u0 at hw
  refine ml_iload_n (pc := 0) X hl 1 rfl rfl dX2_takeItem_0 ?_
  refine ml_if_eq (pc := 1) (tgt := 16) X h_x1 dX2_takeItem_1 (by decide) (fun c1 => ?_) (fun c1 => ?_)
  · have hw := hw.1 c1
    exact u_X2_takeItem_16 X hn σ   _ (lv_sub hl [0] rfl) hw
  · have hw := hw.2 c1
    refine ml_aload_n (pc := 4) X hl 0 rfl rfl dX2_takeItem_4 ?_
    refine ml_iload_n (pc := 5) X hl 1 rfl rfl dX2_takeItem_5 ?_
    refine ml_aload_n (pc := 6) X hl 0 rfl rfl dX2_takeItem_6 ?_
    refine gf_X2_19 (pc := 7) X (ml_c6 hn) dX2_takeItem_7 (fun r2 => ?_)
    have hw := hw r2
    refine ml_calliS (pc := 10) (rest := [.ref (base + (6 : Int).toNat)]) X [.int (Int32.ofInt x1), .int (Int32.ofInt (σ 6 2))] (c_X2_faultAt l base D cA n hn σ x1 (σ 6 2) h_x1 r2 _ hw) cv_X2_39 ⟨rfl, rfl⟩ ⟨by decide, by decide⟩ rfl rfl hl (Nat.le_of_ble_eq_true rfl) ⟨Nat.zero_le _, Nat.zero_le _⟩ dX2_takeItem_10 (fun r3 σ3 t3 hw => ?_)
    have hw := hw t3
    refine pf_X2_32 (pc := 13) X (ml_c6 hn) t3 dX2_takeItem_13 (fun σ4 g4 => ?_)
    have hw := hw σ4 g4
    exact u_X2_takeItem_16 X hn σ4   _ (lv_sub hl [0] rfl) hw
set_option maxRecDepth 100000 in
theorem c_X2_takeItem (l : Launch) (base : Nat) (D : va_G) (cA : Nat → ClassId) (n : Nat) (hn : 214 ≤ n) (σ : ml_St) (x1 : Int) (h_x1 : I32 x1) (Q : ml_St → Prop) (hw : f_X2_takeItem σ x1 Q) : Met l yX2_takeItem (Cond.code yX2_takeItem cX2_takeItem 2 none :: ml_T) rm_X2_takeItem (va_Pc [.ref (base + (6 : Int).toNat), .int (Int32.ofInt x1)] (ml_U base D cA n σ)) (ml_Qv base D cA n Q) 0 0 (ml_A base) := by
  refine Met.ofW (cc := cX2_takeItem) (maxL := 2) (ret := none) (by decide) rfl ?_
  intro p e s m args below meth c s₁ B hml hv
  obtain ⟨rfl, hP, hK, hok, hro⟩ := hv
  have X : ml_X p s m c meth _ D cA cX2_takeItem 2 RX2 none := ⟨B.exec, B.bytes, hml, findClass_of_methodNamed B.named, fun w hw => atoms_spec (ws := Cond.code yX2_takeItem cX2_takeItem 2 none :: ml_T) B.pre w (List.mem_cons_of_mem _ hw), hK, B.notSynchronized, B.returns⟩
  have hl := lv_entry [.ref (base + (6 : Int).toNat), .int (Int32.ofInt x1)] (n := 2) (Nat.le_of_ble_eq_true rfl)
  rw [lg_entry_eq]
  generalize (lg_sl [.ref (base + (6 : Int).toNat), .int (Int32.ofInt x1)] ++ List.replicate (2 - (lg_sl [.ref (base + (6 : Int).toNat), .int (Int32.ofInt x1)]).length) Slot.unset).toArray = ls at hl ⊢
  have hl : lv_has ls 2 [(0, .ref (base + (6 : Int).toNat)), (1, .int (Int32.ofInt x1))] := hl
  unfold f_X2_takeItem at hw
  exact u_X2_takeItem_0 X hn σ x1 h_x1 _ (lv_sub hl [0, 1] rfl) hw s.heap [] hP va_S.rf hok hro
theorem dX2_readClosing_0 : decode cX2_readClosing 0 = .ok (.aload_n 0, 1) := by decide +kernel
theorem dX2_readClosing_1 : decode cX2_readClosing 1 = .ok (.aload_n 0, 1) := by decide +kernel
theorem dX2_readClosing_2 : decode cX2_readClosing 2 = .ok (.getfield 22, 3) := by decide +kernel
theorem dX2_readClosing_5 : decode cX2_readClosing 5 = .ok (.ifCond .eq 10, 3) := by decide +kernel
theorem dX2_readClosing_8 : decode cX2_readClosing 8 = .ok (.aload_n 0, 1) := by decide +kernel
theorem dX2_readClosing_9 : decode cX2_readClosing 9 = .ok (.getfield 29, 3) := by decide +kernel
theorem dX2_readClosing_12 : decode cX2_readClosing 12 = .ok (.ifCond .eq 7, 3) := by decide +kernel
theorem dX2_readClosing_15 : decode cX2_readClosing 15 = .ok (.iconst 1, 1) := by decide +kernel
theorem dX2_readClosing_16 : decode cX2_readClosing 16 = .ok (.goto 4, 3) := by decide +kernel
theorem dX2_readClosing_19 : decode cX2_readClosing 19 = .ok (.iconst 0, 1) := by decide +kernel
theorem dX2_readClosing_20 : decode cX2_readClosing 20 = .ok (.invokevirtual 53, 3) := by decide +kernel
theorem dX2_readClosing_23 : decode cX2_readClosing 23 = .ok (.aload_n 0, 1) := by decide +kernel
theorem dX2_readClosing_24 : decode cX2_readClosing 24 = .ok (.dup, 1) := by decide +kernel
theorem dX2_readClosing_25 : decode cX2_readClosing 25 = .ok (.getfield 22, 3) := by decide +kernel
theorem dX2_readClosing_28 : decode cX2_readClosing 28 = .ok (.iconst 1, 1) := by decide +kernel
theorem dX2_readClosing_29 : decode cX2_readClosing 29 = .ok (.isub, 1) := by decide +kernel
theorem dX2_readClosing_30 : decode cX2_readClosing 30 = .ok (.putfield 22, 3) := by decide +kernel
theorem dX2_readClosing_33 : decode cX2_readClosing 33 = .ok (.return_, 1) := by decide +kernel
def f_X2_readClosing_u20 (Q : ml_St → Prop) (σ : ml_St) (s1 : Int) : Prop :=
f_X2_takeItem σ s1 (fun σ1 =>
∀ _ : I32 (σ1 6 3),
I32 ((σ1 6 3) - 1) ∧
∀ σ4, σ4 = ml_up σ1 6 3 ((σ1 6 3) - 1) →
Q σ4)
def f_X2_readClosing_u15 (Q : ml_St → Prop) (σ : ml_St) : Prop :=
f_X2_readClosing_u20 Q σ 1
def f_X2_readClosing_u0 (Q : ml_St → Prop) (σ : ml_St) : Prop :=
∀ _ : I32 (σ 6 3),
(((σ 6 3) : Int) = 0 →
f_X2_readClosing_u15 Q σ) ∧
((σ 6 3) ≠ 0 →
∀ _ : ml_B (σ 6 5),
(((σ 6 5) : Int) = 0 →
f_X2_readClosing_u20 Q σ 0) ∧
((σ 6 5) ≠ 0 →
f_X2_readClosing_u15 Q σ))
def f_X2_readClosing (σ : ml_St) (Q : ml_St → Prop) : Prop := f_X2_readClosing_u0 Q σ
def rm_X2_readClosing : Room := { frames := 2, cells := 0, slots := 0, locals := 42 }
set_option maxRecDepth 100000 in
set_option maxHeartbeats 4000000 in
theorem u_X2_readClosing_20 {p : Program} {e : Env} {s : State} {m : MethodId} {args : Array Value} {below : List Frame} {meth : Method} {c : Code} {base : Nat} {D : va_G} {cA : Nat → ClassId} {n : Nat} {l : Launch} {Q : ml_St → Prop} (X : ml_X p s m c meth args D cA cX2_readClosing 1 RX2 none) (hn : 214 ≤ n) (σ : ml_St) (s1 : Int) (h_s1 : ml_B s1) (ls : Array Slot) (hl : lv_has ls 1 [(0, .ref (base + (6 : Int).toNat))]) (hw : f_X2_readClosing_u20 Q σ s1) : ml_V p l e rm_X2_readClosing s m args below meth c (MQ below (ml_Qv base D cA n Q) args s 0 0 (ml_A base)) base D cA 0 0 n n σ (F0 m 20 ls [.int (Int32.ofInt s1), .ref (base + (6 : Int).toNat)]) := by
  unfold f_X2_readClosing_u20 at hw
  refine ml_callvV (pc := 20) (rest := []) X [.int (Int32.ofInt s1)] (by decide) rfl (ml_c6 hn) (c_X2_takeItem l base D cA n hn σ s1 h_s1.i _ hw) cv_X2_53 ⟨rfl, rfl⟩ ⟨by decide, by decide⟩ rfl rfl hl (Nat.le_of_ble_eq_true rfl) ⟨Nat.zero_le _, Nat.zero_le _⟩ dX2_readClosing_20 (fun σ1 hw => ?_)
  refine ml_aload_n (pc := 23) X hl 0 rfl rfl dX2_readClosing_23 ?_
  refine ml_dup (pc := 24) X dX2_readClosing_24 rfl ?_
  refine gf_X2_22 (pc := 25) X (ml_c6 hn) dX2_readClosing_25 (fun r2 => ?_)
  have hw := hw r2
  refine ml_iconst (pc := 28) X dX2_readClosing_28 ?_
  obtain ⟨v3, hw⟩ := hw
  refine ml_isub (pc := 29) X dX2_readClosing_29 ?_
  refine pf_X2_22 (pc := 30) X (ml_c6 hn) v3 dX2_readClosing_30 (fun σ4 g4 => ?_)
  have hw := hw σ4 g4
  exact ml_vret (pc := 33) X hw dX2_readClosing_33
set_option maxRecDepth 100000 in
set_option maxHeartbeats 4000000 in
theorem u_X2_readClosing_15 {p : Program} {e : Env} {s : State} {m : MethodId} {args : Array Value} {below : List Frame} {meth : Method} {c : Code} {base : Nat} {D : va_G} {cA : Nat → ClassId} {n : Nat} {l : Launch} {Q : ml_St → Prop} (X : ml_X p s m c meth args D cA cX2_readClosing 1 RX2 none) (hn : 214 ≤ n) (σ : ml_St) (ls : Array Slot) (hl : lv_has ls 1 [(0, .ref (base + (6 : Int).toNat))]) (hw : f_X2_readClosing_u15 Q σ) : ml_V p l e rm_X2_readClosing s m args below meth c (MQ below (ml_Qv base D cA n Q) args s 0 0 (ml_A base)) base D cA 0 0 n n σ (F0 m 15 ls [.ref (base + (6 : Int).toNat)]) := by
  unfold f_X2_readClosing_u15 at hw
  refine ml_iconst (pc := 15) X dX2_readClosing_15 ?_
  refine ml_goto (pc := 16) (tgt := 20) X dX2_readClosing_16 (by decide) ?_
  exact u_X2_readClosing_20 X hn σ 1 ⟨by decide, by decide⟩ _ (lv_sub hl [0] rfl) hw
set_option maxRecDepth 100000 in
set_option maxHeartbeats 4000000 in
theorem u_X2_readClosing_0 {p : Program} {e : Env} {s : State} {m : MethodId} {args : Array Value} {below : List Frame} {meth : Method} {c : Code} {base : Nat} {D : va_G} {cA : Nat → ClassId} {n : Nat} {l : Launch} {Q : ml_St → Prop} (X : ml_X p s m c meth args D cA cX2_readClosing 1 RX2 none) (hn : 214 ≤ n) (σ : ml_St) (ls : Array Slot) (hl : lv_has ls 1 [(0, .ref (base + (6 : Int).toNat))]) (hw : f_X2_readClosing_u0 Q σ) : ml_V p l e rm_X2_readClosing s m args below meth c (MQ below (ml_Qv base D cA n Q) args s 0 0 (ml_A base)) base D cA 0 0 n n σ (F0 m 0 ls []) := by
  unfold f_X2_readClosing_u0 at hw
  refine ml_aload_n (pc := 0) X hl 0 rfl rfl dX2_readClosing_0 ?_
  refine ml_aload_n (pc := 1) X hl 0 rfl rfl dX2_readClosing_1 ?_
  refine gf_X2_22 (pc := 2) X (ml_c6 hn) dX2_readClosing_2 (fun r1 => ?_)
  have hw := hw r1
  refine ml_if_eq (pc := 5) (tgt := 15) X r1 dX2_readClosing_5 (by decide) (fun c2 => ?_) (fun c2 => ?_)
  · have hw := hw.1 c2
    exact u_X2_readClosing_15 X hn σ   _ (lv_sub hl [0] rfl) hw
  · have hw := hw.2 c2
    refine ml_aload_n (pc := 8) X hl 0 rfl rfl dX2_readClosing_8 ?_
    refine gf_X2_29 (pc := 9) X (ml_c6 hn) dX2_readClosing_9 (fun r3 => ?_)
    have hw := hw r3
    refine ml_if_eq (pc := 12) (tgt := 19) X r3.i dX2_readClosing_12 (by decide) (fun c4 => ?_) (fun c4 => ?_)
    · have hw := hw.1 c4
      refine ml_iconst (pc := 19) X dX2_readClosing_19 ?_
      exact u_X2_readClosing_20 X hn σ 0 ⟨by decide, by decide⟩ _ (lv_sub hl [0] rfl) hw
    · have hw := hw.2 c4
      exact u_X2_readClosing_15 X hn σ   _ (lv_sub hl [0] rfl) hw
set_option maxRecDepth 100000 in
theorem c_X2_readClosing (l : Launch) (base : Nat) (D : va_G) (cA : Nat → ClassId) (n : Nat) (hn : 214 ≤ n) (σ : ml_St) (Q : ml_St → Prop) (hw : f_X2_readClosing σ Q) : Met l yX2_readClosing (Cond.code yX2_readClosing cX2_readClosing 1 none :: ml_T) rm_X2_readClosing (va_Pc [.ref (base + (6 : Int).toNat)] (ml_U base D cA n σ)) (ml_Qv base D cA n Q) 0 0 (ml_A base) := by
  refine Met.ofW (cc := cX2_readClosing) (maxL := 1) (ret := none) (by decide) rfl ?_
  intro p e s m args below meth c s₁ B hml hv
  obtain ⟨rfl, hP, hK, hok, hro⟩ := hv
  have X : ml_X p s m c meth _ D cA cX2_readClosing 1 RX2 none := ⟨B.exec, B.bytes, hml, findClass_of_methodNamed B.named, fun w hw => atoms_spec (ws := Cond.code yX2_readClosing cX2_readClosing 1 none :: ml_T) B.pre w (List.mem_cons_of_mem _ hw), hK, B.notSynchronized, B.returns⟩
  have hl := lv_entry [.ref (base + (6 : Int).toNat)] (n := 1) (Nat.le_of_ble_eq_true rfl)
  rw [lg_entry_eq]
  generalize (lg_sl [.ref (base + (6 : Int).toNat)] ++ List.replicate (1 - (lg_sl [.ref (base + (6 : Int).toNat)]).length) Slot.unset).toArray = ls at hl ⊢
  have hl : lv_has ls 1 [(0, .ref (base + (6 : Int).toNat))] := hl
  unfold f_X2_readClosing at hw
  exact u_X2_readClosing_0 X hn σ  _ (lv_sub hl [0] rfl) hw s.heap [] hP va_S.rf hok hro
theorem dX2_next_0 : decode cX2_next 0 = .ok (.iload_n 1, 1) := by decide +kernel
theorem dX2_next_1 : decode cX2_next 1 = .ok (.aload_n 0, 1) := by decide +kernel
theorem dX2_next_2 : decode cX2_next 2 = .ok (.getfield 15, 3) := by decide +kernel
theorem dX2_next_5 : decode cX2_next 5 = .ok (.if_icmp .ge 12, 3) := by decide +kernel
theorem dX2_next_8 : decode cX2_next 8 = .ok (.aload_n 0, 1) := by decide +kernel
theorem dX2_next_9 : decode cX2_next 9 = .ok (.getfield 9, 3) := by decide +kernel
theorem dX2_next_12 : decode cX2_next 12 = .ok (.iload_n 1, 1) := by decide +kernel
theorem dX2_next_13 : decode cX2_next 13 = .ok (.baload, 1) := by decide +kernel
theorem dX2_next_14 : decode cX2_next 14 = .ok (.goto 4, 3) := by decide +kernel
theorem dX2_next_17 : decode cX2_next 17 = .ok (.iconst 0, 1) := by decide +kernel
theorem dX2_next_18 : decode cX2_next 18 = .ok (.ireturn, 1) := by decide +kernel
def f_X2_next_u18 (Q : Int → ml_St → Prop) (σ : ml_St) (s0 : Int) : Prop :=
Q s0 σ
def f_X2_next_u0 (Q : Int → ml_St → Prop) (σ : ml_St) (x1 : Int) : Prop :=
∀ _ : I32 (σ 6 1),
((σ 6 1) ≤ x1 →
f_X2_next_u18 Q σ 0) ∧
(¬ ((σ 6 1) ≤ x1) →
ml_tx (σ 6 0) ∧
(0 : Int) ≤ x1 ∧ (x1 : Int) < 100 ∧
∀ _ : ml_I8 (σ (σ 6 0) x1),
f_X2_next_u18 Q σ (σ (σ 6 0) x1))
def f_X2_next (σ : ml_St) (x1 : Int) (Q : Int → ml_St → Prop) : Prop := f_X2_next_u0 Q σ x1
def rm_X2_next : Room := { frames := 0, cells := 0, slots := 0, locals := 0 }
set_option maxRecDepth 100000 in
set_option maxHeartbeats 4000000 in
theorem u_X2_next_18 {p : Program} {e : Env} {s : State} {m : MethodId} {args : Array Value} {below : List Frame} {meth : Method} {c : Code} {base : Nat} {D : va_G} {cA : Nat → ClassId} {n : Nat} {l : Launch} {Q : Int → ml_St → Prop} (X : ml_X p s m c meth args D cA cX2_next 2 RX2 (some .int)) (hn : 214 ≤ n) (σ : ml_St) (s0 : Int) (h_s0 : I32 s0) (ls : Array Slot) (hl : lv_has ls 2 []) (hw : f_X2_next_u18 Q σ s0) : ml_V p l e rm_X2_next s m args below meth c (MQ below (ml_Qi I32 base D cA n Q) args s 0 0 (ml_A base)) base D cA 0 0 n n σ (F0 m 18 ls [.int (Int32.ofInt s0)]) := by
  unfold f_X2_next_u18 at hw
  exact ml_iret (pc := 18) X h_s0 hw dX2_next_18
set_option maxRecDepth 100000 in
set_option maxHeartbeats 4000000 in
theorem u_X2_next_0 {p : Program} {e : Env} {s : State} {m : MethodId} {args : Array Value} {below : List Frame} {meth : Method} {c : Code} {base : Nat} {D : va_G} {cA : Nat → ClassId} {n : Nat} {l : Launch} {Q : Int → ml_St → Prop} (X : ml_X p s m c meth args D cA cX2_next 2 RX2 (some .int)) (hn : 214 ≤ n) (σ : ml_St) (x1 : Int) (h_x1 : I32 x1) (ls : Array Slot) (hl : lv_has ls 2 [(0, .ref (base + (6 : Int).toNat)), (1, .int (Int32.ofInt x1))]) (hw : f_X2_next_u0 Q σ x1) : ml_V p l e rm_X2_next s m args below meth c (MQ below (ml_Qi I32 base D cA n Q) args s 0 0 (ml_A base)) base D cA 0 0 n n σ (F0 m 0 ls []) := by
  unfold f_X2_next_u0 at hw
  refine ml_iload_n (pc := 0) X hl 1 rfl rfl dX2_next_0 ?_
  refine ml_aload_n (pc := 1) X hl 0 rfl rfl dX2_next_1 ?_
  refine gf_X2_15 (pc := 2) X (ml_c6 hn) dX2_next_2 (fun r1 => ?_)
  have hw := hw r1
  refine ml_icmp_ge (pc := 5) (tgt := 17) X h_x1 r1 dX2_next_5 (by decide) (fun c2 => ?_) (fun c2 => ?_)
  · have hw := hw.1 c2
    refine ml_iconst (pc := 17) X dX2_next_17 ?_
    exact u_X2_next_18 X hn σ 0 ⟨by decide, by decide⟩ _ (lv_sub hl [] rfl) hw
  · have hw := hw.2 c2
    refine ml_aload_n (pc := 8) X hl 0 rfl rfl dX2_next_8 ?_
    obtain ⟨a3, hw⟩ := hw
    refine gf_X2_9 (pc := 9) X (ml_c6 hn) a3 dX2_next_9 ?_
    refine ml_iload_n (pc := 12) X hl 1 rfl rfl dX2_next_12 ?_
    obtain ⟨a4, b4, hw⟩ := hw
    refine ml_bald (pc := 13) (N := 100) X (ml_txat hn a3) a4 b4 dX2_next_13 (fun r4 => ?_)
    have hw := hw r4
    refine ml_goto (pc := 14) (tgt := 18) X dX2_next_14 (by decide) ?_
    exact u_X2_next_18 X hn σ (σ (σ 6 0) x1) r4.i _ (lv_sub hl [] rfl) hw
set_option maxRecDepth 100000 in
theorem c_X2_next (l : Launch) (base : Nat) (D : va_G) (cA : Nat → ClassId) (n : Nat) (hn : 214 ≤ n) (σ : ml_St) (x1 : Int) (h_x1 : I32 x1) (Q : Int → ml_St → Prop) (hw : f_X2_next σ x1 Q) : Met l yX2_next (Cond.code yX2_next cX2_next 2 (some .int) :: ml_T) rm_X2_next (va_Pc [.ref (base + (6 : Int).toNat), .int (Int32.ofInt x1)] (ml_U base D cA n σ)) (ml_Qi I32 base D cA n Q) 0 0 (ml_A base) := by
  refine Met.ofW (cc := cX2_next) (maxL := 2) (ret := (some .int)) (by decide) rfl ?_
  intro p e s m args below meth c s₁ B hml hv
  obtain ⟨rfl, hP, hK, hok, hro⟩ := hv
  have X : ml_X p s m c meth _ D cA cX2_next 2 RX2 (some .int) := ⟨B.exec, B.bytes, hml, findClass_of_methodNamed B.named, fun w hw => atoms_spec (ws := Cond.code yX2_next cX2_next 2 (some .int) :: ml_T) B.pre w (List.mem_cons_of_mem _ hw), hK, B.notSynchronized, B.returns⟩
  have hl := lv_entry [.ref (base + (6 : Int).toNat), .int (Int32.ofInt x1)] (n := 2) (Nat.le_of_ble_eq_true rfl)
  rw [lg_entry_eq]
  generalize (lg_sl [.ref (base + (6 : Int).toNat), .int (Int32.ofInt x1)] ++ List.replicate (2 - (lg_sl [.ref (base + (6 : Int).toNat), .int (Int32.ofInt x1)]).length) Slot.unset).toArray = ls at hl ⊢
  have hl : lv_has ls 2 [(0, .ref (base + (6 : Int).toNat)), (1, .int (Int32.ofInt x1))] := hl
  unfold f_X2_next at hw
  exact u_X2_next_0 X hn σ x1 h_x1 _ (lv_sub hl [0, 1] rfl) hw s.heap [] hP va_S.rf hok hro
theorem dX2_readDigit_0 : decode cX2_readDigit 0 = .ok (.aload_n 0, 1) := by decide +kernel
theorem dX2_readDigit_1 : decode cX2_readDigit 1 = .ok (.dup, 1) := by decide +kernel
theorem dX2_readDigit_2 : decode cX2_readDigit 2 = .ok (.getfield 19, 3) := by decide +kernel
theorem dX2_readDigit_5 : decode cX2_readDigit 5 = .ok (.iconst 1, 1) := by decide +kernel
theorem dX2_readDigit_6 : decode cX2_readDigit 6 = .ok (.iadd, 1) := by decide +kernel
theorem dX2_readDigit_7 : decode cX2_readDigit 7 = .ok (.putfield 19, 3) := by decide +kernel
theorem dX2_readDigit_10 : decode cX2_readDigit 10 = .ok (.aload_n 0, 1) := by decide +kernel
theorem dX2_readDigit_11 : decode cX2_readDigit 11 = .ok (.aload_n 0, 1) := by decide +kernel
theorem dX2_readDigit_12 : decode cX2_readDigit 12 = .ok (.getfield 19, 3) := by decide +kernel
theorem dX2_readDigit_15 : decode cX2_readDigit 15 = .ok (.invokevirtual 59, 3) := by decide +kernel
theorem dX2_readDigit_18 : decode cX2_readDigit 18 = .ok (.istore_n 2, 1) := by decide +kernel
theorem dX2_readDigit_19 : decode cX2_readDigit 19 = .ok (.iload_n 2, 1) := by decide +kernel
theorem dX2_readDigit_20 : decode cX2_readDigit 20 = .ok (.invokestatic 63, 3) := by decide +kernel
theorem dX2_readDigit_23 : decode cX2_readDigit 23 = .ok (.ifCond .ne 11, 3) := by decide +kernel
theorem dX2_readDigit_26 : decode cX2_readDigit 26 = .ok (.aload_n 0, 1) := by decide +kernel
theorem dX2_readDigit_27 : decode cX2_readDigit 27 = .ok (.iconst 1, 1) := by decide +kernel
theorem dX2_readDigit_28 : decode cX2_readDigit 28 = .ok (.invokevirtual 53, 3) := by decide +kernel
theorem dX2_readDigit_31 : decode cX2_readDigit 31 = .ok (.goto 22, 3) := by decide +kernel
theorem dX2_readDigit_34 : decode cX2_readDigit 34 = .ok (.aload_n 0, 1) := by decide +kernel
theorem dX2_readDigit_35 : decode cX2_readDigit 35 = .ok (.iload_n 2, 1) := by decide +kernel
theorem dX2_readDigit_36 : decode cX2_readDigit 36 = .ok (.bipush 48, 2) := by decide +kernel
theorem dX2_readDigit_38 : decode cX2_readDigit 38 = .ok (.isub, 1) := by decide +kernel
theorem dX2_readDigit_39 : decode cX2_readDigit 39 = .ok (.iload_n 1, 1) := by decide +kernel
theorem dX2_readDigit_40 : decode cX2_readDigit 40 = .ok (.iconst 2, 1) := by decide +kernel
theorem dX2_readDigit_41 : decode cX2_readDigit 41 = .ok (.isub, 1) := by decide +kernel
theorem dX2_readDigit_42 : decode cX2_readDigit 42 = .ok (.if_icmp .le 7, 3) := by decide +kernel
theorem dX2_readDigit_45 : decode cX2_readDigit 45 = .ok (.iconst 3, 1) := by decide +kernel
theorem dX2_readDigit_46 : decode cX2_readDigit 46 = .ok (.goto 4, 3) := by decide +kernel
theorem dX2_readDigit_49 : decode cX2_readDigit 49 = .ok (.iconst 0, 1) := by decide +kernel
theorem dX2_readDigit_50 : decode cX2_readDigit 50 = .ok (.invokevirtual 53, 3) := by decide +kernel
theorem dX2_readDigit_53 : decode cX2_readDigit 53 = .ok (.return_, 1) := by decide +kernel
def f_X2_readDigit_u53 (Q : ml_St → Prop) (σ : ml_St) : Prop :=
Q σ
def f_X2_readDigit_u50 (Q : ml_St → Prop) (σ : ml_St) (s1 : Int) : Prop :=
f_X2_takeItem σ s1 (fun σ1 =>
f_X2_readDigit_u53 Q σ1)
def f_X2_readDigit_u0 (Q : ml_St → Prop) (σ : ml_St) (x1 : Int) : Prop :=
∀ _ : I32 (σ 6 2),
I32 ((σ 6 2) + 1) ∧
∀ σ3, σ3 = ml_up σ 6 2 ((σ 6 2) + 1) →
∀ _ : I32 (σ3 6 2),
f_X2_next σ3 (σ3 6 2) (fun r5 σ5 => ∀ _ : I32 r5,
f_X2_isDigit σ5 r5 (fun r6 σ6 => ∀ _ : ml_B r6,
(r6 ≠ 0 →
I32 (r5 - 48) ∧
I32 (x1 - 2) ∧
(((r5 - 48) : Int) ≤ (x1 - 2) →
f_X2_readDigit_u50 Q σ6 0) ∧
(¬ (((r5 - 48) : Int) ≤ (x1 - 2)) →
f_X2_readDigit_u50 Q σ6 3)) ∧
(r6 = 0 →
f_X2_takeItem σ6 1 (fun σ11 =>
f_X2_readDigit_u53 Q σ11))))
def f_X2_readDigit (σ : ml_St) (x1 : Int) (Q : ml_St → Prop) : Prop := f_X2_readDigit_u0 Q σ x1
def rm_X2_readDigit : Room := { frames := 2, cells := 0, slots := 0, locals := 42 }
set_option maxRecDepth 100000 in
set_option maxHeartbeats 4000000 in
theorem u_X2_readDigit_53 {p : Program} {e : Env} {s : State} {m : MethodId} {args : Array Value} {below : List Frame} {meth : Method} {c : Code} {base : Nat} {D : va_G} {cA : Nat → ClassId} {n : Nat} {l : Launch} {Q : ml_St → Prop} (X : ml_X p s m c meth args D cA cX2_readDigit 3 RX2 none) (hn : 214 ≤ n) (σ : ml_St) (ls : Array Slot) (hl : lv_has ls 3 []) (hw : f_X2_readDigit_u53 Q σ) : ml_V p l e rm_X2_readDigit s m args below meth c (MQ below (ml_Qv base D cA n Q) args s 0 0 (ml_A base)) base D cA 0 0 n n σ (F0 m 53 ls []) := by
  unfold f_X2_readDigit_u53 at hw
  exact ml_vret (pc := 53) X hw dX2_readDigit_53
set_option maxRecDepth 100000 in
set_option maxHeartbeats 4000000 in
theorem u_X2_readDigit_50 {p : Program} {e : Env} {s : State} {m : MethodId} {args : Array Value} {below : List Frame} {meth : Method} {c : Code} {base : Nat} {D : va_G} {cA : Nat → ClassId} {n : Nat} {l : Launch} {Q : ml_St → Prop} (X : ml_X p s m c meth args D cA cX2_readDigit 3 RX2 none) (hn : 214 ≤ n) (σ : ml_St) (s1 : Int) (h_s1 : I32 s1) (ls : Array Slot) (hl : lv_has ls 3 []) (hw : f_X2_readDigit_u50 Q σ s1) : ml_V p l e rm_X2_readDigit s m args below meth c (MQ below (ml_Qv base D cA n Q) args s 0 0 (ml_A base)) base D cA 0 0 n n σ (F0 m 50 ls [.int (Int32.ofInt s1), .ref (base + (6 : Int).toNat)]) := by
  unfold f_X2_readDigit_u50 at hw
  refine ml_callvV (pc := 50) (rest := []) X [.int (Int32.ofInt s1)] (by decide) rfl (ml_c6 hn) (c_X2_takeItem l base D cA n hn σ s1 h_s1 _ hw) cv_X2_53 ⟨rfl, rfl⟩ ⟨by decide, by decide⟩ rfl rfl hl (Nat.le_of_ble_eq_true rfl) ⟨Nat.zero_le _, Nat.zero_le _⟩ dX2_readDigit_50 (fun σ1 hw => ?_)
  exact u_X2_readDigit_53 X hn σ1   _ (lv_sub hl [] rfl) hw
set_option maxRecDepth 100000 in
set_option maxHeartbeats 4000000 in
theorem u_X2_readDigit_0 {p : Program} {e : Env} {s : State} {m : MethodId} {args : Array Value} {below : List Frame} {meth : Method} {c : Code} {base : Nat} {D : va_G} {cA : Nat → ClassId} {n : Nat} {l : Launch} {Q : ml_St → Prop} (X : ml_X p s m c meth args D cA cX2_readDigit 3 RX2 none) (hn : 214 ≤ n) (σ : ml_St) (x1 : Int) (h_x1 : I32 x1) (ls : Array Slot) (hl : lv_has ls 3 [(0, .ref (base + (6 : Int).toNat)), (1, .int (Int32.ofInt x1))]) (hw : f_X2_readDigit_u0 Q σ x1) : ml_V p l e rm_X2_readDigit s m args below meth c (MQ below (ml_Qv base D cA n Q) args s 0 0 (ml_A base)) base D cA 0 0 n n σ (F0 m 0 ls []) := by
  unfold f_X2_readDigit_u0 at hw
  refine ml_aload_n (pc := 0) X hl 0 rfl rfl dX2_readDigit_0 ?_
  refine ml_dup (pc := 1) X dX2_readDigit_1 rfl ?_
  refine gf_X2_19 (pc := 2) X (ml_c6 hn) dX2_readDigit_2 (fun r1 => ?_)
  have hw := hw r1
  refine ml_iconst (pc := 5) X dX2_readDigit_5 ?_
  obtain ⟨v2, hw⟩ := hw
  refine ml_iadd (pc := 6) X dX2_readDigit_6 ?_
  refine pf_X2_19 (pc := 7) X (ml_c6 hn) v2 dX2_readDigit_7 (fun σ3 g3 => ?_)
  have hw := hw σ3 g3
  refine ml_aload_n (pc := 10) X hl 0 rfl rfl dX2_readDigit_10 ?_
  refine ml_aload_n (pc := 11) X hl 0 rfl rfl dX2_readDigit_11 ?_
  refine gf_X2_19 (pc := 12) X (ml_c6 hn) dX2_readDigit_12 (fun r4 => ?_)
  have hw := hw r4
  refine ml_calliV (pc := 15) (rest := []) X [.int (Int32.ofInt (σ3 6 2))] (by decide) rfl (ml_c6 hn) (c_X2_next l base D cA n hn σ3 (σ3 6 2) r4 _ hw) cv_X2_59 ⟨rfl, rfl⟩ ⟨by decide, by decide⟩ rfl rfl hl (Nat.le_of_ble_eq_true rfl) ⟨Nat.zero_le _, Nat.zero_le _⟩ dX2_readDigit_15 (fun r5 σ5 t5 hw => ?_)
  have hw := hw t5
  refine ml_istore_n (pc := 18) X rfl hl (by decide) (lst' := [(2, .int (Int32.ofInt r5)), (0, .ref (base + (6 : Int).toNat)), (1, .int (Int32.ofInt x1))]) rfl dX2_readDigit_18 (fun ls hl => ?_)
  refine ml_iload_n (pc := 19) X hl 0 rfl rfl dX2_readDigit_19 ?_
  refine ml_callzS (pc := 20) (rest := []) X [.int (Int32.ofInt r5)] (c_X2_isDigit l base D cA n hn σ5 r5 t5 _ hw) cv_X2_63 ⟨rfl, rfl⟩ ⟨by decide, by decide⟩ rfl rfl hl (Nat.le_of_ble_eq_true rfl) ⟨Nat.zero_le _, Nat.zero_le _⟩ dX2_readDigit_20 (fun r6 σ6 t6 hw => ?_)
  have hw := hw t6
  refine ml_if_ne (pc := 23) (tgt := 34) X t6.i dX2_readDigit_23 (by decide) (fun c7 => ?_) (fun c7 => ?_)
  · have hw := hw.1 c7
    refine ml_aload_n (pc := 34) X hl 1 rfl rfl dX2_readDigit_34 ?_
    refine ml_iload_n (pc := 35) X hl 0 rfl rfl dX2_readDigit_35 ?_
    refine ml_bipush (pc := 36) X dX2_readDigit_36 (by decide) ?_
    obtain ⟨v8, hw⟩ := hw
    refine ml_isub (pc := 38) X dX2_readDigit_38 ?_
    refine ml_iload_n (pc := 39) X hl 2 rfl rfl dX2_readDigit_39 ?_
    refine ml_iconst (pc := 40) X dX2_readDigit_40 ?_
    obtain ⟨v9, hw⟩ := hw
    refine ml_isub (pc := 41) X dX2_readDigit_41 ?_
    refine ml_icmp_le (pc := 42) (tgt := 49) X v8 v9 dX2_readDigit_42 (by decide) (fun c10 => ?_) (fun c10 => ?_)
    · have hw := hw.1 c10
      refine ml_iconst (pc := 49) X dX2_readDigit_49 ?_
      exact u_X2_readDigit_50 X hn σ6 0 ⟨by decide, by decide⟩ _ (lv_sub hl [] rfl) hw
    · have hw := hw.2 c10
      refine ml_iconst (pc := 45) X dX2_readDigit_45 ?_
      refine ml_goto (pc := 46) (tgt := 50) X dX2_readDigit_46 (by decide) ?_
      exact u_X2_readDigit_50 X hn σ6 3 ⟨by decide, by decide⟩ _ (lv_sub hl [] rfl) hw
  · have hw := hw.2 c7
    refine ml_aload_n (pc := 26) X hl 1 rfl rfl dX2_readDigit_26 ?_
    refine ml_iconst (pc := 27) X dX2_readDigit_27 ?_
    refine ml_callvV (pc := 28) (rest := []) X [.int (Int32.ofInt 1)] (by decide) rfl (ml_c6 hn) (c_X2_takeItem l base D cA n hn σ6 1 ⟨by decide, by decide⟩ _ hw) cv_X2_53 ⟨rfl, rfl⟩ ⟨by decide, by decide⟩ rfl rfl hl (Nat.le_of_ble_eq_true rfl) ⟨Nat.zero_le _, Nat.zero_le _⟩ dX2_readDigit_28 (fun σ11 hw => ?_)
    refine ml_goto (pc := 31) (tgt := 53) X dX2_readDigit_31 (by decide) ?_
    exact u_X2_readDigit_53 X hn σ11   _ (lv_sub hl [] rfl) hw
set_option maxRecDepth 100000 in
theorem c_X2_readDigit (l : Launch) (base : Nat) (D : va_G) (cA : Nat → ClassId) (n : Nat) (hn : 214 ≤ n) (σ : ml_St) (x1 : Int) (h_x1 : I32 x1) (Q : ml_St → Prop) (hw : f_X2_readDigit σ x1 Q) : Met l yX2_readDigit (Cond.code yX2_readDigit cX2_readDigit 3 none :: ml_T) rm_X2_readDigit (va_Pc [.ref (base + (6 : Int).toNat), .int (Int32.ofInt x1)] (ml_U base D cA n σ)) (ml_Qv base D cA n Q) 0 0 (ml_A base) := by
  refine Met.ofW (cc := cX2_readDigit) (maxL := 3) (ret := none) (by decide) rfl ?_
  intro p e s m args below meth c s₁ B hml hv
  obtain ⟨rfl, hP, hK, hok, hro⟩ := hv
  have X : ml_X p s m c meth _ D cA cX2_readDigit 3 RX2 none := ⟨B.exec, B.bytes, hml, findClass_of_methodNamed B.named, fun w hw => atoms_spec (ws := Cond.code yX2_readDigit cX2_readDigit 3 none :: ml_T) B.pre w (List.mem_cons_of_mem _ hw), hK, B.notSynchronized, B.returns⟩
  have hl := lv_entry [.ref (base + (6 : Int).toNat), .int (Int32.ofInt x1)] (n := 3) (Nat.le_of_ble_eq_true rfl)
  rw [lg_entry_eq]
  generalize (lg_sl [.ref (base + (6 : Int).toNat), .int (Int32.ofInt x1)] ++ List.replicate (3 - (lg_sl [.ref (base + (6 : Int).toNat), .int (Int32.ofInt x1)]).length) Slot.unset).toArray = ls at hl ⊢
  have hl : lv_has ls 3 [(0, .ref (base + (6 : Int).toNat)), (1, .int (Int32.ofInt x1))] := hl
  unfold f_X2_readDigit at hw
  exact u_X2_readDigit_0 X hn σ x1 h_x1 _ (lv_sub hl [0, 1] rfl) hw s.heap [] hP va_S.rf hok hro
theorem dX2_readOpening_0 : decode cX2_readOpening 0 = .ok (.aload_n 0, 1) := by decide +kernel
theorem dX2_readOpening_1 : decode cX2_readOpening 1 = .ok (.getfield 22, 3) := by decide +kernel
theorem dX2_readOpening_4 : decode cX2_readOpening 4 = .ok (.bipush 6, 2) := by decide +kernel
theorem dX2_readOpening_6 : decode cX2_readOpening 6 = .ok (.if_icmp .ne 15, 3) := by decide +kernel
theorem dX2_readOpening_9 : decode cX2_readOpening 9 = .ok (.aload_n 0, 1) := by decide +kernel
theorem dX2_readOpening_10 : decode cX2_readOpening 10 = .ok (.iconst 4, 1) := by decide +kernel
theorem dX2_readOpening_11 : decode cX2_readOpening 11 = .ok (.aload_n 0, 1) := by decide +kernel
theorem dX2_readOpening_12 : decode cX2_readOpening 12 = .ok (.getfield 19, 3) := by decide +kernel
theorem dX2_readOpening_15 : decode cX2_readOpening 15 = .ok (.invokestatic 39, 3) := by decide +kernel
theorem dX2_readOpening_18 : decode cX2_readOpening 18 = .ok (.putfield 32, 3) := by decide +kernel
theorem dX2_readOpening_21 : decode cX2_readOpening 21 = .ok (.aload_n 0, 1) := by decide +kernel
theorem dX2_readOpening_22 : decode cX2_readOpening 22 = .ok (.dup, 1) := by decide +kernel
theorem dX2_readOpening_23 : decode cX2_readOpening 23 = .ok (.getfield 22, 3) := by decide +kernel
theorem dX2_readOpening_26 : decode cX2_readOpening 26 = .ok (.iconst 1, 1) := by decide +kernel
theorem dX2_readOpening_27 : decode cX2_readOpening 27 = .ok (.iadd, 1) := by decide +kernel
theorem dX2_readOpening_28 : decode cX2_readOpening 28 = .ok (.putfield 22, 3) := by decide +kernel
theorem dX2_readOpening_31 : decode cX2_readOpening 31 = .ok (.aload_n 0, 1) := by decide +kernel
theorem dX2_readOpening_32 : decode cX2_readOpening 32 = .ok (.iconst 1, 1) := by decide +kernel
theorem dX2_readOpening_33 : decode cX2_readOpening 33 = .ok (.putfield 29, 3) := by decide +kernel
theorem dX2_readOpening_36 : decode cX2_readOpening 36 = .ok (.aload_n 0, 1) := by decide +kernel
theorem dX2_readOpening_37 : decode cX2_readOpening 37 = .ok (.iconst 0, 1) := by decide +kernel
theorem dX2_readOpening_38 : decode cX2_readOpening 38 = .ok (.putfield 25, 3) := by decide +kernel
theorem dX2_readOpening_41 : decode cX2_readOpening 41 = .ok (.return_, 1) := by decide +kernel
def f_X2_readOpening_u21 (Q : ml_St → Prop) (σ : ml_St) : Prop :=
∀ _ : I32 (σ 6 3),
I32 ((σ 6 3) + 1) ∧
∀ σ3, σ3 = ml_up σ 6 3 ((σ 6 3) + 1) →
∀ σ4, σ4 = ml_up σ3 6 5 1 →
∀ σ5, σ5 = ml_up σ4 6 4 0 →
Q σ5
def f_X2_readOpening_u0 (Q : ml_St → Prop) (σ : ml_St) : Prop :=
∀ _ : I32 (σ 6 3),
(((σ 6 3) : Int) ≠ 6 →
f_X2_readOpening_u21 Q σ) ∧
((σ 6 3) = 6 →
∀ _ : I32 (σ 6 2),
f_X2_faultAt σ 4 (σ 6 2) (fun r4 σ4 => ∀ _ : I32 r4,
∀ σ5, σ5 = ml_up σ4 6 6 r4 →
f_X2_readOpening_u21 Q σ5))
def f_X2_readOpening (σ : ml_St) (Q : ml_St → Prop) : Prop := f_X2_readOpening_u0 Q σ
def rm_X2_readOpening : Room := { frames := 1, cells := 0, slots := 0, locals := 21 }
set_option maxRecDepth 100000 in
set_option maxHeartbeats 4000000 in
theorem u_X2_readOpening_21 {p : Program} {e : Env} {s : State} {m : MethodId} {args : Array Value} {below : List Frame} {meth : Method} {c : Code} {base : Nat} {D : va_G} {cA : Nat → ClassId} {n : Nat} {l : Launch} {Q : ml_St → Prop} (X : ml_X p s m c meth args D cA cX2_readOpening 1 RX2 none) (hn : 214 ≤ n) (σ : ml_St) (ls : Array Slot) (hl : lv_has ls 1 [(0, .ref (base + (6 : Int).toNat))]) (hw : f_X2_readOpening_u21 Q σ) : ml_V p l e rm_X2_readOpening s m args below meth c (MQ below (ml_Qv base D cA n Q) args s 0 0 (ml_A base)) base D cA 0 0 n n σ (F0 m 21 ls []) := by
  unfold f_X2_readOpening_u21 at hw
  refine ml_aload_n (pc := 21) X hl 0 rfl rfl dX2_readOpening_21 ?_
  refine ml_dup (pc := 22) X dX2_readOpening_22 rfl ?_
  refine gf_X2_22 (pc := 23) X (ml_c6 hn) dX2_readOpening_23 (fun r1 => ?_)
  have hw := hw r1
  refine ml_iconst (pc := 26) X dX2_readOpening_26 ?_
  obtain ⟨v2, hw⟩ := hw
  refine ml_iadd (pc := 27) X dX2_readOpening_27 ?_
  refine pf_X2_22 (pc := 28) X (ml_c6 hn) v2 dX2_readOpening_28 (fun σ3 g3 => ?_)
  have hw := hw σ3 g3
  refine ml_aload_n (pc := 31) X hl 0 rfl rfl dX2_readOpening_31 ?_
  refine ml_iconst (pc := 32) X dX2_readOpening_32 ?_
  refine pf_X2_29 (pc := 33) X (ml_c6 hn) ⟨by decide, by decide⟩ dX2_readOpening_33 (fun σ4 g4 => ?_)
  have hw := hw σ4 g4
  refine ml_aload_n (pc := 36) X hl 0 rfl rfl dX2_readOpening_36 ?_
  refine ml_iconst (pc := 37) X dX2_readOpening_37 ?_
  refine pf_X2_25 (pc := 38) X (ml_c6 hn) ⟨by decide, by decide⟩ dX2_readOpening_38 (fun σ5 g5 => ?_)
  have hw := hw σ5 g5
  exact ml_vret (pc := 41) X hw dX2_readOpening_41
set_option maxRecDepth 100000 in
set_option maxHeartbeats 4000000 in
theorem u_X2_readOpening_0 {p : Program} {e : Env} {s : State} {m : MethodId} {args : Array Value} {below : List Frame} {meth : Method} {c : Code} {base : Nat} {D : va_G} {cA : Nat → ClassId} {n : Nat} {l : Launch} {Q : ml_St → Prop} (X : ml_X p s m c meth args D cA cX2_readOpening 1 RX2 none) (hn : 214 ≤ n) (σ : ml_St) (ls : Array Slot) (hl : lv_has ls 1 [(0, .ref (base + (6 : Int).toNat))]) (hw : f_X2_readOpening_u0 Q σ) : ml_V p l e rm_X2_readOpening s m args below meth c (MQ below (ml_Qv base D cA n Q) args s 0 0 (ml_A base)) base D cA 0 0 n n σ (F0 m 0 ls []) := by
  unfold f_X2_readOpening_u0 at hw
  refine ml_aload_n (pc := 0) X hl 0 rfl rfl dX2_readOpening_0 ?_
  refine gf_X2_22 (pc := 1) X (ml_c6 hn) dX2_readOpening_1 (fun r1 => ?_)
  have hw := hw r1
  refine ml_bipush (pc := 4) X dX2_readOpening_4 (by decide) ?_
  refine ml_icmp_ne (pc := 6) (tgt := 21) X r1 ⟨by decide, by decide⟩ dX2_readOpening_6 (by decide) (fun c2 => ?_) (fun c2 => ?_)
  · have hw := hw.1 c2
    exact u_X2_readOpening_21 X hn σ   _ (lv_sub hl [0] rfl) hw
  · have hw := hw.2 c2
    refine ml_aload_n (pc := 9) X hl 0 rfl rfl dX2_readOpening_9 ?_
    refine ml_iconst (pc := 10) X dX2_readOpening_10 ?_
    refine ml_aload_n (pc := 11) X hl 0 rfl rfl dX2_readOpening_11 ?_
    refine gf_X2_19 (pc := 12) X (ml_c6 hn) dX2_readOpening_12 (fun r3 => ?_)
    have hw := hw r3
    refine ml_calliS (pc := 15) (rest := [.ref (base + (6 : Int).toNat)]) X [.int (Int32.ofInt 4), .int (Int32.ofInt (σ 6 2))] (c_X2_faultAt l base D cA n hn σ 4 (σ 6 2) ⟨by decide, by decide⟩ r3 _ hw) cv_X2_39 ⟨rfl, rfl⟩ ⟨by decide, by decide⟩ rfl rfl hl (Nat.le_of_ble_eq_true rfl) ⟨Nat.zero_le _, Nat.zero_le _⟩ dX2_readOpening_15 (fun r4 σ4 t4 hw => ?_)
    have hw := hw t4
    refine pf_X2_32 (pc := 18) X (ml_c6 hn) t4 dX2_readOpening_18 (fun σ5 g5 => ?_)
    have hw := hw σ5 g5
    exact u_X2_readOpening_21 X hn σ5   _ (lv_sub hl [0] rfl) hw
set_option maxRecDepth 100000 in
theorem c_X2_readOpening (l : Launch) (base : Nat) (D : va_G) (cA : Nat → ClassId) (n : Nat) (hn : 214 ≤ n) (σ : ml_St) (Q : ml_St → Prop) (hw : f_X2_readOpening σ Q) : Met l yX2_readOpening (Cond.code yX2_readOpening cX2_readOpening 1 none :: ml_T) rm_X2_readOpening (va_Pc [.ref (base + (6 : Int).toNat)] (ml_U base D cA n σ)) (ml_Qv base D cA n Q) 0 0 (ml_A base) := by
  refine Met.ofW (cc := cX2_readOpening) (maxL := 1) (ret := none) (by decide) rfl ?_
  intro p e s m args below meth c s₁ B hml hv
  obtain ⟨rfl, hP, hK, hok, hro⟩ := hv
  have X : ml_X p s m c meth _ D cA cX2_readOpening 1 RX2 none := ⟨B.exec, B.bytes, hml, findClass_of_methodNamed B.named, fun w hw => atoms_spec (ws := Cond.code yX2_readOpening cX2_readOpening 1 none :: ml_T) B.pre w (List.mem_cons_of_mem _ hw), hK, B.notSynchronized, B.returns⟩
  have hl := lv_entry [.ref (base + (6 : Int).toNat)] (n := 1) (Nat.le_of_ble_eq_true rfl)
  rw [lg_entry_eq]
  generalize (lg_sl [.ref (base + (6 : Int).toNat)] ++ List.replicate (1 - (lg_sl [.ref (base + (6 : Int).toNat)]).length) Slot.unset).toArray = ls at hl ⊢
  have hl : lv_has ls 1 [(0, .ref (base + (6 : Int).toNat))] := hl
  unfold f_X2_readOpening at hw
  exact u_X2_readOpening_0 X hn σ  _ (lv_sub hl [0] rfl) hw s.heap [] hP va_S.rf hok hro
theorem dX2_readTimes_0 : decode cX2_readTimes 0 = .ok (.iconst 0, 1) := by decide +kernel
theorem dX2_readTimes_1 : decode cX2_readTimes 1 = .ok (.istore_n 1, 1) := by decide +kernel
theorem dX2_readTimes_2 : decode cX2_readTimes 2 = .ok (.iload_n 1, 1) := by decide +kernel
theorem dX2_readTimes_3 : decode cX2_readTimes 3 = .ok (.bipush 9, 2) := by decide +kernel
theorem dX2_readTimes_5 : decode cX2_readTimes 5 = .ok (.if_icmp .ge 35, 3) := by decide +kernel
theorem dX2_readTimes_8 : decode cX2_readTimes 8 = .ok (.aload_n 0, 1) := by decide +kernel
theorem dX2_readTimes_9 : decode cX2_readTimes 9 = .ok (.aload_n 0, 1) := by decide +kernel
theorem dX2_readTimes_10 : decode cX2_readTimes 10 = .ok (.getfield 19, 3) := by decide +kernel
theorem dX2_readTimes_13 : decode cX2_readTimes 13 = .ok (.iconst 1, 1) := by decide +kernel
theorem dX2_readTimes_14 : decode cX2_readTimes 14 = .ok (.iadd, 1) := by decide +kernel
theorem dX2_readTimes_15 : decode cX2_readTimes 15 = .ok (.invokevirtual 59, 3) := by decide +kernel
theorem dX2_readTimes_18 : decode cX2_readTimes 18 = .ok (.invokestatic 63, 3) := by decide +kernel
theorem dX2_readTimes_21 : decode cX2_readTimes 21 = .ok (.ifCond .eq 19, 3) := by decide +kernel
theorem dX2_readTimes_24 : decode cX2_readTimes 24 = .ok (.iinc 1 1, 3) := by decide +kernel
theorem dX2_readTimes_27 : decode cX2_readTimes 27 = .ok (.aload_n 0, 1) := by decide +kernel
theorem dX2_readTimes_28 : decode cX2_readTimes 28 = .ok (.dup, 1) := by decide +kernel
theorem dX2_readTimes_29 : decode cX2_readTimes 29 = .ok (.getfield 19, 3) := by decide +kernel
theorem dX2_readTimes_32 : decode cX2_readTimes 32 = .ok (.iconst 1, 1) := by decide +kernel
theorem dX2_readTimes_33 : decode cX2_readTimes 33 = .ok (.iadd, 1) := by decide +kernel
theorem dX2_readTimes_34 : decode cX2_readTimes 34 = .ok (.putfield 19, 3) := by decide +kernel
theorem dX2_readTimes_37 : decode cX2_readTimes 37 = .ok (.goto (-35), 3) := by decide +kernel
theorem dX2_readTimes_40 : decode cX2_readTimes 40 = .ok (.iload_n 1, 1) := by decide +kernel
theorem dX2_readTimes_41 : decode cX2_readTimes 41 = .ok (.ifCond .ne 20, 3) := by decide +kernel
theorem dX2_readTimes_44 : decode cX2_readTimes 44 = .ok (.aload_n 0, 1) := by decide +kernel
theorem dX2_readTimes_45 : decode cX2_readTimes 45 = .ok (.iconst 1, 1) := by decide +kernel
theorem dX2_readTimes_46 : decode cX2_readTimes 46 = .ok (.aload_n 0, 1) := by decide +kernel
theorem dX2_readTimes_47 : decode cX2_readTimes 47 = .ok (.getfield 19, 3) := by decide +kernel
theorem dX2_readTimes_50 : decode cX2_readTimes 50 = .ok (.iconst 1, 1) := by decide +kernel
theorem dX2_readTimes_51 : decode cX2_readTimes 51 = .ok (.iadd, 1) := by decide +kernel
theorem dX2_readTimes_52 : decode cX2_readTimes 52 = .ok (.invokestatic 39, 3) := by decide +kernel
theorem dX2_readTimes_55 : decode cX2_readTimes 55 = .ok (.putfield 32, 3) := by decide +kernel
theorem dX2_readTimes_58 : decode cX2_readTimes 58 = .ok (.goto 33, 3) := by decide +kernel
theorem dX2_readTimes_61 : decode cX2_readTimes 61 = .ok (.aload_n 0, 1) := by decide +kernel
theorem dX2_readTimes_62 : decode cX2_readTimes 62 = .ok (.aload_n 0, 1) := by decide +kernel
theorem dX2_readTimes_63 : decode cX2_readTimes 63 = .ok (.getfield 19, 3) := by decide +kernel
theorem dX2_readTimes_66 : decode cX2_readTimes 66 = .ok (.iconst 1, 1) := by decide +kernel
theorem dX2_readTimes_67 : decode cX2_readTimes 67 = .ok (.iadd, 1) := by decide +kernel
theorem dX2_readTimes_68 : decode cX2_readTimes 68 = .ok (.invokevirtual 59, 3) := by decide +kernel
theorem dX2_readTimes_71 : decode cX2_readTimes 71 = .ok (.invokestatic 63, 3) := by decide +kernel
theorem dX2_readTimes_74 : decode cX2_readTimes 74 = .ok (.ifCond .eq 17, 3) := by decide +kernel
theorem dX2_readTimes_77 : decode cX2_readTimes 77 = .ok (.aload_n 0, 1) := by decide +kernel
theorem dX2_readTimes_78 : decode cX2_readTimes 78 = .ok (.iconst 2, 1) := by decide +kernel
theorem dX2_readTimes_79 : decode cX2_readTimes 79 = .ok (.aload_n 0, 1) := by decide +kernel
theorem dX2_readTimes_80 : decode cX2_readTimes 80 = .ok (.getfield 19, 3) := by decide +kernel
theorem dX2_readTimes_83 : decode cX2_readTimes 83 = .ok (.iconst 1, 1) := by decide +kernel
theorem dX2_readTimes_84 : decode cX2_readTimes 84 = .ok (.iadd, 1) := by decide +kernel
theorem dX2_readTimes_85 : decode cX2_readTimes 85 = .ok (.invokestatic 39, 3) := by decide +kernel
theorem dX2_readTimes_88 : decode cX2_readTimes 88 = .ok (.putfield 32, 3) := by decide +kernel
theorem dX2_readTimes_91 : decode cX2_readTimes 91 = .ok (.aload_n 0, 1) := by decide +kernel
theorem dX2_readTimes_92 : decode cX2_readTimes 92 = .ok (.iconst 0, 1) := by decide +kernel
theorem dX2_readTimes_93 : decode cX2_readTimes 93 = .ok (.putfield 25, 3) := by decide +kernel
theorem dX2_readTimes_96 : decode cX2_readTimes 96 = .ok (.return_, 1) := by decide +kernel
def f_X2_readTimes_u2 (Q : ml_St → Prop) (K40 : ml_St → Int → Prop) : Nat → ml_St → Int → Prop
| 0, _, _ => False
| N + 1, σ, x1 =>
(9 ≤ x1 →
K40 σ x1) ∧
(¬ (9 ≤ x1) →
∀ _ : I32 (σ 6 2),
I32 ((σ 6 2) + 1) ∧
f_X2_next σ ((σ 6 2) + 1) (fun r4 σ4 => ∀ _ : I32 r4,
f_X2_isDigit σ4 r4 (fun r5 σ5 => ∀ _ : ml_B r5,
(r5 = 0 →
K40 σ5 x1) ∧
(r5 ≠ 0 →
I32 (x1 + 1) ∧
∀ y7 : Int, y7 = x1 + 1 →
∀ _ : I32 (σ5 6 2),
I32 ((σ5 6 2) + 1) ∧
∀ σ10, σ10 = ml_up σ5 6 2 ((σ5 6 2) + 1) →
f_X2_readTimes_u2 Q K40 N σ10 y7))))
def f_X2_readTimes_u91 (Q : ml_St → Prop) (σ : ml_St) : Prop :=
∀ σ1, σ1 = ml_up σ 6 4 0 →
Q σ1
def f_X2_readTimes_u40 (Q : ml_St → Prop) (σ : ml_St) (x1 : Int) : Prop :=
(x1 ≠ 0 →
∀ _ : I32 (σ 6 2),
I32 ((σ 6 2) + 1) ∧
f_X2_next σ ((σ 6 2) + 1) (fun r4 σ4 => ∀ _ : I32 r4,
f_X2_isDigit σ4 r4 (fun r5 σ5 => ∀ _ : ml_B r5,
(r5 = 0 →
f_X2_readTimes_u91 Q σ5) ∧
(r5 ≠ 0 →
∀ _ : I32 (σ5 6 2),
I32 ((σ5 6 2) + 1) ∧
f_X2_faultAt σ5 2 ((σ5 6 2) + 1) (fun r9 σ9 => ∀ _ : I32 r9,
∀ σ10, σ10 = ml_up σ9 6 6 r9 →
f_X2_readTimes_u91 Q σ10))))) ∧
(x1 = 0 →
∀ _ : I32 (σ 6 2),
I32 ((σ 6 2) + 1) ∧
f_X2_faultAt σ 1 ((σ 6 2) + 1) (fun r13 σ13 => ∀ _ : I32 r13,
∀ σ14, σ14 = ml_up σ13 6 6 r13 →
f_X2_readTimes_u91 Q σ14))
def f_X2_readTimes_u0 (Q : ml_St → Prop) (σ : ml_St) : Prop :=
∃ N1, f_X2_readTimes_u2 Q (f_X2_readTimes_u40 Q) N1 σ 0
def f_X2_readTimes (σ : ml_St) (Q : ml_St → Prop) : Prop := f_X2_readTimes_u0 Q σ
def rm_X2_readTimes : Room := { frames := 1, cells := 0, slots := 0, locals := 21 }
set_option maxRecDepth 100000 in
set_option maxHeartbeats 4000000 in
theorem u_X2_readTimes_2 {p : Program} {e : Env} {s : State} {m : MethodId} {args : Array Value} {below : List Frame} {meth : Method} {c : Code} {base : Nat} {D : va_G} {cA : Nat → ClassId} {n : Nat} {l : Launch} {Q : ml_St → Prop} {K40 : ml_St → Int → Prop} (X : ml_X p s m c meth args D cA cX2_readTimes 2 RX2 none) (hn : 214 ≤ n) (hK40 : ∀ (σ : ml_St) (x1 : Int) (h_x1 : I32 x1) (ls : Array Slot), lv_has ls 2 [(0, .ref (base + (6 : Int).toNat)), (1, .int (Int32.ofInt x1))] → K40 σ x1 → ml_V p l e rm_X2_readTimes s m args below meth c (MQ below (ml_Qv base D cA n Q) args s 0 0 (ml_A base)) base D cA 0 0 n n σ (F0 m 40 ls [])) : ∀ (N : Nat) (σ : ml_St) (x1 : Int) (h_x1 : I32 x1) (ls : Array Slot), lv_has ls 2 [(0, .ref (base + (6 : Int).toNat)), (1, .int (Int32.ofInt x1))] → f_X2_readTimes_u2 Q K40 N σ x1 → ml_V p l e rm_X2_readTimes s m args below meth c (MQ below (ml_Qv base D cA n Q) args s 0 0 (ml_A base)) base D cA 0 0 n n σ (F0 m 2 ls []) := by
  intro N
  induction N with
  | zero => intro σ x1 h_x1 ls hl hw; exact False.elim hw
  | succ N ih =>
    intro σ x1 h_x1 ls hl hw
    unfold f_X2_readTimes_u2 at hw
    refine ml_iload_n (pc := 2) X hl 1 rfl rfl dX2_readTimes_2 ?_
    refine ml_bipush (pc := 3) X dX2_readTimes_3 (by decide) ?_
    refine ml_icmp_ge (pc := 5) (tgt := 40) X h_x1 ⟨by decide, by decide⟩ dX2_readTimes_5 (by decide) (fun c1 => ?_) (fun c1 => ?_)
    · have hw := hw.1 c1
      exact hK40 σ x1 h_x1 _ (lv_sub hl [0, 1] rfl) hw
    · have hw := hw.2 c1
      refine ml_aload_n (pc := 8) X hl 0 rfl rfl dX2_readTimes_8 ?_
      refine ml_aload_n (pc := 9) X hl 0 rfl rfl dX2_readTimes_9 ?_
      refine gf_X2_19 (pc := 10) X (ml_c6 hn) dX2_readTimes_10 (fun r2 => ?_)
      have hw := hw r2
      refine ml_iconst (pc := 13) X dX2_readTimes_13 ?_
      obtain ⟨v3, hw⟩ := hw
      refine ml_iadd (pc := 14) X dX2_readTimes_14 ?_
      refine ml_calliV (pc := 15) (rest := []) X [.int (Int32.ofInt ((σ 6 2) + 1))] (by decide) rfl (ml_c6 hn) (c_X2_next l base D cA n hn σ ((σ 6 2) + 1) v3 _ hw) cv_X2_59 ⟨rfl, rfl⟩ ⟨by decide, by decide⟩ rfl rfl hl (Nat.le_of_ble_eq_true rfl) ⟨Nat.zero_le _, Nat.zero_le _⟩ dX2_readTimes_15 (fun r4 σ4 t4 hw => ?_)
      have hw := hw t4
      refine ml_callzS (pc := 18) (rest := []) X [.int (Int32.ofInt r4)] (c_X2_isDigit l base D cA n hn σ4 r4 t4 _ hw) cv_X2_63 ⟨rfl, rfl⟩ ⟨by decide, by decide⟩ rfl rfl hl (Nat.le_of_ble_eq_true rfl) ⟨Nat.zero_le _, Nat.zero_le _⟩ dX2_readTimes_18 (fun r5 σ5 t5 hw => ?_)
      have hw := hw t5
      refine ml_if_eq (pc := 21) (tgt := 40) X t5.i dX2_readTimes_21 (by decide) (fun c6 => ?_) (fun c6 => ?_)
      · have hw := hw.1 c6
        exact hK40 σ5 x1 h_x1 _ (lv_sub hl [0, 1] rfl) hw
      · have hw := hw.2 c6
        obtain ⟨v7, hw⟩ := hw
        obtain ⟨y7, e7⟩ : ∃ y : Int, y = x1 + 1 := ⟨_, rfl⟩
        have hw := hw y7 e7
        rw [← e7] at v7
        refine ml_iinc (pc := 24) X e7 hl 1 rfl (by decide) (lst' := [(1, .int (Int32.ofInt y7)), (0, .ref (base + (6 : Int).toNat))]) rfl dX2_readTimes_24 (fun ls hl => ?_)
        refine ml_aload_n (pc := 27) X hl 1 rfl rfl dX2_readTimes_27 ?_
        refine ml_dup (pc := 28) X dX2_readTimes_28 rfl ?_
        refine gf_X2_19 (pc := 29) X (ml_c6 hn) dX2_readTimes_29 (fun r8 => ?_)
        have hw := hw r8
        refine ml_iconst (pc := 32) X dX2_readTimes_32 ?_
        obtain ⟨v9, hw⟩ := hw
        refine ml_iadd (pc := 33) X dX2_readTimes_33 ?_
        refine pf_X2_19 (pc := 34) X (ml_c6 hn) v9 dX2_readTimes_34 (fun σ10 g10 => ?_)
        have hw := hw σ10 g10
        refine ml_goto (pc := 37) (tgt := 2) X dX2_readTimes_37 (by decide) ?_
        exact ih σ10 y7 v7 _ (lv_sub hl [1, 0] rfl) hw
set_option maxRecDepth 100000 in
set_option maxHeartbeats 4000000 in
theorem u_X2_readTimes_91 {p : Program} {e : Env} {s : State} {m : MethodId} {args : Array Value} {below : List Frame} {meth : Method} {c : Code} {base : Nat} {D : va_G} {cA : Nat → ClassId} {n : Nat} {l : Launch} {Q : ml_St → Prop} (X : ml_X p s m c meth args D cA cX2_readTimes 2 RX2 none) (hn : 214 ≤ n) (σ : ml_St) (ls : Array Slot) (hl : lv_has ls 2 [(0, .ref (base + (6 : Int).toNat))]) (hw : f_X2_readTimes_u91 Q σ) : ml_V p l e rm_X2_readTimes s m args below meth c (MQ below (ml_Qv base D cA n Q) args s 0 0 (ml_A base)) base D cA 0 0 n n σ (F0 m 91 ls []) := by
  unfold f_X2_readTimes_u91 at hw
  refine ml_aload_n (pc := 91) X hl 0 rfl rfl dX2_readTimes_91 ?_
  refine ml_iconst (pc := 92) X dX2_readTimes_92 ?_
  refine pf_X2_25 (pc := 93) X (ml_c6 hn) ⟨by decide, by decide⟩ dX2_readTimes_93 (fun σ1 g1 => ?_)
  have hw := hw σ1 g1
  exact ml_vret (pc := 96) X hw dX2_readTimes_96
set_option maxRecDepth 100000 in
set_option maxHeartbeats 4000000 in
theorem u_X2_readTimes_40 {p : Program} {e : Env} {s : State} {m : MethodId} {args : Array Value} {below : List Frame} {meth : Method} {c : Code} {base : Nat} {D : va_G} {cA : Nat → ClassId} {n : Nat} {l : Launch} {Q : ml_St → Prop} (X : ml_X p s m c meth args D cA cX2_readTimes 2 RX2 none) (hn : 214 ≤ n) (σ : ml_St) (x1 : Int) (h_x1 : I32 x1) (ls : Array Slot) (hl : lv_has ls 2 [(0, .ref (base + (6 : Int).toNat)), (1, .int (Int32.ofInt x1))]) (hw : f_X2_readTimes_u40 Q σ x1) : ml_V p l e rm_X2_readTimes s m args below meth c (MQ below (ml_Qv base D cA n Q) args s 0 0 (ml_A base)) base D cA 0 0 n n σ (F0 m 40 ls []) := by
  unfold f_X2_readTimes_u40 at hw
  refine ml_iload_n (pc := 40) X hl 1 rfl rfl dX2_readTimes_40 ?_
  refine ml_if_ne (pc := 41) (tgt := 61) X h_x1 dX2_readTimes_41 (by decide) (fun c1 => ?_) (fun c1 => ?_)
  · have hw := hw.1 c1
    refine ml_aload_n (pc := 61) X hl 0 rfl rfl dX2_readTimes_61 ?_
    refine ml_aload_n (pc := 62) X hl 0 rfl rfl dX2_readTimes_62 ?_
    refine gf_X2_19 (pc := 63) X (ml_c6 hn) dX2_readTimes_63 (fun r2 => ?_)
    have hw := hw r2
    refine ml_iconst (pc := 66) X dX2_readTimes_66 ?_
    obtain ⟨v3, hw⟩ := hw
    refine ml_iadd (pc := 67) X dX2_readTimes_67 ?_
    refine ml_calliV (pc := 68) (rest := []) X [.int (Int32.ofInt ((σ 6 2) + 1))] (by decide) rfl (ml_c6 hn) (c_X2_next l base D cA n hn σ ((σ 6 2) + 1) v3 _ hw) cv_X2_59 ⟨rfl, rfl⟩ ⟨by decide, by decide⟩ rfl rfl hl (Nat.le_of_ble_eq_true rfl) ⟨Nat.zero_le _, Nat.zero_le _⟩ dX2_readTimes_68 (fun r4 σ4 t4 hw => ?_)
    have hw := hw t4
    refine ml_callzS (pc := 71) (rest := []) X [.int (Int32.ofInt r4)] (c_X2_isDigit l base D cA n hn σ4 r4 t4 _ hw) cv_X2_63 ⟨rfl, rfl⟩ ⟨by decide, by decide⟩ rfl rfl hl (Nat.le_of_ble_eq_true rfl) ⟨Nat.zero_le _, Nat.zero_le _⟩ dX2_readTimes_71 (fun r5 σ5 t5 hw => ?_)
    have hw := hw t5
    refine ml_if_eq (pc := 74) (tgt := 91) X t5.i dX2_readTimes_74 (by decide) (fun c6 => ?_) (fun c6 => ?_)
    · have hw := hw.1 c6
      exact u_X2_readTimes_91 X hn σ5   _ (lv_sub hl [0] rfl) hw
    · have hw := hw.2 c6
      refine ml_aload_n (pc := 77) X hl 0 rfl rfl dX2_readTimes_77 ?_
      refine ml_iconst (pc := 78) X dX2_readTimes_78 ?_
      refine ml_aload_n (pc := 79) X hl 0 rfl rfl dX2_readTimes_79 ?_
      refine gf_X2_19 (pc := 80) X (ml_c6 hn) dX2_readTimes_80 (fun r7 => ?_)
      have hw := hw r7
      refine ml_iconst (pc := 83) X dX2_readTimes_83 ?_
      obtain ⟨v8, hw⟩ := hw
      refine ml_iadd (pc := 84) X dX2_readTimes_84 ?_
      refine ml_calliS (pc := 85) (rest := [.ref (base + (6 : Int).toNat)]) X [.int (Int32.ofInt 2), .int (Int32.ofInt ((σ5 6 2) + 1))] (c_X2_faultAt l base D cA n hn σ5 2 ((σ5 6 2) + 1) ⟨by decide, by decide⟩ v8 _ hw) cv_X2_39 ⟨rfl, rfl⟩ ⟨by decide, by decide⟩ rfl rfl hl (Nat.le_of_ble_eq_true rfl) ⟨Nat.zero_le _, Nat.zero_le _⟩ dX2_readTimes_85 (fun r9 σ9 t9 hw => ?_)
      have hw := hw t9
      refine pf_X2_32 (pc := 88) X (ml_c6 hn) t9 dX2_readTimes_88 (fun σ10 g10 => ?_)
      have hw := hw σ10 g10
      exact u_X2_readTimes_91 X hn σ10   _ (lv_sub hl [0] rfl) hw
  · have hw := hw.2 c1
    refine ml_aload_n (pc := 44) X hl 0 rfl rfl dX2_readTimes_44 ?_
    refine ml_iconst (pc := 45) X dX2_readTimes_45 ?_
    refine ml_aload_n (pc := 46) X hl 0 rfl rfl dX2_readTimes_46 ?_
    refine gf_X2_19 (pc := 47) X (ml_c6 hn) dX2_readTimes_47 (fun r11 => ?_)
    have hw := hw r11
    refine ml_iconst (pc := 50) X dX2_readTimes_50 ?_
    obtain ⟨v12, hw⟩ := hw
    refine ml_iadd (pc := 51) X dX2_readTimes_51 ?_
    refine ml_calliS (pc := 52) (rest := [.ref (base + (6 : Int).toNat)]) X [.int (Int32.ofInt 1), .int (Int32.ofInt ((σ 6 2) + 1))] (c_X2_faultAt l base D cA n hn σ 1 ((σ 6 2) + 1) ⟨by decide, by decide⟩ v12 _ hw) cv_X2_39 ⟨rfl, rfl⟩ ⟨by decide, by decide⟩ rfl rfl hl (Nat.le_of_ble_eq_true rfl) ⟨Nat.zero_le _, Nat.zero_le _⟩ dX2_readTimes_52 (fun r13 σ13 t13 hw => ?_)
    have hw := hw t13
    refine pf_X2_32 (pc := 55) X (ml_c6 hn) t13 dX2_readTimes_55 (fun σ14 g14 => ?_)
    have hw := hw σ14 g14
    refine ml_goto (pc := 58) (tgt := 91) X dX2_readTimes_58 (by decide) ?_
    exact u_X2_readTimes_91 X hn σ14   _ (lv_sub hl [0] rfl) hw
set_option maxRecDepth 100000 in
set_option maxHeartbeats 4000000 in
theorem u_X2_readTimes_0 {p : Program} {e : Env} {s : State} {m : MethodId} {args : Array Value} {below : List Frame} {meth : Method} {c : Code} {base : Nat} {D : va_G} {cA : Nat → ClassId} {n : Nat} {l : Launch} {Q : ml_St → Prop} (X : ml_X p s m c meth args D cA cX2_readTimes 2 RX2 none) (hn : 214 ≤ n) (σ : ml_St) (ls : Array Slot) (hl : lv_has ls 2 [(0, .ref (base + (6 : Int).toNat))]) (hw : f_X2_readTimes_u0 Q σ) : ml_V p l e rm_X2_readTimes s m args below meth c (MQ below (ml_Qv base D cA n Q) args s 0 0 (ml_A base)) base D cA 0 0 n n σ (F0 m 0 ls []) := by
  unfold f_X2_readTimes_u0 at hw
  refine ml_iconst (pc := 0) X dX2_readTimes_0 ?_
  refine ml_istore_n (pc := 1) X rfl hl (by decide) (lst' := [(1, .int (Int32.ofInt 0)), (0, .ref (base + (6 : Int).toNat))]) rfl dX2_readTimes_1 (fun ls hl => ?_)
  obtain ⟨N0, hw⟩ := hw
  exact u_X2_readTimes_2 X hn (fun σ x1 h_x1 ls hl hw => u_X2_readTimes_40 X hn σ x1 h_x1 ls hl hw) N0 σ 0 ⟨by decide, by decide⟩ _ (lv_sub hl [1, 0] rfl) hw
set_option maxRecDepth 100000 in
theorem c_X2_readTimes (l : Launch) (base : Nat) (D : va_G) (cA : Nat → ClassId) (n : Nat) (hn : 214 ≤ n) (σ : ml_St) (Q : ml_St → Prop) (hw : f_X2_readTimes σ Q) : Met l yX2_readTimes (Cond.code yX2_readTimes cX2_readTimes 2 none :: ml_T) rm_X2_readTimes (va_Pc [.ref (base + (6 : Int).toNat)] (ml_U base D cA n σ)) (ml_Qv base D cA n Q) 0 0 (ml_A base) := by
  refine Met.ofW (cc := cX2_readTimes) (maxL := 2) (ret := none) (by decide) rfl ?_
  intro p e s m args below meth c s₁ B hml hv
  obtain ⟨rfl, hP, hK, hok, hro⟩ := hv
  have X : ml_X p s m c meth _ D cA cX2_readTimes 2 RX2 none := ⟨B.exec, B.bytes, hml, findClass_of_methodNamed B.named, fun w hw => atoms_spec (ws := Cond.code yX2_readTimes cX2_readTimes 2 none :: ml_T) B.pre w (List.mem_cons_of_mem _ hw), hK, B.notSynchronized, B.returns⟩
  have hl := lv_entry [.ref (base + (6 : Int).toNat)] (n := 2) (Nat.le_of_ble_eq_true rfl)
  rw [lg_entry_eq]
  generalize (lg_sl [.ref (base + (6 : Int).toNat)] ++ List.replicate (2 - (lg_sl [.ref (base + (6 : Int).toNat)]).length) Slot.unset).toArray = ls at hl ⊢
  have hl : lv_has ls 2 [(0, .ref (base + (6 : Int).toNat))] := hl
  unfold f_X2_readTimes at hw
  exact u_X2_readTimes_0 X hn σ  _ (lv_sub hl [0] rfl) hw s.heap [] hP va_S.rf hok hro
theorem dX2_read_0 : decode cX2_read 0 = .ok (.iload_n 1, 1) := by decide +kernel
theorem dX2_read_1 : decode cX2_read 1 = .ok (.bipush 40, 2) := by decide +kernel
theorem dX2_read_3 : decode cX2_read 3 = .ok (.if_icmp .ne 10, 3) := by decide +kernel
theorem dX2_read_6 : decode cX2_read 6 = .ok (.aload_n 0, 1) := by decide +kernel
theorem dX2_read_7 : decode cX2_read 7 = .ok (.invokevirtual 43, 3) := by decide +kernel
theorem dX2_read_10 : decode cX2_read 10 = .ok (.goto 100, 3) := by decide +kernel
theorem dX2_read_13 : decode cX2_read 13 = .ok (.iload_n 1, 1) := by decide +kernel
theorem dX2_read_14 : decode cX2_read 14 = .ok (.bipush 41, 2) := by decide +kernel
theorem dX2_read_16 : decode cX2_read 16 = .ok (.if_icmp .ne 10, 3) := by decide +kernel
theorem dX2_read_19 : decode cX2_read 19 = .ok (.aload_n 0, 1) := by decide +kernel
theorem dX2_read_20 : decode cX2_read 20 = .ok (.invokevirtual 46, 3) := by decide +kernel
theorem dX2_read_23 : decode cX2_read 23 = .ok (.goto 87, 3) := by decide +kernel
theorem dX2_read_26 : decode cX2_read 26 = .ok (.iload_n 1, 1) := by decide +kernel
theorem dX2_read_27 : decode cX2_read 27 = .ok (.bipush 120, 2) := by decide +kernel
theorem dX2_read_29 : decode cX2_read 29 = .ok (.if_icmp .eq 9, 3) := by decide +kernel
theorem dX2_read_32 : decode cX2_read 32 = .ok (.iload_n 1, 1) := by decide +kernel
theorem dX2_read_33 : decode cX2_read 33 = .ok (.bipush 117, 2) := by decide +kernel
theorem dX2_read_35 : decode cX2_read 35 = .ok (.if_icmp .ne 11, 3) := by decide +kernel
theorem dX2_read_38 : decode cX2_read 38 = .ok (.aload_n 0, 1) := by decide +kernel
theorem dX2_read_39 : decode cX2_read 39 = .ok (.iload_n 2, 1) := by decide +kernel
theorem dX2_read_40 : decode cX2_read 40 = .ok (.invokevirtual 49, 3) := by decide +kernel
theorem dX2_read_43 : decode cX2_read 43 = .ok (.goto 67, 3) := by decide +kernel
theorem dX2_read_46 : decode cX2_read 46 = .ok (.iload_n 1, 1) := by decide +kernel
theorem dX2_read_47 : decode cX2_read 47 = .ok (.bipush 65, 2) := by decide +kernel
theorem dX2_read_49 : decode cX2_read 49 = .ok (.if_icmp .lt 29, 3) := by decide +kernel
theorem dX2_read_52 : decode cX2_read 52 = .ok (.iload_n 1, 1) := by decide +kernel
theorem dX2_read_53 : decode cX2_read 53 = .ok (.bipush 81, 2) := by decide +kernel
theorem dX2_read_55 : decode cX2_read 55 = .ok (.if_icmp .ge 23, 3) := by decide +kernel
theorem dX2_read_58 : decode cX2_read 58 = .ok (.aload_n 0, 1) := by decide +kernel
theorem dX2_read_59 : decode cX2_read 59 = .ok (.iload_n 1, 1) := by decide +kernel
theorem dX2_read_60 : decode cX2_read 60 = .ok (.bipush 65, 2) := by decide +kernel
theorem dX2_read_62 : decode cX2_read 62 = .ok (.isub, 1) := by decide +kernel
theorem dX2_read_63 : decode cX2_read 63 = .ok (.iload_n 3, 1) := by decide +kernel
theorem dX2_read_64 : decode cX2_read 64 = .ok (.if_icmp .ge 7, 3) := by decide +kernel
theorem dX2_read_67 : decode cX2_read 67 = .ok (.iconst 0, 1) := by decide +kernel
theorem dX2_read_68 : decode cX2_read 68 = .ok (.goto 4, 3) := by decide +kernel
theorem dX2_read_71 : decode cX2_read 71 = .ok (.iconst 3, 1) := by decide +kernel
theorem dX2_read_72 : decode cX2_read 72 = .ok (.invokevirtual 53, 3) := by decide +kernel
theorem dX2_read_75 : decode cX2_read 75 = .ok (.goto 35, 3) := by decide +kernel
theorem dX2_read_78 : decode cX2_read 78 = .ok (.iload_n 1, 1) := by decide +kernel
theorem dX2_read_79 : decode cX2_read 79 = .ok (.bipush 42, 2) := by decide +kernel
theorem dX2_read_81 : decode cX2_read 81 = .ok (.if_icmp .ne 17, 3) := by decide +kernel
theorem dX2_read_84 : decode cX2_read 84 = .ok (.aload_n 0, 1) := by decide +kernel
theorem dX2_read_85 : decode cX2_read 85 = .ok (.getfield 25, 3) := by decide +kernel
theorem dX2_read_88 : decode cX2_read 88 = .ok (.ifCond .eq 10, 3) := by decide +kernel
theorem dX2_read_91 : decode cX2_read 91 = .ok (.aload_n 0, 1) := by decide +kernel
theorem dX2_read_92 : decode cX2_read 92 = .ok (.invokevirtual 56, 3) := by decide +kernel
theorem dX2_read_95 : decode cX2_read 95 = .ok (.goto 15, 3) := by decide +kernel
theorem dX2_read_98 : decode cX2_read 98 = .ok (.aload_n 0, 1) := by decide +kernel
theorem dX2_read_99 : decode cX2_read 99 = .ok (.iconst 1, 1) := by decide +kernel
theorem dX2_read_100 : decode cX2_read 100 = .ok (.aload_n 0, 1) := by decide +kernel
theorem dX2_read_101 : decode cX2_read 101 = .ok (.getfield 19, 3) := by decide +kernel
theorem dX2_read_104 : decode cX2_read 104 = .ok (.invokestatic 39, 3) := by decide +kernel
theorem dX2_read_107 : decode cX2_read 107 = .ok (.putfield 32, 3) := by decide +kernel
theorem dX2_read_110 : decode cX2_read 110 = .ok (.return_, 1) := by decide +kernel
def f_X2_read_u110 (Q : ml_St → Prop) (σ : ml_St) : Prop :=
Q σ
def f_X2_read_u38 (Q : ml_St → Prop) (σ : ml_St) (x2 : Int) : Prop :=
f_X2_readDigit σ x2 (fun σ1 =>
f_X2_read_u110 Q σ1)
def f_X2_read_u72 (Q : ml_St → Prop) (σ : ml_St) (s1 : Int) : Prop :=
f_X2_takeItem σ s1 (fun σ1 =>
f_X2_read_u110 Q σ1)
def f_X2_read_u98 (Q : ml_St → Prop) (σ : ml_St) : Prop :=
∀ _ : I32 (σ 6 2),
f_X2_faultAt σ 1 (σ 6 2) (fun r2 σ2 => ∀ _ : I32 r2,
∀ σ3, σ3 = ml_up σ2 6 6 r2 →
f_X2_read_u110 Q σ3)
def f_X2_read_u78 (Q : ml_St → Prop) (σ : ml_St) (x1 : Int) : Prop :=
(x1 ≠ 42 →
f_X2_read_u98 Q σ) ∧
(x1 = 42 →
∀ _ : ml_B (σ 6 4),
(((σ 6 4) : Int) = 0 →
f_X2_read_u98 Q σ) ∧
((σ 6 4) ≠ 0 →
f_X2_readTimes σ (fun σ4 =>
f_X2_read_u110 Q σ4)))
def f_X2_read_u0 (Q : ml_St → Prop) (σ : ml_St) (x1 : Int) (x2 : Int) (x3 : Int) : Prop :=
(x1 ≠ 40 →
(x1 ≠ 41 →
(x1 = 120 →
f_X2_read_u38 Q σ x2) ∧
(x1 ≠ 120 →
(x1 ≠ 117 →
(x1 < 65 →
f_X2_read_u78 Q σ x1) ∧
(¬ (x1 < 65) →
(81 ≤ x1 →
f_X2_read_u78 Q σ x1) ∧
(¬ (81 ≤ x1) →
I32 (x1 - 65) ∧
(x3 ≤ (x1 - 65) →
f_X2_read_u72 Q σ 3) ∧
(¬ (x3 ≤ (x1 - 65)) →
f_X2_read_u72 Q σ 0)))) ∧
(x1 = 117 →
f_X2_read_u38 Q σ x2))) ∧
(x1 = 41 →
f_X2_readClosing σ (fun σ9 =>
f_X2_read_u110 Q σ9))) ∧
(x1 = 40 →
f_X2_readOpening σ (fun σ10 =>
f_X2_read_u110 Q σ10))
def f_X2_read (σ : ml_St) (x1 : Int) (x2 : Int) (x3 : Int) (Q : ml_St → Prop) : Prop := f_X2_read_u0 Q σ x1 x2 x3
def rm_X2_read : Room := { frames := 3, cells := 0, slots := 0, locals := 64 }
set_option maxRecDepth 100000 in
set_option maxHeartbeats 4000000 in
theorem u_X2_read_110 {p : Program} {e : Env} {s : State} {m : MethodId} {args : Array Value} {below : List Frame} {meth : Method} {c : Code} {base : Nat} {D : va_G} {cA : Nat → ClassId} {n : Nat} {l : Launch} {Q : ml_St → Prop} (X : ml_X p s m c meth args D cA cX2_read 4 RX2 none) (hn : 214 ≤ n) (σ : ml_St) (ls : Array Slot) (hl : lv_has ls 4 []) (hw : f_X2_read_u110 Q σ) : ml_V p l e rm_X2_read s m args below meth c (MQ below (ml_Qv base D cA n Q) args s 0 0 (ml_A base)) base D cA 0 0 n n σ (F0 m 110 ls []) := by
  unfold f_X2_read_u110 at hw
  exact ml_vret (pc := 110) X hw dX2_read_110
set_option maxRecDepth 100000 in
set_option maxHeartbeats 4000000 in
theorem u_X2_read_38 {p : Program} {e : Env} {s : State} {m : MethodId} {args : Array Value} {below : List Frame} {meth : Method} {c : Code} {base : Nat} {D : va_G} {cA : Nat → ClassId} {n : Nat} {l : Launch} {Q : ml_St → Prop} (X : ml_X p s m c meth args D cA cX2_read 4 RX2 none) (hn : 214 ≤ n) (σ : ml_St) (x2 : Int) (h_x2 : I32 x2) (ls : Array Slot) (hl : lv_has ls 4 [(0, .ref (base + (6 : Int).toNat)), (2, .int (Int32.ofInt x2))]) (hw : f_X2_read_u38 Q σ x2) : ml_V p l e rm_X2_read s m args below meth c (MQ below (ml_Qv base D cA n Q) args s 0 0 (ml_A base)) base D cA 0 0 n n σ (F0 m 38 ls []) := by
  unfold f_X2_read_u38 at hw
  refine ml_aload_n (pc := 38) X hl 0 rfl rfl dX2_read_38 ?_
  refine ml_iload_n (pc := 39) X hl 1 rfl rfl dX2_read_39 ?_
  refine ml_callvV (pc := 40) (rest := []) X [.int (Int32.ofInt x2)] (by decide) rfl (ml_c6 hn) (c_X2_readDigit l base D cA n hn σ x2 h_x2 _ hw) cv_X2_49 ⟨rfl, rfl⟩ ⟨by decide, by decide⟩ rfl rfl hl (Nat.le_of_ble_eq_true rfl) ⟨Nat.zero_le _, Nat.zero_le _⟩ dX2_read_40 (fun σ1 hw => ?_)
  refine ml_goto (pc := 43) (tgt := 110) X dX2_read_43 (by decide) ?_
  exact u_X2_read_110 X hn σ1   _ (lv_sub hl [] rfl) hw
set_option maxRecDepth 100000 in
set_option maxHeartbeats 4000000 in
theorem u_X2_read_72 {p : Program} {e : Env} {s : State} {m : MethodId} {args : Array Value} {below : List Frame} {meth : Method} {c : Code} {base : Nat} {D : va_G} {cA : Nat → ClassId} {n : Nat} {l : Launch} {Q : ml_St → Prop} (X : ml_X p s m c meth args D cA cX2_read 4 RX2 none) (hn : 214 ≤ n) (σ : ml_St) (s1 : Int) (h_s1 : I32 s1) (ls : Array Slot) (hl : lv_has ls 4 []) (hw : f_X2_read_u72 Q σ s1) : ml_V p l e rm_X2_read s m args below meth c (MQ below (ml_Qv base D cA n Q) args s 0 0 (ml_A base)) base D cA 0 0 n n σ (F0 m 72 ls [.int (Int32.ofInt s1), .ref (base + (6 : Int).toNat)]) := by
  unfold f_X2_read_u72 at hw
  refine ml_callvV (pc := 72) (rest := []) X [.int (Int32.ofInt s1)] (by decide) rfl (ml_c6 hn) (c_X2_takeItem l base D cA n hn σ s1 h_s1 _ hw) cv_X2_53 ⟨rfl, rfl⟩ ⟨by decide, by decide⟩ rfl rfl hl (Nat.le_of_ble_eq_true rfl) ⟨Nat.zero_le _, Nat.zero_le _⟩ dX2_read_72 (fun σ1 hw => ?_)
  refine ml_goto (pc := 75) (tgt := 110) X dX2_read_75 (by decide) ?_
  exact u_X2_read_110 X hn σ1   _ (lv_sub hl [] rfl) hw
set_option maxRecDepth 100000 in
set_option maxHeartbeats 4000000 in
theorem u_X2_read_98 {p : Program} {e : Env} {s : State} {m : MethodId} {args : Array Value} {below : List Frame} {meth : Method} {c : Code} {base : Nat} {D : va_G} {cA : Nat → ClassId} {n : Nat} {l : Launch} {Q : ml_St → Prop} (X : ml_X p s m c meth args D cA cX2_read 4 RX2 none) (hn : 214 ≤ n) (σ : ml_St) (ls : Array Slot) (hl : lv_has ls 4 [(0, .ref (base + (6 : Int).toNat))]) (hw : f_X2_read_u98 Q σ) : ml_V p l e rm_X2_read s m args below meth c (MQ below (ml_Qv base D cA n Q) args s 0 0 (ml_A base)) base D cA 0 0 n n σ (F0 m 98 ls []) := by
  unfold f_X2_read_u98 at hw
  refine ml_aload_n (pc := 98) X hl 0 rfl rfl dX2_read_98 ?_
  refine ml_iconst (pc := 99) X dX2_read_99 ?_
  refine ml_aload_n (pc := 100) X hl 0 rfl rfl dX2_read_100 ?_
  refine gf_X2_19 (pc := 101) X (ml_c6 hn) dX2_read_101 (fun r1 => ?_)
  have hw := hw r1
  refine ml_calliS (pc := 104) (rest := [.ref (base + (6 : Int).toNat)]) X [.int (Int32.ofInt 1), .int (Int32.ofInt (σ 6 2))] (c_X2_faultAt l base D cA n hn σ 1 (σ 6 2) ⟨by decide, by decide⟩ r1 _ hw) cv_X2_39 ⟨rfl, rfl⟩ ⟨by decide, by decide⟩ rfl rfl hl (Nat.le_of_ble_eq_true rfl) ⟨Nat.zero_le _, Nat.zero_le _⟩ dX2_read_104 (fun r2 σ2 t2 hw => ?_)
  have hw := hw t2
  refine pf_X2_32 (pc := 107) X (ml_c6 hn) t2 dX2_read_107 (fun σ3 g3 => ?_)
  have hw := hw σ3 g3
  exact u_X2_read_110 X hn σ3   _ (lv_sub hl [] rfl) hw
set_option maxRecDepth 100000 in
set_option maxHeartbeats 4000000 in
theorem u_X2_read_78 {p : Program} {e : Env} {s : State} {m : MethodId} {args : Array Value} {below : List Frame} {meth : Method} {c : Code} {base : Nat} {D : va_G} {cA : Nat → ClassId} {n : Nat} {l : Launch} {Q : ml_St → Prop} (X : ml_X p s m c meth args D cA cX2_read 4 RX2 none) (hn : 214 ≤ n) (σ : ml_St) (x1 : Int) (h_x1 : I32 x1) (ls : Array Slot) (hl : lv_has ls 4 [(0, .ref (base + (6 : Int).toNat)), (1, .int (Int32.ofInt x1))]) (hw : f_X2_read_u78 Q σ x1) : ml_V p l e rm_X2_read s m args below meth c (MQ below (ml_Qv base D cA n Q) args s 0 0 (ml_A base)) base D cA 0 0 n n σ (F0 m 78 ls []) := by
  unfold f_X2_read_u78 at hw
  refine ml_iload_n (pc := 78) X hl 1 rfl rfl dX2_read_78 ?_
  refine ml_bipush (pc := 79) X dX2_read_79 (by decide) ?_
  refine ml_icmp_ne (pc := 81) (tgt := 98) X h_x1 ⟨by decide, by decide⟩ dX2_read_81 (by decide) (fun c1 => ?_) (fun c1 => ?_)
  · have hw := hw.1 c1
    exact u_X2_read_98 X hn σ   _ (lv_sub hl [0] rfl) hw
  · have hw := hw.2 c1
    refine ml_aload_n (pc := 84) X hl 0 rfl rfl dX2_read_84 ?_
    refine gf_X2_25 (pc := 85) X (ml_c6 hn) dX2_read_85 (fun r2 => ?_)
    have hw := hw r2
    refine ml_if_eq (pc := 88) (tgt := 98) X r2.i dX2_read_88 (by decide) (fun c3 => ?_) (fun c3 => ?_)
    · have hw := hw.1 c3
      exact u_X2_read_98 X hn σ   _ (lv_sub hl [0] rfl) hw
    · have hw := hw.2 c3
      refine ml_aload_n (pc := 91) X hl 0 rfl rfl dX2_read_91 ?_
      refine ml_callvV (pc := 92) (rest := []) X [] (by decide) rfl (ml_c6 hn) (c_X2_readTimes l base D cA n hn σ _ hw) cv_X2_56 ⟨rfl, rfl⟩ ⟨by decide, by decide⟩ rfl rfl hl (Nat.le_of_ble_eq_true rfl) ⟨Nat.zero_le _, Nat.zero_le _⟩ dX2_read_92 (fun σ4 hw => ?_)
      refine ml_goto (pc := 95) (tgt := 110) X dX2_read_95 (by decide) ?_
      exact u_X2_read_110 X hn σ4   _ (lv_sub hl [] rfl) hw
set_option maxRecDepth 100000 in
set_option maxHeartbeats 4000000 in
theorem u_X2_read_0 {p : Program} {e : Env} {s : State} {m : MethodId} {args : Array Value} {below : List Frame} {meth : Method} {c : Code} {base : Nat} {D : va_G} {cA : Nat → ClassId} {n : Nat} {l : Launch} {Q : ml_St → Prop} (X : ml_X p s m c meth args D cA cX2_read 4 RX2 none) (hn : 214 ≤ n) (σ : ml_St) (x1 : Int) (x2 : Int) (x3 : Int) (h_x1 : I32 x1) (h_x2 : I32 x2) (h_x3 : I32 x3) (ls : Array Slot) (hl : lv_has ls 4 [(0, .ref (base + (6 : Int).toNat)), (1, .int (Int32.ofInt x1)), (2, .int (Int32.ofInt x2)), (3, .int (Int32.ofInt x3))]) (hw : f_X2_read_u0 Q σ x1 x2 x3) : ml_V p l e rm_X2_read s m args below meth c (MQ below (ml_Qv base D cA n Q) args s 0 0 (ml_A base)) base D cA 0 0 n n σ (F0 m 0 ls []) := by
  unfold f_X2_read_u0 at hw
  refine ml_iload_n (pc := 0) X hl 1 rfl rfl dX2_read_0 ?_
  refine ml_bipush (pc := 1) X dX2_read_1 (by decide) ?_
  refine ml_icmp_ne (pc := 3) (tgt := 13) X h_x1 ⟨by decide, by decide⟩ dX2_read_3 (by decide) (fun c1 => ?_) (fun c1 => ?_)
  · have hw := hw.1 c1
    refine ml_iload_n (pc := 13) X hl 1 rfl rfl dX2_read_13 ?_
    refine ml_bipush (pc := 14) X dX2_read_14 (by decide) ?_
    refine ml_icmp_ne (pc := 16) (tgt := 26) X h_x1 ⟨by decide, by decide⟩ dX2_read_16 (by decide) (fun c2 => ?_) (fun c2 => ?_)
    · have hw := hw.1 c2
      refine ml_iload_n (pc := 26) X hl 1 rfl rfl dX2_read_26 ?_
      refine ml_bipush (pc := 27) X dX2_read_27 (by decide) ?_
      refine ml_icmp_eq (pc := 29) (tgt := 38) X h_x1 ⟨by decide, by decide⟩ dX2_read_29 (by decide) (fun c3 => ?_) (fun c3 => ?_)
      · have hw := hw.1 c3
        exact u_X2_read_38 X hn σ x2 h_x2 _ (lv_sub hl [0, 2] rfl) hw
      · have hw := hw.2 c3
        refine ml_iload_n (pc := 32) X hl 1 rfl rfl dX2_read_32 ?_
        refine ml_bipush (pc := 33) X dX2_read_33 (by decide) ?_
        refine ml_icmp_ne (pc := 35) (tgt := 46) X h_x1 ⟨by decide, by decide⟩ dX2_read_35 (by decide) (fun c4 => ?_) (fun c4 => ?_)
        · have hw := hw.1 c4
          refine ml_iload_n (pc := 46) X hl 1 rfl rfl dX2_read_46 ?_
          refine ml_bipush (pc := 47) X dX2_read_47 (by decide) ?_
          refine ml_icmp_lt (pc := 49) (tgt := 78) X h_x1 ⟨by decide, by decide⟩ dX2_read_49 (by decide) (fun c5 => ?_) (fun c5 => ?_)
          · have hw := hw.1 c5
            exact u_X2_read_78 X hn σ x1 h_x1 _ (lv_sub hl [0, 1] rfl) hw
          · have hw := hw.2 c5
            refine ml_iload_n (pc := 52) X hl 1 rfl rfl dX2_read_52 ?_
            refine ml_bipush (pc := 53) X dX2_read_53 (by decide) ?_
            refine ml_icmp_ge (pc := 55) (tgt := 78) X h_x1 ⟨by decide, by decide⟩ dX2_read_55 (by decide) (fun c6 => ?_) (fun c6 => ?_)
            · have hw := hw.1 c6
              exact u_X2_read_78 X hn σ x1 h_x1 _ (lv_sub hl [0, 1] rfl) hw
            · have hw := hw.2 c6
              refine ml_aload_n (pc := 58) X hl 0 rfl rfl dX2_read_58 ?_
              refine ml_iload_n (pc := 59) X hl 1 rfl rfl dX2_read_59 ?_
              refine ml_bipush (pc := 60) X dX2_read_60 (by decide) ?_
              obtain ⟨v7, hw⟩ := hw
              refine ml_isub (pc := 62) X dX2_read_62 ?_
              refine ml_iload_n (pc := 63) X hl 3 rfl rfl dX2_read_63 ?_
              refine ml_icmp_ge (pc := 64) (tgt := 71) X v7 h_x3 dX2_read_64 (by decide) (fun c8 => ?_) (fun c8 => ?_)
              · have hw := hw.1 c8
                refine ml_iconst (pc := 71) X dX2_read_71 ?_
                exact u_X2_read_72 X hn σ 3 ⟨by decide, by decide⟩ _ (lv_sub hl [] rfl) hw
              · have hw := hw.2 c8
                refine ml_iconst (pc := 67) X dX2_read_67 ?_
                refine ml_goto (pc := 68) (tgt := 72) X dX2_read_68 (by decide) ?_
                exact u_X2_read_72 X hn σ 0 ⟨by decide, by decide⟩ _ (lv_sub hl [] rfl) hw
        · have hw := hw.2 c4
          exact u_X2_read_38 X hn σ x2 h_x2 _ (lv_sub hl [0, 2] rfl) hw
    · have hw := hw.2 c2
      refine ml_aload_n (pc := 19) X hl 0 rfl rfl dX2_read_19 ?_
      refine ml_callvV (pc := 20) (rest := []) X [] (by decide) rfl (ml_c6 hn) (c_X2_readClosing l base D cA n hn σ _ hw) cv_X2_46 ⟨rfl, rfl⟩ ⟨by decide, by decide⟩ rfl rfl hl (Nat.le_of_ble_eq_true rfl) ⟨Nat.zero_le _, Nat.zero_le _⟩ dX2_read_20 (fun σ9 hw => ?_)
      refine ml_goto (pc := 23) (tgt := 110) X dX2_read_23 (by decide) ?_
      exact u_X2_read_110 X hn σ9   _ (lv_sub hl [] rfl) hw
  · have hw := hw.2 c1
    refine ml_aload_n (pc := 6) X hl 0 rfl rfl dX2_read_6 ?_
    refine ml_callvV (pc := 7) (rest := []) X [] (by decide) rfl (ml_c6 hn) (c_X2_readOpening l base D cA n hn σ _ hw) cv_X2_43 ⟨rfl, rfl⟩ ⟨by decide, by decide⟩ rfl rfl hl (Nat.le_of_ble_eq_true rfl) ⟨Nat.zero_le _, Nat.zero_le _⟩ dX2_read_7 (fun σ10 hw => ?_)
    refine ml_goto (pc := 10) (tgt := 110) X dX2_read_10 (by decide) ?_
    exact u_X2_read_110 X hn σ10   _ (lv_sub hl [] rfl) hw
set_option maxRecDepth 100000 in
theorem c_X2_read (l : Launch) (base : Nat) (D : va_G) (cA : Nat → ClassId) (n : Nat) (hn : 214 ≤ n) (σ : ml_St) (x1 : Int) (x2 : Int) (x3 : Int) (h_x1 : I32 x1) (h_x2 : I32 x2) (h_x3 : I32 x3) (Q : ml_St → Prop) (hw : f_X2_read σ x1 x2 x3 Q) : Met l yX2_read (Cond.code yX2_read cX2_read 4 none :: ml_T) rm_X2_read (va_Pc [.ref (base + (6 : Int).toNat), .int (Int32.ofInt x1), .int (Int32.ofInt x2), .int (Int32.ofInt x3)] (ml_U base D cA n σ)) (ml_Qv base D cA n Q) 0 0 (ml_A base) := by
  refine Met.ofW (cc := cX2_read) (maxL := 4) (ret := none) (by decide) rfl ?_
  intro p e s m args below meth c s₁ B hml hv
  obtain ⟨rfl, hP, hK, hok, hro⟩ := hv
  have X : ml_X p s m c meth _ D cA cX2_read 4 RX2 none := ⟨B.exec, B.bytes, hml, findClass_of_methodNamed B.named, fun w hw => atoms_spec (ws := Cond.code yX2_read cX2_read 4 none :: ml_T) B.pre w (List.mem_cons_of_mem _ hw), hK, B.notSynchronized, B.returns⟩
  have hl := lv_entry [.ref (base + (6 : Int).toNat), .int (Int32.ofInt x1), .int (Int32.ofInt x2), .int (Int32.ofInt x3)] (n := 4) (Nat.le_of_ble_eq_true rfl)
  rw [lg_entry_eq]
  generalize (lg_sl [.ref (base + (6 : Int).toNat), .int (Int32.ofInt x1), .int (Int32.ofInt x2), .int (Int32.ofInt x3)] ++ List.replicate (4 - (lg_sl [.ref (base + (6 : Int).toNat), .int (Int32.ofInt x1), .int (Int32.ofInt x2), .int (Int32.ofInt x3)]).length) Slot.unset).toArray = ls at hl ⊢
  have hl : lv_has ls 4 [(0, .ref (base + (6 : Int).toNat)), (1, .int (Int32.ofInt x1)), (2, .int (Int32.ofInt x2)), (3, .int (Int32.ofInt x3))] := hl
  unfold f_X2_read at hw
  exact u_X2_read_0 X hn σ x1 x2 x3 h_x1 h_x2 h_x3 _ (lv_sub hl [0, 1, 2, 3] rfl) hw s.heap [] hP va_S.rf hok hro
theorem dX2_faultIn_0 : decode cX2_faultIn 0 = .ok (.aload_n 0, 1) := by decide +kernel
theorem dX2_faultIn_1 : decode cX2_faultIn 1 = .ok (.aload_n 1, 1) := by decide +kernel
theorem dX2_faultIn_2 : decode cX2_faultIn 2 = .ok (.putfield 9, 3) := by decide +kernel
theorem dX2_faultIn_5 : decode cX2_faultIn 5 = .ok (.aload_n 0, 1) := by decide +kernel
theorem dX2_faultIn_6 : decode cX2_faultIn 6 = .ok (.iload_n 2, 1) := by decide +kernel
theorem dX2_faultIn_7 : decode cX2_faultIn 7 = .ok (.putfield 15, 3) := by decide +kernel
theorem dX2_faultIn_10 : decode cX2_faultIn 10 = .ok (.aload_n 0, 1) := by decide +kernel
theorem dX2_faultIn_11 : decode cX2_faultIn 11 = .ok (.iconst 0, 1) := by decide +kernel
theorem dX2_faultIn_12 : decode cX2_faultIn 12 = .ok (.putfield 22, 3) := by decide +kernel
theorem dX2_faultIn_15 : decode cX2_faultIn 15 = .ok (.aload_n 0, 1) := by decide +kernel
theorem dX2_faultIn_16 : decode cX2_faultIn 16 = .ok (.iconst 0, 1) := by decide +kernel
theorem dX2_faultIn_17 : decode cX2_faultIn 17 = .ok (.putfield 25, 3) := by decide +kernel
theorem dX2_faultIn_20 : decode cX2_faultIn 20 = .ok (.aload_n 0, 1) := by decide +kernel
theorem dX2_faultIn_21 : decode cX2_faultIn 21 = .ok (.iconst 1, 1) := by decide +kernel
theorem dX2_faultIn_22 : decode cX2_faultIn 22 = .ok (.putfield 29, 3) := by decide +kernel
theorem dX2_faultIn_25 : decode cX2_faultIn 25 = .ok (.aload_n 0, 1) := by decide +kernel
theorem dX2_faultIn_26 : decode cX2_faultIn 26 = .ok (.iconst 0, 1) := by decide +kernel
theorem dX2_faultIn_27 : decode cX2_faultIn 27 = .ok (.putfield 32, 3) := by decide +kernel
theorem dX2_faultIn_30 : decode cX2_faultIn 30 = .ok (.aload_n 0, 1) := by decide +kernel
theorem dX2_faultIn_31 : decode cX2_faultIn 31 = .ok (.iconst 0, 1) := by decide +kernel
theorem dX2_faultIn_32 : decode cX2_faultIn 32 = .ok (.putfield 19, 3) := by decide +kernel
theorem dX2_faultIn_35 : decode cX2_faultIn 35 = .ok (.aload_n 0, 1) := by decide +kernel
theorem dX2_faultIn_36 : decode cX2_faultIn 36 = .ok (.getfield 19, 3) := by decide +kernel
theorem dX2_faultIn_39 : decode cX2_faultIn 39 = .ok (.iload_n 2, 1) := by decide +kernel
theorem dX2_faultIn_40 : decode cX2_faultIn 40 = .ok (.if_icmp .ge 36, 3) := by decide +kernel
theorem dX2_faultIn_43 : decode cX2_faultIn 43 = .ok (.aload_n 0, 1) := by decide +kernel
theorem dX2_faultIn_44 : decode cX2_faultIn 44 = .ok (.getfield 32, 3) := by decide +kernel
theorem dX2_faultIn_47 : decode cX2_faultIn 47 = .ok (.ifCond .ne 29, 3) := by decide +kernel
theorem dX2_faultIn_50 : decode cX2_faultIn 50 = .ok (.aload_n 0, 1) := by decide +kernel
theorem dX2_faultIn_51 : decode cX2_faultIn 51 = .ok (.aload_n 1, 1) := by decide +kernel
theorem dX2_faultIn_52 : decode cX2_faultIn 52 = .ok (.aload_n 0, 1) := by decide +kernel
theorem dX2_faultIn_53 : decode cX2_faultIn 53 = .ok (.getfield 19, 3) := by decide +kernel
theorem dX2_faultIn_56 : decode cX2_faultIn 56 = .ok (.baload, 1) := by decide +kernel
theorem dX2_faultIn_57 : decode cX2_faultIn 57 = .ok (.iload_n 3, 1) := by decide +kernel
theorem dX2_faultIn_58 : decode cX2_faultIn 58 = .ok (.iload 4, 2) := by decide +kernel
theorem dX2_faultIn_60 : decode cX2_faultIn 60 = .ok (.invokevirtual 35, 3) := by decide +kernel
theorem dX2_faultIn_63 : decode cX2_faultIn 63 = .ok (.aload_n 0, 1) := by decide +kernel
theorem dX2_faultIn_64 : decode cX2_faultIn 64 = .ok (.dup, 1) := by decide +kernel
theorem dX2_faultIn_65 : decode cX2_faultIn 65 = .ok (.getfield 19, 3) := by decide +kernel
theorem dX2_faultIn_68 : decode cX2_faultIn 68 = .ok (.iconst 1, 1) := by decide +kernel
theorem dX2_faultIn_69 : decode cX2_faultIn 69 = .ok (.iadd, 1) := by decide +kernel
theorem dX2_faultIn_70 : decode cX2_faultIn 70 = .ok (.putfield 19, 3) := by decide +kernel
theorem dX2_faultIn_73 : decode cX2_faultIn 73 = .ok (.goto (-38), 3) := by decide +kernel
theorem dX2_faultIn_76 : decode cX2_faultIn 76 = .ok (.aload_n 0, 1) := by decide +kernel
theorem dX2_faultIn_77 : decode cX2_faultIn 77 = .ok (.getfield 32, 3) := by decide +kernel
theorem dX2_faultIn_80 : decode cX2_faultIn 80 = .ok (.ifCond .ne 26, 3) := by decide +kernel
theorem dX2_faultIn_83 : decode cX2_faultIn 83 = .ok (.aload_n 0, 1) := by decide +kernel
theorem dX2_faultIn_84 : decode cX2_faultIn 84 = .ok (.getfield 29, 3) := by decide +kernel
theorem dX2_faultIn_87 : decode cX2_faultIn 87 = .ok (.ifCond .ne 10, 3) := by decide +kernel
theorem dX2_faultIn_90 : decode cX2_faultIn 90 = .ok (.aload_n 0, 1) := by decide +kernel
theorem dX2_faultIn_91 : decode cX2_faultIn 91 = .ok (.getfield 22, 3) := by decide +kernel
theorem dX2_faultIn_94 : decode cX2_faultIn 94 = .ok (.ifCond .le 12, 3) := by decide +kernel
theorem dX2_faultIn_97 : decode cX2_faultIn 97 = .ok (.aload_n 0, 1) := by decide +kernel
theorem dX2_faultIn_98 : decode cX2_faultIn 98 = .ok (.iconst 1, 1) := by decide +kernel
theorem dX2_faultIn_99 : decode cX2_faultIn 99 = .ok (.iload_n 2, 1) := by decide +kernel
theorem dX2_faultIn_100 : decode cX2_faultIn 100 = .ok (.invokestatic 39, 3) := by decide +kernel
theorem dX2_faultIn_103 : decode cX2_faultIn 103 = .ok (.putfield 32, 3) := by decide +kernel
theorem dX2_faultIn_106 : decode cX2_faultIn 106 = .ok (.aload_n 0, 1) := by decide +kernel
theorem dX2_faultIn_107 : decode cX2_faultIn 107 = .ok (.getfield 32, 3) := by decide +kernel
theorem dX2_faultIn_110 : decode cX2_faultIn 110 = .ok (.ireturn, 1) := by decide +kernel
def f_X2_faultIn_u35 (Q : Int → ml_St → Prop) (K76 : ml_St → Int → Prop) (p1 : Int) : Nat → ml_St → Int → Int → Int → Prop
| 0, _, _, _, _ => False
| N + 1, σ, x2, x3, x4 =>
∀ _ : I32 (σ 6 2),
(x2 ≤ (σ 6 2) →
K76 σ x2) ∧
(¬ (x2 ≤ (σ 6 2)) →
∀ _ : I32 (σ 6 6),
(((σ 6 6) : Int) ≠ 0 →
K76 σ x2) ∧
((σ 6 6) = 0 →
∀ _ : I32 (σ 6 2),
(0 : Int) ≤ (σ 6 2) ∧ ((σ 6 2) : Int) < 100 ∧
∀ _ : ml_I8 (σ p1 (σ 6 2)),
f_X2_read σ (σ p1 (σ 6 2)) x3 x4 (fun σ7 =>
∀ _ : I32 (σ7 6 2),
I32 ((σ7 6 2) + 1) ∧
∀ σ10, σ10 = ml_up σ7 6 2 ((σ7 6 2) + 1) →
f_X2_faultIn_u35 Q K76 p1 N σ10 x2 x3 x4)))
def f_X2_faultIn_u106 (Q : Int → ml_St → Prop) (p1 : Int) (σ : ml_St) : Prop :=
∀ _ : I32 (σ 6 6),
Q (σ 6 6) σ
def f_X2_faultIn_u97 (Q : Int → ml_St → Prop) (p1 : Int) (σ : ml_St) (x2 : Int) : Prop :=
f_X2_faultAt σ 1 x2 (fun r1 σ1 => ∀ _ : I32 r1,
∀ σ2, σ2 = ml_up σ1 6 6 r1 →
f_X2_faultIn_u106 Q p1 σ2)
def f_X2_faultIn_u76 (Q : Int → ml_St → Prop) (p1 : Int) (σ : ml_St) (x2 : Int) : Prop :=
∀ _ : I32 (σ 6 6),
(((σ 6 6) : Int) ≠ 0 →
f_X2_faultIn_u106 Q p1 σ) ∧
((σ 6 6) = 0 →
∀ _ : ml_B (σ 6 5),
(((σ 6 5) : Int) ≠ 0 →
f_X2_faultIn_u97 Q p1 σ x2) ∧
((σ 6 5) = 0 →
∀ _ : I32 (σ 6 3),
(((σ 6 3) : Int) ≤ 0 →
f_X2_faultIn_u106 Q p1 σ) ∧
(¬ (((σ 6 3) : Int) ≤ 0) →
f_X2_faultIn_u97 Q p1 σ x2)))
def f_X2_faultIn_u0 (Q : Int → ml_St → Prop) (p1 : Int) (σ : ml_St) (x2 : Int) (x3 : Int) (x4 : Int) : Prop :=
∀ σ1, σ1 = ml_up σ 6 0 p1 →
∀ σ2, σ2 = ml_up σ1 6 1 x2 →
∀ σ3, σ3 = ml_up σ2 6 3 0 →
∀ σ4, σ4 = ml_up σ3 6 4 0 →
∀ σ5, σ5 = ml_up σ4 6 5 1 →
∀ σ6, σ6 = ml_up σ5 6 6 0 →
∀ σ7, σ7 = ml_up σ6 6 2 0 →
∃ N1, f_X2_faultIn_u35 Q (f_X2_faultIn_u76 Q p1) p1 N1 σ7 x2 x3 x4
def f_X2_faultIn (σ : ml_St) (p1 : Int) (x2 : Int) (x3 : Int) (x4 : Int) (Q : Int → ml_St → Prop) : Prop := f_X2_faultIn_u0 Q p1 σ x2 x3 x4
def rm_X2_faultIn : Room := { frames := 4, cells := 0, slots := 0, locals := 87 }
set_option maxRecDepth 100000 in
set_option maxHeartbeats 4000000 in
theorem u_X2_faultIn_35 {p : Program} {e : Env} {s : State} {m : MethodId} {args : Array Value} {below : List Frame} {meth : Method} {c : Code} {base : Nat} {D : va_G} {cA : Nat → ClassId} {n : Nat} {l : Launch} {p1 : Int} {Q : Int → ml_St → Prop} {K76 : ml_St → Int → Prop} (X : ml_X p s m c meth args D cA cX2_faultIn 5 RX2 (some .int)) (hn : 214 ≤ n) (hp_p1 : ml_at n p1 (2, 100)) (hK76 : ∀ (σ : ml_St) (x2 : Int) (h_x2 : I32 x2) (ls : Array Slot), lv_has ls 5 [(0, .ref (base + (6 : Int).toNat)), (2, .int (Int32.ofInt x2))] → K76 σ x2 → ml_V p l e rm_X2_faultIn s m args below meth c (MQ below (ml_Qi I32 base D cA n Q) args s 0 0 (ml_A base)) base D cA 0 0 n n σ (F0 m 76 ls [])) : ∀ (N : Nat) (σ : ml_St) (x2 : Int) (x3 : Int) (x4 : Int) (h_x2 : I32 x2) (h_x3 : I32 x3) (h_x4 : I32 x4) (ls : Array Slot), lv_has ls 5 [(0, .ref (base + (6 : Int).toNat)), (1, .ref (base + (p1 : Int).toNat)), (2, .int (Int32.ofInt x2)), (3, .int (Int32.ofInt x3)), (4, .int (Int32.ofInt x4))] → f_X2_faultIn_u35 Q K76 p1 N σ x2 x3 x4 → ml_V p l e rm_X2_faultIn s m args below meth c (MQ below (ml_Qi I32 base D cA n Q) args s 0 0 (ml_A base)) base D cA 0 0 n n σ (F0 m 35 ls []) := by
  intro N
  induction N with
  | zero => intro σ x2 x3 x4 h_x2 h_x3 h_x4 ls hl hw; exact False.elim hw
  | succ N ih =>
    intro σ x2 x3 x4 h_x2 h_x3 h_x4 ls hl hw
    unfold f_X2_faultIn_u35 at hw
    refine ml_aload_n (pc := 35) X hl 0 rfl rfl dX2_faultIn_35 ?_
    refine gf_X2_19 (pc := 36) X (ml_c6 hn) dX2_faultIn_36 (fun r1 => ?_)
    have hw := hw r1
    refine ml_iload_n (pc := 39) X hl 2 rfl rfl dX2_faultIn_39 ?_
    refine ml_icmp_ge (pc := 40) (tgt := 76) X r1 h_x2 dX2_faultIn_40 (by decide) (fun c2 => ?_) (fun c2 => ?_)
    · have hw := hw.1 c2
      exact hK76 σ x2 h_x2 _ (lv_sub hl [0, 2] rfl) hw
    · have hw := hw.2 c2
      refine ml_aload_n (pc := 43) X hl 0 rfl rfl dX2_faultIn_43 ?_
      refine gf_X2_32 (pc := 44) X (ml_c6 hn) dX2_faultIn_44 (fun r3 => ?_)
      have hw := hw r3
      refine ml_if_ne (pc := 47) (tgt := 76) X r3 dX2_faultIn_47 (by decide) (fun c4 => ?_) (fun c4 => ?_)
      · have hw := hw.1 c4
        exact hK76 σ x2 h_x2 _ (lv_sub hl [0, 2] rfl) hw
      · have hw := hw.2 c4
        refine ml_aload_n (pc := 50) X hl 0 rfl rfl dX2_faultIn_50 ?_
        refine ml_aload_n (pc := 51) X hl 1 rfl rfl dX2_faultIn_51 ?_
        refine ml_aload_n (pc := 52) X hl 0 rfl rfl dX2_faultIn_52 ?_
        refine gf_X2_19 (pc := 53) X (ml_c6 hn) dX2_faultIn_53 (fun r5 => ?_)
        have hw := hw r5
        obtain ⟨a6, b6, hw⟩ := hw
        refine ml_bald (pc := 56) (N := 100) X hp_p1 a6 b6 dX2_faultIn_56 (fun r6 => ?_)
        have hw := hw r6
        refine ml_iload_n (pc := 57) X hl 3 rfl rfl dX2_faultIn_57 ?_
        refine ml_iload (pc := 58) X hl 4 rfl dX2_faultIn_58 ?_
        refine ml_callvV (pc := 60) (rest := []) X [.int (Int32.ofInt (σ p1 (σ 6 2))), .int (Int32.ofInt x3), .int (Int32.ofInt x4)] (by decide) rfl (ml_c6 hn) (c_X2_read l base D cA n hn σ (σ p1 (σ 6 2)) x3 x4 r6.i h_x3 h_x4 _ hw) cv_X2_35 ⟨rfl, rfl⟩ ⟨by decide, by decide⟩ rfl rfl hl (Nat.le_of_ble_eq_true rfl) ⟨Nat.zero_le _, Nat.zero_le _⟩ dX2_faultIn_60 (fun σ7 hw => ?_)
        refine ml_aload_n (pc := 63) X hl 0 rfl rfl dX2_faultIn_63 ?_
        refine ml_dup (pc := 64) X dX2_faultIn_64 rfl ?_
        refine gf_X2_19 (pc := 65) X (ml_c6 hn) dX2_faultIn_65 (fun r8 => ?_)
        have hw := hw r8
        refine ml_iconst (pc := 68) X dX2_faultIn_68 ?_
        obtain ⟨v9, hw⟩ := hw
        refine ml_iadd (pc := 69) X dX2_faultIn_69 ?_
        refine pf_X2_19 (pc := 70) X (ml_c6 hn) v9 dX2_faultIn_70 (fun σ10 g10 => ?_)
        have hw := hw σ10 g10
        refine ml_goto (pc := 73) (tgt := 35) X dX2_faultIn_73 (by decide) ?_
        exact ih σ10 x2 x3 x4 h_x2 h_x3 h_x4 _ (lv_sub hl [0, 1, 2, 3, 4] rfl) hw
set_option maxRecDepth 100000 in
set_option maxHeartbeats 4000000 in
theorem u_X2_faultIn_106 {p : Program} {e : Env} {s : State} {m : MethodId} {args : Array Value} {below : List Frame} {meth : Method} {c : Code} {base : Nat} {D : va_G} {cA : Nat → ClassId} {n : Nat} {l : Launch} {p1 : Int} {Q : Int → ml_St → Prop} (X : ml_X p s m c meth args D cA cX2_faultIn 5 RX2 (some .int)) (hn : 214 ≤ n) (hp_p1 : ml_at n p1 (2, 100)) (σ : ml_St) (ls : Array Slot) (hl : lv_has ls 5 [(0, .ref (base + (6 : Int).toNat))]) (hw : f_X2_faultIn_u106 Q p1 σ) : ml_V p l e rm_X2_faultIn s m args below meth c (MQ below (ml_Qi I32 base D cA n Q) args s 0 0 (ml_A base)) base D cA 0 0 n n σ (F0 m 106 ls []) := by
  unfold f_X2_faultIn_u106 at hw
  refine ml_aload_n (pc := 106) X hl 0 rfl rfl dX2_faultIn_106 ?_
  refine gf_X2_32 (pc := 107) X (ml_c6 hn) dX2_faultIn_107 (fun r1 => ?_)
  have hw := hw r1
  exact ml_iret (pc := 110) X r1 hw dX2_faultIn_110
set_option maxRecDepth 100000 in
set_option maxHeartbeats 4000000 in
theorem u_X2_faultIn_97 {p : Program} {e : Env} {s : State} {m : MethodId} {args : Array Value} {below : List Frame} {meth : Method} {c : Code} {base : Nat} {D : va_G} {cA : Nat → ClassId} {n : Nat} {l : Launch} {p1 : Int} {Q : Int → ml_St → Prop} (X : ml_X p s m c meth args D cA cX2_faultIn 5 RX2 (some .int)) (hn : 214 ≤ n) (hp_p1 : ml_at n p1 (2, 100)) (σ : ml_St) (x2 : Int) (h_x2 : I32 x2) (ls : Array Slot) (hl : lv_has ls 5 [(0, .ref (base + (6 : Int).toNat)), (2, .int (Int32.ofInt x2))]) (hw : f_X2_faultIn_u97 Q p1 σ x2) : ml_V p l e rm_X2_faultIn s m args below meth c (MQ below (ml_Qi I32 base D cA n Q) args s 0 0 (ml_A base)) base D cA 0 0 n n σ (F0 m 97 ls []) := by
  unfold f_X2_faultIn_u97 at hw
  refine ml_aload_n (pc := 97) X hl 0 rfl rfl dX2_faultIn_97 ?_
  refine ml_iconst (pc := 98) X dX2_faultIn_98 ?_
  refine ml_iload_n (pc := 99) X hl 1 rfl rfl dX2_faultIn_99 ?_
  refine ml_calliS (pc := 100) (rest := [.ref (base + (6 : Int).toNat)]) X [.int (Int32.ofInt 1), .int (Int32.ofInt x2)] (c_X2_faultAt l base D cA n hn σ 1 x2 ⟨by decide, by decide⟩ h_x2 _ hw) cv_X2_39 ⟨rfl, rfl⟩ ⟨by decide, by decide⟩ rfl rfl hl (Nat.le_of_ble_eq_true rfl) ⟨Nat.zero_le _, Nat.zero_le _⟩ dX2_faultIn_100 (fun r1 σ1 t1 hw => ?_)
  have hw := hw t1
  refine pf_X2_32 (pc := 103) X (ml_c6 hn) t1 dX2_faultIn_103 (fun σ2 g2 => ?_)
  have hw := hw σ2 g2
  exact u_X2_faultIn_106 X hn hp_p1 σ2   _ (lv_sub hl [0] rfl) hw
set_option maxRecDepth 100000 in
set_option maxHeartbeats 4000000 in
theorem u_X2_faultIn_76 {p : Program} {e : Env} {s : State} {m : MethodId} {args : Array Value} {below : List Frame} {meth : Method} {c : Code} {base : Nat} {D : va_G} {cA : Nat → ClassId} {n : Nat} {l : Launch} {p1 : Int} {Q : Int → ml_St → Prop} (X : ml_X p s m c meth args D cA cX2_faultIn 5 RX2 (some .int)) (hn : 214 ≤ n) (hp_p1 : ml_at n p1 (2, 100)) (σ : ml_St) (x2 : Int) (h_x2 : I32 x2) (ls : Array Slot) (hl : lv_has ls 5 [(0, .ref (base + (6 : Int).toNat)), (2, .int (Int32.ofInt x2))]) (hw : f_X2_faultIn_u76 Q p1 σ x2) : ml_V p l e rm_X2_faultIn s m args below meth c (MQ below (ml_Qi I32 base D cA n Q) args s 0 0 (ml_A base)) base D cA 0 0 n n σ (F0 m 76 ls []) := by
  unfold f_X2_faultIn_u76 at hw
  refine ml_aload_n (pc := 76) X hl 0 rfl rfl dX2_faultIn_76 ?_
  refine gf_X2_32 (pc := 77) X (ml_c6 hn) dX2_faultIn_77 (fun r1 => ?_)
  have hw := hw r1
  refine ml_if_ne (pc := 80) (tgt := 106) X r1 dX2_faultIn_80 (by decide) (fun c2 => ?_) (fun c2 => ?_)
  · have hw := hw.1 c2
    exact u_X2_faultIn_106 X hn hp_p1 σ   _ (lv_sub hl [0] rfl) hw
  · have hw := hw.2 c2
    refine ml_aload_n (pc := 83) X hl 0 rfl rfl dX2_faultIn_83 ?_
    refine gf_X2_29 (pc := 84) X (ml_c6 hn) dX2_faultIn_84 (fun r3 => ?_)
    have hw := hw r3
    refine ml_if_ne (pc := 87) (tgt := 97) X r3.i dX2_faultIn_87 (by decide) (fun c4 => ?_) (fun c4 => ?_)
    · have hw := hw.1 c4
      exact u_X2_faultIn_97 X hn hp_p1 σ x2 h_x2 _ (lv_sub hl [0, 1] rfl) hw
    · have hw := hw.2 c4
      refine ml_aload_n (pc := 90) X hl 0 rfl rfl dX2_faultIn_90 ?_
      refine gf_X2_22 (pc := 91) X (ml_c6 hn) dX2_faultIn_91 (fun r5 => ?_)
      have hw := hw r5
      refine ml_if_le (pc := 94) (tgt := 106) X r5 dX2_faultIn_94 (by decide) (fun c6 => ?_) (fun c6 => ?_)
      · have hw := hw.1 c6
        exact u_X2_faultIn_106 X hn hp_p1 σ   _ (lv_sub hl [0] rfl) hw
      · have hw := hw.2 c6
        exact u_X2_faultIn_97 X hn hp_p1 σ x2 h_x2 _ (lv_sub hl [0, 1] rfl) hw
set_option maxRecDepth 100000 in
set_option maxHeartbeats 4000000 in
theorem u_X2_faultIn_0 {p : Program} {e : Env} {s : State} {m : MethodId} {args : Array Value} {below : List Frame} {meth : Method} {c : Code} {base : Nat} {D : va_G} {cA : Nat → ClassId} {n : Nat} {l : Launch} {p1 : Int} {Q : Int → ml_St → Prop} (X : ml_X p s m c meth args D cA cX2_faultIn 5 RX2 (some .int)) (hn : 214 ≤ n) (hp_p1 : ml_at n p1 (2, 100)) (σ : ml_St) (x2 : Int) (x3 : Int) (x4 : Int) (h_x2 : I32 x2) (h_x3 : I32 x3) (h_x4 : I32 x4) (ls : Array Slot) (hl : lv_has ls 5 [(0, .ref (base + (6 : Int).toNat)), (1, .ref (base + (p1 : Int).toNat)), (2, .int (Int32.ofInt x2)), (3, .int (Int32.ofInt x3)), (4, .int (Int32.ofInt x4))]) (hw : f_X2_faultIn_u0 Q p1 σ x2 x3 x4) : ml_V p l e rm_X2_faultIn s m args below meth c (MQ below (ml_Qi I32 base D cA n Q) args s 0 0 (ml_A base)) base D cA 0 0 n n σ (F0 m 0 ls []) := by
  unfold f_X2_faultIn_u0 at hw
  refine ml_aload_n (pc := 0) X hl 0 rfl rfl dX2_faultIn_0 ?_
  refine ml_aload_n (pc := 1) X hl 1 rfl rfl dX2_faultIn_1 ?_
  refine pf_X2_9 (pc := 2) X (ml_c6 hn) hp_p1 dX2_faultIn_2 (fun σ1 g1 => ?_)
  have hw := hw σ1 g1
  refine ml_aload_n (pc := 5) X hl 0 rfl rfl dX2_faultIn_5 ?_
  refine ml_iload_n (pc := 6) X hl 2 rfl rfl dX2_faultIn_6 ?_
  refine pf_X2_15 (pc := 7) X (ml_c6 hn) h_x2 dX2_faultIn_7 (fun σ2 g2 => ?_)
  have hw := hw σ2 g2
  refine ml_aload_n (pc := 10) X hl 0 rfl rfl dX2_faultIn_10 ?_
  refine ml_iconst (pc := 11) X dX2_faultIn_11 ?_
  refine pf_X2_22 (pc := 12) X (ml_c6 hn) ⟨by decide, by decide⟩ dX2_faultIn_12 (fun σ3 g3 => ?_)
  have hw := hw σ3 g3
  refine ml_aload_n (pc := 15) X hl 0 rfl rfl dX2_faultIn_15 ?_
  refine ml_iconst (pc := 16) X dX2_faultIn_16 ?_
  refine pf_X2_25 (pc := 17) X (ml_c6 hn) ⟨by decide, by decide⟩ dX2_faultIn_17 (fun σ4 g4 => ?_)
  have hw := hw σ4 g4
  refine ml_aload_n (pc := 20) X hl 0 rfl rfl dX2_faultIn_20 ?_
  refine ml_iconst (pc := 21) X dX2_faultIn_21 ?_
  refine pf_X2_29 (pc := 22) X (ml_c6 hn) ⟨by decide, by decide⟩ dX2_faultIn_22 (fun σ5 g5 => ?_)
  have hw := hw σ5 g5
  refine ml_aload_n (pc := 25) X hl 0 rfl rfl dX2_faultIn_25 ?_
  refine ml_iconst (pc := 26) X dX2_faultIn_26 ?_
  refine pf_X2_32 (pc := 27) X (ml_c6 hn) ⟨by decide, by decide⟩ dX2_faultIn_27 (fun σ6 g6 => ?_)
  have hw := hw σ6 g6
  refine ml_aload_n (pc := 30) X hl 0 rfl rfl dX2_faultIn_30 ?_
  refine ml_iconst (pc := 31) X dX2_faultIn_31 ?_
  refine pf_X2_19 (pc := 32) X (ml_c6 hn) ⟨by decide, by decide⟩ dX2_faultIn_32 (fun σ7 g7 => ?_)
  have hw := hw σ7 g7
  obtain ⟨N0, hw⟩ := hw
  exact u_X2_faultIn_35 X hn hp_p1 (fun σ x2 h_x2 ls hl hw => u_X2_faultIn_76 X hn hp_p1 σ x2 h_x2 ls hl hw) N0 σ7 x2 x3 x4 h_x2 h_x3 h_x4 _ (lv_sub hl [0, 1, 2, 3, 4] rfl) hw
set_option maxRecDepth 100000 in
theorem c_X2_faultIn (l : Launch) (base : Nat) (D : va_G) (cA : Nat → ClassId) (n : Nat) (hn : 214 ≤ n) (σ : ml_St) (p1 : Int) (hp_p1 : ml_at n p1 (2, 100)) (x2 : Int) (x3 : Int) (x4 : Int) (h_x2 : I32 x2) (h_x3 : I32 x3) (h_x4 : I32 x4) (Q : Int → ml_St → Prop) (hw : f_X2_faultIn σ p1 x2 x3 x4 Q) : Met l yX2_faultIn (Cond.code yX2_faultIn cX2_faultIn 5 (some .int) :: ml_T) rm_X2_faultIn (va_Pc [.ref (base + (6 : Int).toNat), .ref (base + (p1 : Int).toNat), .int (Int32.ofInt x2), .int (Int32.ofInt x3), .int (Int32.ofInt x4)] (ml_U base D cA n σ)) (ml_Qi I32 base D cA n Q) 0 0 (ml_A base) := by
  refine Met.ofW (cc := cX2_faultIn) (maxL := 5) (ret := (some .int)) (by decide) rfl ?_
  intro p e s m args below meth c s₁ B hml hv
  obtain ⟨rfl, hP, hK, hok, hro⟩ := hv
  have X : ml_X p s m c meth _ D cA cX2_faultIn 5 RX2 (some .int) := ⟨B.exec, B.bytes, hml, findClass_of_methodNamed B.named, fun w hw => atoms_spec (ws := Cond.code yX2_faultIn cX2_faultIn 5 (some .int) :: ml_T) B.pre w (List.mem_cons_of_mem _ hw), hK, B.notSynchronized, B.returns⟩
  have hl := lv_entry [.ref (base + (6 : Int).toNat), .ref (base + (p1 : Int).toNat), .int (Int32.ofInt x2), .int (Int32.ofInt x3), .int (Int32.ofInt x4)] (n := 5) (Nat.le_of_ble_eq_true rfl)
  rw [lg_entry_eq]
  generalize (lg_sl [.ref (base + (6 : Int).toNat), .ref (base + (p1 : Int).toNat), .int (Int32.ofInt x2), .int (Int32.ofInt x3), .int (Int32.ofInt x4)] ++ List.replicate (5 - (lg_sl [.ref (base + (6 : Int).toNat), .ref (base + (p1 : Int).toNat), .int (Int32.ofInt x2), .int (Int32.ofInt x3), .int (Int32.ofInt x4)]).length) Slot.unset).toArray = ls at hl ⊢
  have hl : lv_has ls 5 [(0, .ref (base + (6 : Int).toNat)), (1, .ref (base + (p1 : Int).toNat)), (2, .int (Int32.ofInt x2)), (3, .int (Int32.ofInt x3)), (4, .int (Int32.ofInt x4))] := hl
  unfold f_X2_faultIn at hw
  exact u_X2_faultIn_0 X hn hp_p1 σ x2 x3 x4 h_x2 h_x3 h_x4 _ (lv_sub hl [0, 1, 2, 3, 4] rfl) hw s.heap [] hP va_S.rf hok hro
theorem dX9_isTooLong_0 : decode cX9_isTooLong 0 = .ok (.aload_n 0, 1) := by decide +kernel
theorem dX9_isTooLong_1 : decode cX9_isTooLong 1 = .ok (.getfield 29, 3) := by decide +kernel
theorem dX9_isTooLong_4 : decode cX9_isTooLong 4 = .ok (.ldc2_w 39, 3) := by decide +kernel
theorem dX9_isTooLong_7 : decode cX9_isTooLong 7 = .ok (.lcmp, 1) := by decide +kernel
theorem dX9_isTooLong_8 : decode cX9_isTooLong 8 = .ok (.ifCond .le 7, 3) := by decide +kernel
theorem dX9_isTooLong_11 : decode cX9_isTooLong 11 = .ok (.iconst 1, 1) := by decide +kernel
theorem dX9_isTooLong_12 : decode cX9_isTooLong 12 = .ok (.goto 4, 3) := by decide +kernel
theorem dX9_isTooLong_15 : decode cX9_isTooLong 15 = .ok (.iconst 0, 1) := by decide +kernel
theorem dX9_isTooLong_16 : decode cX9_isTooLong 16 = .ok (.ireturn, 1) := by decide +kernel
def f_X9_isTooLong_u16 (Q : Int → ml_St → Prop) (th : Int) (σ : ml_St) (s0 : Int) : Prop :=
Q s0 σ
def f_X9_isTooLong_u0 (Q : Int → ml_St → Prop) (th : Int) (σ : ml_St) : Prop :=
∀ _ : I64 (σ th 5),
(((σ th 5) : Int) ≤ 1000000000000 →
f_X9_isTooLong_u16 Q th σ 0) ∧
(¬ (((σ th 5) : Int) ≤ 1000000000000) →
f_X9_isTooLong_u16 Q th σ 1)
def f_X9_isTooLong (σ : ml_St) (th : Int) (Q : Int → ml_St → Prop) : Prop := f_X9_isTooLong_u0 Q th σ
def rm_X9_isTooLong : Room := { frames := 0, cells := 0, slots := 0, locals := 0 }
set_option maxRecDepth 100000 in
set_option maxHeartbeats 4000000 in
theorem u_X9_isTooLong_16 {p : Program} {e : Env} {s : State} {m : MethodId} {args : Array Value} {below : List Frame} {meth : Method} {c : Code} {base : Nat} {D : va_G} {cA : Nat → ClassId} {n : Nat} {l : Launch} {th : Int} {Q : Int → ml_St → Prop} (X : ml_X p s m c meth args D cA cX9_isTooLong 1 RX9 (some .boolean)) (hn : 214 ≤ n) (hp_th : ml_at n th (19, 8)) (σ : ml_St) (s0 : Int) (h_s0 : ml_B s0) (ls : Array Slot) (hl : lv_has ls 1 []) (hw : f_X9_isTooLong_u16 Q th σ s0) : ml_V p l e rm_X9_isTooLong s m args below meth c (MQ below (ml_Qi ml_B base D cA n Q) args s 0 0 (ml_A base)) base D cA 0 0 n n σ (F0 m 16 ls [.int (Int32.ofInt s0)]) := by
  unfold f_X9_isTooLong_u16 at hw
  exact ml_zret (pc := 16) X h_s0 hw dX9_isTooLong_16
set_option maxRecDepth 100000 in
set_option maxHeartbeats 4000000 in
theorem u_X9_isTooLong_0 {p : Program} {e : Env} {s : State} {m : MethodId} {args : Array Value} {below : List Frame} {meth : Method} {c : Code} {base : Nat} {D : va_G} {cA : Nat → ClassId} {n : Nat} {l : Launch} {th : Int} {Q : Int → ml_St → Prop} (X : ml_X p s m c meth args D cA cX9_isTooLong 1 RX9 (some .boolean)) (hn : 214 ≤ n) (hp_th : ml_at n th (19, 8)) (σ : ml_St) (ls : Array Slot) (hl : lv_has ls 1 [(0, .ref (base + (th : Int).toNat))]) (hw : f_X9_isTooLong_u0 Q th σ) : ml_V p l e rm_X9_isTooLong s m args below meth c (MQ below (ml_Qi ml_B base D cA n Q) args s 0 0 (ml_A base)) base D cA 0 0 n n σ (F0 m 0 ls []) := by
  unfold f_X9_isTooLong_u0 at hw
  refine ml_aload_n (pc := 0) X hl 0 rfl rfl dX9_isTooLong_0 ?_
  refine gf_X9_29 (pc := 1) X hp_th dX9_isTooLong_1 (fun r1 => ?_)
  have hw := hw r1
  refine ml_ldc2 (pc := 4) (v := 1000000000000) X dX9_isTooLong_4 tc_3_83 ?_
  refine ml_lcmp_le (pc := 7) (tgt := 15) X r1 ⟨by decide, by decide⟩ dX9_isTooLong_7 dX9_isTooLong_8 (by decide) (fun c2 => ?_) (fun c2 => ?_)
  · have hw := hw.1 c2
    refine ml_iconst (pc := 15) X dX9_isTooLong_15 ?_
    exact u_X9_isTooLong_16 X hn hp_th σ 0 ⟨by decide, by decide⟩ _ (lv_sub hl [] rfl) hw
  · have hw := hw.2 c2
    refine ml_iconst (pc := 11) X dX9_isTooLong_11 ?_
    refine ml_goto (pc := 12) (tgt := 16) X dX9_isTooLong_12 (by decide) ?_
    exact u_X9_isTooLong_16 X hn hp_th σ 1 ⟨by decide, by decide⟩ _ (lv_sub hl [] rfl) hw
set_option maxRecDepth 100000 in
theorem c_X9_isTooLong (l : Launch) (base : Nat) (D : va_G) (cA : Nat → ClassId) (n : Nat) (hn : 214 ≤ n) (σ : ml_St) (th : Int) (hp_th : ml_at n th (19, 8)) (Q : Int → ml_St → Prop) (hw : f_X9_isTooLong σ th Q) : Met l yX9_isTooLong (Cond.code yX9_isTooLong cX9_isTooLong 1 (some .boolean) :: ml_T) rm_X9_isTooLong (va_Pc [.ref (base + (th : Int).toNat)] (ml_U base D cA n σ)) (ml_Qi ml_B base D cA n Q) 0 0 (ml_A base) := by
  refine Met.ofW (cc := cX9_isTooLong) (maxL := 1) (ret := (some .boolean)) (by decide) rfl ?_
  intro p e s m args below meth c s₁ B hml hv
  obtain ⟨rfl, hP, hK, hok, hro⟩ := hv
  have X : ml_X p s m c meth _ D cA cX9_isTooLong 1 RX9 (some .boolean) := ⟨B.exec, B.bytes, hml, findClass_of_methodNamed B.named, fun w hw => atoms_spec (ws := Cond.code yX9_isTooLong cX9_isTooLong 1 (some .boolean) :: ml_T) B.pre w (List.mem_cons_of_mem _ hw), hK, B.notSynchronized, B.returns⟩
  have hl := lv_entry [.ref (base + (th : Int).toNat)] (n := 1) (Nat.le_of_ble_eq_true rfl)
  rw [lg_entry_eq]
  generalize (lg_sl [.ref (base + (th : Int).toNat)] ++ List.replicate (1 - (lg_sl [.ref (base + (th : Int).toNat)]).length) Slot.unset).toArray = ls at hl ⊢
  have hl : lv_has ls 1 [(0, .ref (base + (th : Int).toNat))] := hl
  unfold f_X9_isTooLong at hw
  exact u_X9_isTooLong_0 X hn hp_th σ  _ (lv_sub hl [0] rfl) hw s.heap [] hP va_S.rf hok hro
theorem dX11_tell_0 : decode cX11_tell 0 = .ok (.iload_n 2, 1) := by decide +kernel
theorem dX11_tell_1 : decode cX11_tell 1 = .ok (.iconst 1, 1) := by decide +kernel
theorem dX11_tell_2 : decode cX11_tell 2 = .ok (.if_icmp .lt 20, 3) := by decide +kernel
theorem dX11_tell_5 : decode cX11_tell 5 = .ok (.iload_n 2, 1) := by decide +kernel
theorem dX11_tell_6 : decode cX11_tell 6 = .ok (.bipush 100, 2) := by decide +kernel
theorem dX11_tell_8 : decode cX11_tell 8 = .ok (.if_icmp .gt 14, 3) := by decide +kernel
theorem dX11_tell_11 : decode cX11_tell 11 = .ok (.aload_n 0, 1) := by decide +kernel
theorem dX11_tell_12 : decode cX11_tell 12 = .ok (.getfield 10, 3) := by decide +kernel
theorem dX11_tell_15 : decode cX11_tell 15 = .ok (.getfield 94, 3) := by decide +kernel
theorem dX11_tell_18 : decode cX11_tell 18 = .ok (.iload_n 2, 1) := by decide +kernel
theorem dX11_tell_19 : decode cX11_tell 19 = .ok (.if_icmp .ge 5, 3) := by decide +kernel
theorem dX11_tell_22 : decode cX11_tell 22 = .ok (.iconst (-1), 1) := by decide +kernel
theorem dX11_tell_23 : decode cX11_tell 23 = .ok (.ireturn, 1) := by decide +kernel
theorem dX11_tell_24 : decode cX11_tell 24 = .ok (.iconst 0, 1) := by decide +kernel
theorem dX11_tell_25 : decode cX11_tell 25 = .ok (.istore_n 3, 1) := by decide +kernel
theorem dX11_tell_26 : decode cX11_tell 26 = .ok (.iload_n 3, 1) := by decide +kernel
theorem dX11_tell_27 : decode cX11_tell 27 = .ok (.iload_n 2, 1) := by decide +kernel
theorem dX11_tell_28 : decode cX11_tell 28 = .ok (.if_icmp .ge 25, 3) := by decide +kernel
theorem dX11_tell_31 : decode cX11_tell 31 = .ok (.aload_n 0, 1) := by decide +kernel
theorem dX11_tell_32 : decode cX11_tell 32 = .ok (.getfield 71, 3) := by decide +kernel
theorem dX11_tell_35 : decode cX11_tell 35 = .ok (.iload_n 3, 1) := by decide +kernel
theorem dX11_tell_36 : decode cX11_tell 36 = .ok (.aload_n 0, 1) := by decide +kernel
theorem dX11_tell_37 : decode cX11_tell 37 = .ok (.getfield 10, 3) := by decide +kernel
theorem dX11_tell_40 : decode cX11_tell 40 = .ok (.getfield 275, 3) := by decide +kernel
theorem dX11_tell_43 : decode cX11_tell 43 = .ok (.iload_n 3, 1) := by decide +kernel
theorem dX11_tell_44 : decode cX11_tell 44 = .ok (.iaload, 1) := by decide +kernel
theorem dX11_tell_45 : decode cX11_tell 45 = .ok (.i2b, 1) := by decide +kernel
theorem dX11_tell_46 : decode cX11_tell 46 = .ok (.bastore, 1) := by decide +kernel
theorem dX11_tell_47 : decode cX11_tell 47 = .ok (.iinc 3 1, 3) := by decide +kernel
theorem dX11_tell_50 : decode cX11_tell 50 = .ok (.goto (-24), 3) := by decide +kernel
theorem dX11_tell_53 : decode cX11_tell 53 = .ok (.aload_n 0, 1) := by decide +kernel
theorem dX11_tell_54 : decode cX11_tell 54 = .ok (.getfield 10, 3) := by decide +kernel
theorem dX11_tell_57 : decode cX11_tell 57 = .ok (.iconst 0, 1) := by decide +kernel
theorem dX11_tell_58 : decode cX11_tell 58 = .ok (.putfield 94, 3) := by decide +kernel
theorem dX11_tell_61 : decode cX11_tell 61 = .ok (.aload_n 0, 1) := by decide +kernel
theorem dX11_tell_62 : decode cX11_tell 62 = .ok (.getfield 26, 3) := by decide +kernel
theorem dX11_tell_65 : decode cX11_tell 65 = .ok (.aload_n 0, 1) := by decide +kernel
theorem dX11_tell_66 : decode cX11_tell 66 = .ok (.getfield 71, 3) := by decide +kernel
theorem dX11_tell_69 : decode cX11_tell 69 = .ok (.iload_n 2, 1) := by decide +kernel
theorem dX11_tell_70 : decode cX11_tell 70 = .ok (.aload_n 0, 1) := by decide +kernel
theorem dX11_tell_71 : decode cX11_tell 71 = .ok (.getfield 82, 3) := by decide +kernel
theorem dX11_tell_74 : decode cX11_tell 74 = .ok (.iload_n 1, 1) := by decide +kernel
theorem dX11_tell_75 : decode cX11_tell 75 = .ok (.invokevirtual 281, 3) := by decide +kernel
theorem dX11_tell_78 : decode cX11_tell 78 = .ok (.istore_n 3, 1) := by decide +kernel
theorem dX11_tell_79 : decode cX11_tell 79 = .ok (.iload_n 3, 1) := by decide +kernel
theorem dX11_tell_80 : decode cX11_tell 80 = .ok (.ifCond .eq 5, 3) := by decide +kernel
theorem dX11_tell_83 : decode cX11_tell 83 = .ok (.iload_n 3, 1) := by decide +kernel
theorem dX11_tell_84 : decode cX11_tell 84 = .ok (.ireturn, 1) := by decide +kernel
theorem dX11_tell_85 : decode cX11_tell 85 = .ok (.aload_n 0, 1) := by decide +kernel
theorem dX11_tell_86 : decode cX11_tell 86 = .ok (.getfield 33, 3) := by decide +kernel
theorem dX11_tell_89 : decode cX11_tell 89 = .ok (.aload_n 0, 1) := by decide +kernel
theorem dX11_tell_90 : decode cX11_tell 90 = .ok (.getfield 71, 3) := by decide +kernel
theorem dX11_tell_93 : decode cX11_tell 93 = .ok (.iload_n 2, 1) := by decide +kernel
theorem dX11_tell_94 : decode cX11_tell 94 = .ok (.aload_n 0, 1) := by decide +kernel
theorem dX11_tell_95 : decode cX11_tell 95 = .ok (.getfield 67, 3) := by decide +kernel
theorem dX11_tell_98 : decode cX11_tell 98 = .ok (.aload_n 0, 1) := by decide +kernel
theorem dX11_tell_99 : decode cX11_tell 99 = .ok (.getfield 78, 3) := by decide +kernel
theorem dX11_tell_102 : decode cX11_tell 102 = .ok (.aload_n 0, 1) := by decide +kernel
theorem dX11_tell_103 : decode cX11_tell 103 = .ok (.getfield 82, 3) := by decide +kernel
theorem dX11_tell_106 : decode cX11_tell 106 = .ok (.invokevirtual 285, 3) := by decide +kernel
theorem dX11_tell_109 : decode cX11_tell 109 = .ok (.aload_n 0, 1) := by decide +kernel
theorem dX11_tell_110 : decode cX11_tell 110 = .ok (.getfield 78, 3) := by decide +kernel
theorem dX11_tell_113 : decode cX11_tell 113 = .ok (.invokevirtual 215, 3) := by decide +kernel
theorem dX11_tell_116 : decode cX11_tell 116 = .ok (.ifCond .eq 9, 3) := by decide +kernel
theorem dX11_tell_119 : decode cX11_tell 119 = .ok (.iconst 5, 1) := by decide +kernel
theorem dX11_tell_120 : decode cX11_tell 120 = .ok (.iload_n 2, 1) := by decide +kernel
theorem dX11_tell_121 : decode cX11_tell 121 = .ok (.invokestatic 289, 3) := by decide +kernel
theorem dX11_tell_124 : decode cX11_tell 124 = .ok (.ireturn, 1) := by decide +kernel
theorem dX11_tell_125 : decode cX11_tell 125 = .ok (.aload_n 0, 1) := by decide +kernel
theorem dX11_tell_126 : decode cX11_tell 126 = .ok (.getfield 67, 3) := by decide +kernel
theorem dX11_tell_129 : decode cX11_tell 129 = .ok (.iload_n 1, 1) := by decide +kernel
theorem dX11_tell_130 : decode cX11_tell 130 = .ok (.aaload, 1) := by decide +kernel
theorem dX11_tell_131 : decode cX11_tell 131 = .ok (.aload_n 0, 1) := by decide +kernel
theorem dX11_tell_132 : decode cX11_tell 132 = .ok (.getfield 71, 3) := by decide +kernel
theorem dX11_tell_135 : decode cX11_tell 135 = .ok (.iload_n 2, 1) := by decide +kernel
theorem dX11_tell_136 : decode cX11_tell 136 = .ok (.invokevirtual 292, 3) := by decide +kernel
theorem dX11_tell_139 : decode cX11_tell 139 = .ok (.aload_n 0, 1) := by decide +kernel
theorem dX11_tell_140 : decode cX11_tell 140 = .ok (.aload_n 0, 1) := by decide +kernel
theorem dX11_tell_141 : decode cX11_tell 141 = .ok (.getfield 86, 3) := by decide +kernel
theorem dX11_tell_144 : decode cX11_tell 144 = .ok (.iload_n 1, 1) := by decide +kernel
theorem dX11_tell_145 : decode cX11_tell 145 = .ok (.iconst 1, 1) := by decide +kernel
theorem dX11_tell_146 : decode cX11_tell 146 = .ok (.iadd, 1) := by decide +kernel
theorem dX11_tell_147 : decode cX11_tell 147 = .ok (.invokestatic 296, 3) := by decide +kernel
theorem dX11_tell_150 : decode cX11_tell 150 = .ok (.putfield 86, 3) := by decide +kernel
theorem dX11_tell_153 : decode cX11_tell 153 = .ok (.aload_n 0, 1) := by decide +kernel
theorem dX11_tell_154 : decode cX11_tell 154 = .ok (.iload_n 1, 1) := by decide +kernel
theorem dX11_tell_155 : decode cX11_tell 155 = .ok (.invokevirtual 301, 3) := by decide +kernel
theorem dX11_tell_158 : decode cX11_tell 158 = .ok (.iload_n 1, 1) := by decide +kernel
theorem dX11_tell_159 : decode cX11_tell 159 = .ok (.ireturn, 1) := by decide +kernel
def f_X11_tell_u22 (Q : Int → ml_St → Prop) (σ : ml_St) : Prop :=
Q (-1) σ
def f_X11_tell_u26 (Q : Int → ml_St → Prop) (K53 : ml_St → Int → Int → Prop) : Nat → ml_St → Int → Int → Int → Prop
| 0, _, _, _, _ => False
| N + 1, σ, x1, x2, x3 =>
(x2 ≤ x3 →
K53 σ x1 x2) ∧
(¬ (x2 ≤ x3) →
(0 : Int) ≤ x3 ∧ (x3 : Int) < 200 ∧
∀ _ : I32 (σ 3 x3),
(0 : Int) ≤ x3 ∧ (x3 : Int) < 100 ∧
∀ σ3, σ3 = ml_up σ 115 x3 (b_i2b (σ 3 x3)) →
I32 (x3 + 1) ∧
∀ y4 : Int, y4 = x3 + 1 →
f_X11_tell_u26 Q K53 N σ3 x1 x2 y4)
def f_X11_tell_u53 (Q : Int → ml_St → Prop) (σ : ml_St) (x1 : Int) (x2 : Int) : Prop :=
∀ σ1, σ1 = ml_up σ 2 1 0 →
∀ _ : I32 (σ1 1 11),
f_X2_faultIn σ1 115 x2 (σ1 1 11) x1 (fun r3 σ3 => ∀ _ : I32 r3,
(r3 = 0 →
∀ _ : I32 (σ3 1 11),
f_X4_weave σ3 115 116 x2 (σ3 1 11) (fun σ6 =>
f_X9_isTooLong σ6 116 (fun r7 σ7 => ∀ _ : ml_B r7,
(r7 = 0 →
(0 : Int) ≤ x1 ∧ (x1 : Int) < 16 ∧
f_X10_setText σ7 (119 + 6 * x1) 115 x2 (fun σ10 =>
∀ _ : I32 (σ10 1 12),
I32 (x1 + 1) ∧
∀ σ13, σ13 = ml_up σ10 1 12 (max (σ10 1 12) (x1 + 1)) →
f_X11_weaveFrom σ13 x1 (fun σ14 =>
Q x1 σ14))) ∧
(r7 ≠ 0 →
f_X2_faultAt σ7 5 x2 (fun r15 σ15 => ∀ _ : I32 r15,
Q r15 σ15))))) ∧
(r3 ≠ 0 →
Q r3 σ3))
def f_X11_tell_u0 (Q : Int → ml_St → Prop) (σ : ml_St) (x1 : Int) (x2 : Int) : Prop :=
(x2 < 1 →
f_X11_tell_u22 Q σ) ∧
(¬ (x2 < 1) →
(100 < x2 →
f_X11_tell_u22 Q σ) ∧
(¬ (100 < x2) →
∀ _ : I32 (σ 2 1),
(x2 ≤ (σ 2 1) →
∃ N1, f_X11_tell_u26 Q (f_X11_tell_u53 Q) N1 σ x1 x2 0) ∧
(¬ (x2 ≤ (σ 2 1)) →
f_X11_tell_u22 Q σ)))
def f_X11_tell (σ : ml_St) (x1 : Int) (x2 : Int) (Q : Int → ml_St → Prop) : Prop := f_X11_tell_u0 Q σ x1 x2
def rm_X11_tell : Room := { frames := 6, cells := 0, slots := 0, locals := 188 }
set_option maxRecDepth 100000 in
set_option maxHeartbeats 4000000 in
theorem u_X11_tell_22 {p : Program} {e : Env} {s : State} {m : MethodId} {args : Array Value} {below : List Frame} {meth : Method} {c : Code} {base : Nat} {D : va_G} {cA : Nat → ClassId} {n : Nat} {l : Launch} {Q : Int → ml_St → Prop} (X : ml_X p s m c meth args D cA cX11_tell 4 RX11 (some .int)) (hn : 214 ≤ n) (σ : ml_St) (ls : Array Slot) (hl : lv_has ls 4 []) (hw : f_X11_tell_u22 Q σ) : ml_V p l e rm_X11_tell s m args below meth c (MQ below (ml_Qi I32 base D cA n Q) args s 0 0 (ml_A base)) base D cA 0 0 n n σ (F0 m 22 ls []) := by
  unfold f_X11_tell_u22 at hw
  refine ml_iconst (pc := 22) X dX11_tell_22 ?_
  exact ml_iret (pc := 23) X ⟨by decide, by decide⟩ hw dX11_tell_23
set_option maxRecDepth 100000 in
set_option maxHeartbeats 4000000 in
theorem u_X11_tell_26 {p : Program} {e : Env} {s : State} {m : MethodId} {args : Array Value} {below : List Frame} {meth : Method} {c : Code} {base : Nat} {D : va_G} {cA : Nat → ClassId} {n : Nat} {l : Launch} {Q : Int → ml_St → Prop} {K53 : ml_St → Int → Int → Prop} (X : ml_X p s m c meth args D cA cX11_tell 4 RX11 (some .int)) (hn : 214 ≤ n) (hK53 : ∀ (σ : ml_St) (x1 : Int) (x2 : Int) (h_x1 : I32 x1) (h_x2 : I32 x2) (ls : Array Slot), lv_has ls 4 [(0, .ref (base + (1 : Int).toNat)), (1, .int (Int32.ofInt x1)), (2, .int (Int32.ofInt x2))] → K53 σ x1 x2 → ml_V p l e rm_X11_tell s m args below meth c (MQ below (ml_Qi I32 base D cA n Q) args s 0 0 (ml_A base)) base D cA 0 0 n n σ (F0 m 53 ls [])) : ∀ (N : Nat) (σ : ml_St) (x1 : Int) (x2 : Int) (x3 : Int) (h_x1 : I32 x1) (h_x2 : I32 x2) (h_x3 : I32 x3) (ls : Array Slot), lv_has ls 4 [(0, .ref (base + (1 : Int).toNat)), (1, .int (Int32.ofInt x1)), (2, .int (Int32.ofInt x2)), (3, .int (Int32.ofInt x3))] → f_X11_tell_u26 Q K53 N σ x1 x2 x3 → ml_V p l e rm_X11_tell s m args below meth c (MQ below (ml_Qi I32 base D cA n Q) args s 0 0 (ml_A base)) base D cA 0 0 n n σ (F0 m 26 ls []) := by
  intro N
  induction N with
  | zero => intro σ x1 x2 x3 h_x1 h_x2 h_x3 ls hl hw; exact False.elim hw
  | succ N ih =>
    intro σ x1 x2 x3 h_x1 h_x2 h_x3 ls hl hw
    unfold f_X11_tell_u26 at hw
    refine ml_iload_n (pc := 26) X hl 3 rfl rfl dX11_tell_26 ?_
    refine ml_iload_n (pc := 27) X hl 2 rfl rfl dX11_tell_27 ?_
    refine ml_icmp_ge (pc := 28) (tgt := 53) X h_x3 h_x2 dX11_tell_28 (by decide) (fun c1 => ?_) (fun c1 => ?_)
    · have hw := hw.1 c1
      exact hK53 σ x1 x2 h_x1 h_x2 _ (lv_sub hl [0, 1, 2] rfl) hw
    · have hw := hw.2 c1
      refine ml_aload_n (pc := 31) X hl 0 rfl rfl dX11_tell_31 ?_
      refine gf_X11_71 (pc := 32) X (ml_c1 hn) dX11_tell_32 ?_
      refine ml_iload_n (pc := 35) X hl 3 rfl rfl dX11_tell_35 ?_
      refine ml_aload_n (pc := 36) X hl 0 rfl rfl dX11_tell_36 ?_
      refine gf_X11_10 (pc := 37) X (ml_c1 hn) dX11_tell_37 ?_
      refine gf_X11_275 (pc := 40) X (ml_c2 hn) dX11_tell_40 ?_
      refine ml_iload_n (pc := 43) X hl 3 rfl rfl dX11_tell_43 ?_
      obtain ⟨a2, b2, hw⟩ := hw
      refine ml_iald (pc := 44) (N := 200) X (ml_c3 hn) a2 b2 dX11_tell_44 (fun r2 => ?_)
      have hw := hw r2
      refine ml_i2b (pc := 45) X dX11_tell_45 ?_
      obtain ⟨a3, b3, hw⟩ := hw
      refine ml_bast (pc := 46) (N := 100) X (ml_c115 hn) a3 b3 (b_i2b_r _) dX11_tell_46 (fun σ3 g3 => ?_)
      have hw := hw σ3 g3
      obtain ⟨v4, hw⟩ := hw
      obtain ⟨y4, e4⟩ : ∃ y : Int, y = x3 + 1 := ⟨_, rfl⟩
      have hw := hw y4 e4
      rw [← e4] at v4
      refine ml_iinc (pc := 47) X e4 hl 3 rfl (by decide) (lst' := [(3, .int (Int32.ofInt y4)), (0, .ref (base + (1 : Int).toNat)), (1, .int (Int32.ofInt x1)), (2, .int (Int32.ofInt x2))]) rfl dX11_tell_47 (fun ls hl => ?_)
      refine ml_goto (pc := 50) (tgt := 26) X dX11_tell_50 (by decide) ?_
      exact ih σ3 x1 x2 y4 h_x1 h_x2 v4 _ (lv_sub hl [1, 2, 3, 0] rfl) hw
set_option maxRecDepth 100000 in
set_option maxHeartbeats 4000000 in
theorem u_X11_tell_53 {p : Program} {e : Env} {s : State} {m : MethodId} {args : Array Value} {below : List Frame} {meth : Method} {c : Code} {base : Nat} {D : va_G} {cA : Nat → ClassId} {n : Nat} {l : Launch} {Q : Int → ml_St → Prop} (X : ml_X p s m c meth args D cA cX11_tell 4 RX11 (some .int)) (hn : 214 ≤ n) (σ : ml_St) (x1 : Int) (x2 : Int) (h_x1 : I32 x1) (h_x2 : I32 x2) (ls : Array Slot) (hl : lv_has ls 4 [(0, .ref (base + (1 : Int).toNat)), (1, .int (Int32.ofInt x1)), (2, .int (Int32.ofInt x2))]) (hw : f_X11_tell_u53 Q σ x1 x2) : ml_V p l e rm_X11_tell s m args below meth c (MQ below (ml_Qi I32 base D cA n Q) args s 0 0 (ml_A base)) base D cA 0 0 n n σ (F0 m 53 ls []) := by
  unfold f_X11_tell_u53 at hw
  refine ml_aload_n (pc := 53) X hl 0 rfl rfl dX11_tell_53 ?_
  refine gf_X11_10 (pc := 54) X (ml_c1 hn) dX11_tell_54 ?_
  refine ml_iconst (pc := 57) X dX11_tell_57 ?_
  refine pf_X11_94 (pc := 58) X (ml_c2 hn) ⟨by decide, by decide⟩ dX11_tell_58 (fun σ1 g1 => ?_)
  have hw := hw σ1 g1
  refine ml_aload_n (pc := 61) X hl 0 rfl rfl dX11_tell_61 ?_
  refine gf_X11_26 (pc := 62) X (ml_c1 hn) dX11_tell_62 ?_
  refine ml_aload_n (pc := 65) X hl 0 rfl rfl dX11_tell_65 ?_
  refine gf_X11_71 (pc := 66) X (ml_c1 hn) dX11_tell_66 ?_
  refine ml_iload_n (pc := 69) X hl 2 rfl rfl dX11_tell_69 ?_
  refine ml_aload_n (pc := 70) X hl 0 rfl rfl dX11_tell_70 ?_
  refine gf_X11_82 (pc := 71) X (ml_c1 hn) dX11_tell_71 (fun r2 => ?_)
  have hw := hw r2
  refine ml_iload_n (pc := 74) X hl 1 rfl rfl dX11_tell_74 ?_
  refine ml_calliV (pc := 75) (rest := []) X [.ref (base + (115 : Int).toNat), .int (Int32.ofInt x2), .int (Int32.ofInt (σ1 1 11)), .int (Int32.ofInt x1)] (by decide) rfl (ml_c6 hn) (c_X2_faultIn l base D cA n hn σ1 115 (ml_c115 hn) x2 (σ1 1 11) x1 h_x2 r2 h_x1 _ hw) cv_X11_281 ⟨rfl, rfl⟩ ⟨by decide, by decide⟩ rfl rfl hl (Nat.le_of_ble_eq_true rfl) ⟨Nat.zero_le _, Nat.zero_le _⟩ dX11_tell_75 (fun r3 σ3 t3 hw => ?_)
  have hw := hw t3
  refine ml_istore_n (pc := 78) X rfl hl (by decide) (lst' := [(3, .int (Int32.ofInt r3)), (0, .ref (base + (1 : Int).toNat)), (1, .int (Int32.ofInt x1)), (2, .int (Int32.ofInt x2))]) rfl dX11_tell_78 (fun ls hl => ?_)
  refine ml_iload_n (pc := 79) X hl 0 rfl rfl dX11_tell_79 ?_
  refine ml_if_eq (pc := 80) (tgt := 85) X t3 dX11_tell_80 (by decide) (fun c4 => ?_) (fun c4 => ?_)
  · have hw := hw.1 c4
    refine ml_aload_n (pc := 85) X hl 1 rfl rfl dX11_tell_85 ?_
    refine gf_X11_33 (pc := 86) X (ml_c1 hn) dX11_tell_86 ?_
    refine ml_aload_n (pc := 89) X hl 1 rfl rfl dX11_tell_89 ?_
    refine gf_X11_71 (pc := 90) X (ml_c1 hn) dX11_tell_90 ?_
    refine ml_iload_n (pc := 93) X hl 3 rfl rfl dX11_tell_93 ?_
    refine ml_aload_n (pc := 94) X hl 1 rfl rfl dX11_tell_94 ?_
    refine gf_X11_67 (pc := 95) X (ml_c1 hn) dX11_tell_95 ?_
    refine ml_aload_n (pc := 98) X hl 1 rfl rfl dX11_tell_98 ?_
    refine gf_X11_78 (pc := 99) X (ml_c1 hn) dX11_tell_99 ?_
    refine ml_aload_n (pc := 102) X hl 1 rfl rfl dX11_tell_102 ?_
    refine gf_X11_82 (pc := 103) X (ml_c1 hn) dX11_tell_103 (fun r5 => ?_)
    have hw := hw r5
    refine ml_callvV (pc := 106) (rest := []) X [.ref (base + (115 : Int).toNat), .int (Int32.ofInt x2), .ref (base + (114 : Int).toNat), .ref (base + (116 : Int).toNat), .int (Int32.ofInt (σ3 1 11))] (by decide) rfl (ml_c8 hn) (c_X4_weave l base D cA n hn σ3 115 116 (ml_c115 hn) (ml_c116 hn) x2 (σ3 1 11) h_x2 r5 _ hw) cv_X11_285 ⟨rfl, rfl⟩ ⟨by decide, by decide⟩ rfl rfl hl (Nat.le_of_ble_eq_true rfl) ⟨Nat.zero_le _, Nat.zero_le _⟩ dX11_tell_106 (fun σ6 hw => ?_)
    refine ml_aload_n (pc := 109) X hl 1 rfl rfl dX11_tell_109 ?_
    refine gf_X11_78 (pc := 110) X (ml_c1 hn) dX11_tell_110 ?_
    refine ml_callzV (pc := 113) (rest := []) X [] (by decide) rfl (ml_c116 hn) (c_X9_isTooLong l base D cA n hn σ6 116 (ml_c116 hn) _ hw) cv_X11_215 ⟨rfl, rfl⟩ ⟨by decide, by decide⟩ rfl rfl hl (Nat.le_of_ble_eq_true rfl) ⟨Nat.zero_le _, Nat.zero_le _⟩ dX11_tell_113 (fun r7 σ7 t7 hw => ?_)
    have hw := hw t7
    refine ml_if_eq (pc := 116) (tgt := 125) X t7.i dX11_tell_116 (by decide) (fun c8 => ?_) (fun c8 => ?_)
    · have hw := hw.1 c8
      refine ml_aload_n (pc := 125) X hl 1 rfl rfl dX11_tell_125 ?_
      refine gf_X11_67 (pc := 126) X (ml_c1 hn) dX11_tell_126 ?_
      refine ml_iload_n (pc := 129) X hl 2 rfl rfl dX11_tell_129 ?_
      obtain ⟨a9, b9, hw⟩ := hw
      refine ml_aald_words (pc := 130) X hn a9 b9 dX11_tell_130 ?_
      refine ml_aload_n (pc := 131) X hl 1 rfl rfl dX11_tell_131 ?_
      refine gf_X11_71 (pc := 132) X (ml_c1 hn) dX11_tell_132 ?_
      refine ml_iload_n (pc := 135) X hl 3 rfl rfl dX11_tell_135 ?_
      refine ml_callvV (pc := 136) (rest := []) X [.ref (base + (115 : Int).toNat), .int (Int32.ofInt x2)] (by decide) rfl (ml_at_words hn a9 b9) (c_X10_setText l base D cA n hn σ7 (119 + 6 * x1) 115 (ml_at_words hn a9 b9) (ml_c115 hn) x2 h_x2 _ hw) cv_X11_292 ⟨rfl, rfl⟩ ⟨by decide, by decide⟩ rfl rfl hl (Nat.le_of_ble_eq_true rfl) ⟨Nat.zero_le _, Nat.zero_le _⟩ dX11_tell_136 (fun σ10 hw => ?_)
      refine ml_aload_n (pc := 139) X hl 1 rfl rfl dX11_tell_139 ?_
      refine ml_aload_n (pc := 140) X hl 1 rfl rfl dX11_tell_140 ?_
      refine gf_X11_86 (pc := 141) X (ml_c1 hn) dX11_tell_141 (fun r11 => ?_)
      have hw := hw r11
      refine ml_iload_n (pc := 144) X hl 2 rfl rfl dX11_tell_144 ?_
      refine ml_iconst (pc := 145) X dX11_tell_145 ?_
      obtain ⟨v12, hw⟩ := hw
      refine ml_iadd (pc := 146) X dX11_tell_146 ?_
      refine ml_mmax (pc := 147) X ⟨tw_3_91, tw_3_45, tw_1_14, tw_3_46⟩ r11 v12 ⟨Nat.zero_le _, Nat.zero_le _⟩ hl (Nat.le_of_ble_eq_true rfl) ⟨by decide, by decide⟩ dX11_tell_147 ?_
      refine pf_X11_86 (pc := 150) X (ml_c1 hn) (ml_max_r r11 v12) dX11_tell_150 (fun σ13 g13 => ?_)
      have hw := hw σ13 g13
      refine ml_aload_n (pc := 153) X hl 1 rfl rfl dX11_tell_153 ?_
      refine ml_iload_n (pc := 154) X hl 2 rfl rfl dX11_tell_154 ?_
      refine ml_callvV (pc := 155) (rest := []) X [.int (Int32.ofInt x1)] (by decide) rfl (ml_c1 hn) (c_X11_weaveFrom l base D cA n hn σ13 x1 h_x1 _ hw) cv_X11_301 ⟨rfl, rfl⟩ ⟨by decide, by decide⟩ rfl rfl hl (Nat.le_of_ble_eq_true rfl) ⟨Nat.zero_le _, Nat.zero_le _⟩ dX11_tell_155 (fun σ14 hw => ?_)
      refine ml_iload_n (pc := 158) X hl 2 rfl rfl dX11_tell_158 ?_
      exact ml_iret (pc := 159) X h_x1 hw dX11_tell_159
    · have hw := hw.2 c8
      refine ml_iconst (pc := 119) X dX11_tell_119 ?_
      refine ml_iload_n (pc := 120) X hl 3 rfl rfl dX11_tell_120 ?_
      refine ml_calliS (pc := 121) (rest := []) X [.int (Int32.ofInt 5), .int (Int32.ofInt x2)] (c_X2_faultAt l base D cA n hn σ7 5 x2 ⟨by decide, by decide⟩ h_x2 _ hw) cv_X11_289 ⟨rfl, rfl⟩ ⟨by decide, by decide⟩ rfl rfl hl (Nat.le_of_ble_eq_true rfl) ⟨Nat.zero_le _, Nat.zero_le _⟩ dX11_tell_121 (fun r15 σ15 t15 hw => ?_)
      have hw := hw t15
      exact ml_iret (pc := 124) X t15 hw dX11_tell_124
  · have hw := hw.2 c4
    refine ml_iload_n (pc := 83) X hl 0 rfl rfl dX11_tell_83 ?_
    exact ml_iret (pc := 84) X t3 hw dX11_tell_84
set_option maxRecDepth 100000 in
set_option maxHeartbeats 4000000 in
theorem u_X11_tell_0 {p : Program} {e : Env} {s : State} {m : MethodId} {args : Array Value} {below : List Frame} {meth : Method} {c : Code} {base : Nat} {D : va_G} {cA : Nat → ClassId} {n : Nat} {l : Launch} {Q : Int → ml_St → Prop} (X : ml_X p s m c meth args D cA cX11_tell 4 RX11 (some .int)) (hn : 214 ≤ n) (σ : ml_St) (x1 : Int) (x2 : Int) (h_x1 : I32 x1) (h_x2 : I32 x2) (ls : Array Slot) (hl : lv_has ls 4 [(0, .ref (base + (1 : Int).toNat)), (1, .int (Int32.ofInt x1)), (2, .int (Int32.ofInt x2))]) (hw : f_X11_tell_u0 Q σ x1 x2) : ml_V p l e rm_X11_tell s m args below meth c (MQ below (ml_Qi I32 base D cA n Q) args s 0 0 (ml_A base)) base D cA 0 0 n n σ (F0 m 0 ls []) := by
  unfold f_X11_tell_u0 at hw
  refine ml_iload_n (pc := 0) X hl 2 rfl rfl dX11_tell_0 ?_
  refine ml_iconst (pc := 1) X dX11_tell_1 ?_
  refine ml_icmp_lt (pc := 2) (tgt := 22) X h_x2 ⟨by decide, by decide⟩ dX11_tell_2 (by decide) (fun c1 => ?_) (fun c1 => ?_)
  · have hw := hw.1 c1
    exact u_X11_tell_22 X hn σ   _ (lv_sub hl [] rfl) hw
  · have hw := hw.2 c1
    refine ml_iload_n (pc := 5) X hl 2 rfl rfl dX11_tell_5 ?_
    refine ml_bipush (pc := 6) X dX11_tell_6 (by decide) ?_
    refine ml_icmp_gt (pc := 8) (tgt := 22) X h_x2 ⟨by decide, by decide⟩ dX11_tell_8 (by decide) (fun c2 => ?_) (fun c2 => ?_)
    · have hw := hw.1 c2
      exact u_X11_tell_22 X hn σ   _ (lv_sub hl [] rfl) hw
    · have hw := hw.2 c2
      refine ml_aload_n (pc := 11) X hl 0 rfl rfl dX11_tell_11 ?_
      refine gf_X11_10 (pc := 12) X (ml_c1 hn) dX11_tell_12 ?_
      refine gf_X11_94 (pc := 15) X (ml_c2 hn) dX11_tell_15 (fun r3 => ?_)
      have hw := hw r3
      refine ml_iload_n (pc := 18) X hl 2 rfl rfl dX11_tell_18 ?_
      refine ml_icmp_ge (pc := 19) (tgt := 24) X r3 h_x2 dX11_tell_19 (by decide) (fun c4 => ?_) (fun c4 => ?_)
      · have hw := hw.1 c4
        refine ml_iconst (pc := 24) X dX11_tell_24 ?_
        refine ml_istore_n (pc := 25) X rfl hl (by decide) (lst' := [(3, .int (Int32.ofInt 0)), (0, .ref (base + (1 : Int).toNat)), (1, .int (Int32.ofInt x1)), (2, .int (Int32.ofInt x2))]) rfl dX11_tell_25 (fun ls hl => ?_)
        obtain ⟨N0, hw⟩ := hw
        exact u_X11_tell_26 X hn (fun σ x1 x2 h_x1 h_x2 ls hl hw => u_X11_tell_53 X hn σ x1 x2 h_x1 h_x2 ls hl hw) N0 σ x1 x2 0 h_x1 h_x2 ⟨by decide, by decide⟩ _ (lv_sub hl [1, 2, 3, 0] rfl) hw
      · have hw := hw.2 c4
        exact u_X11_tell_22 X hn σ   _ (lv_sub hl [] rfl) hw
set_option maxRecDepth 100000 in
theorem c_X11_tell (l : Launch) (base : Nat) (D : va_G) (cA : Nat → ClassId) (n : Nat) (hn : 214 ≤ n) (σ : ml_St) (x1 : Int) (x2 : Int) (h_x1 : I32 x1) (h_x2 : I32 x2) (Q : Int → ml_St → Prop) (hw : f_X11_tell σ x1 x2 Q) : Met l yX11_tell (Cond.code yX11_tell cX11_tell 4 (some .int) :: ml_T) rm_X11_tell (va_Pc [.ref (base + (1 : Int).toNat), .int (Int32.ofInt x1), .int (Int32.ofInt x2)] (ml_U base D cA n σ)) (ml_Qi I32 base D cA n Q) 0 0 (ml_A base) := by
  refine Met.ofW (cc := cX11_tell) (maxL := 4) (ret := (some .int)) (by decide) rfl ?_
  intro p e s m args below meth c s₁ B hml hv
  obtain ⟨rfl, hP, hK, hok, hro⟩ := hv
  have X : ml_X p s m c meth _ D cA cX11_tell 4 RX11 (some .int) := ⟨B.exec, B.bytes, hml, findClass_of_methodNamed B.named, fun w hw => atoms_spec (ws := Cond.code yX11_tell cX11_tell 4 (some .int) :: ml_T) B.pre w (List.mem_cons_of_mem _ hw), hK, B.notSynchronized, B.returns⟩
  have hl := lv_entry [.ref (base + (1 : Int).toNat), .int (Int32.ofInt x1), .int (Int32.ofInt x2)] (n := 4) (Nat.le_of_ble_eq_true rfl)
  rw [lg_entry_eq]
  generalize (lg_sl [.ref (base + (1 : Int).toNat), .int (Int32.ofInt x1), .int (Int32.ofInt x2)] ++ List.replicate (4 - (lg_sl [.ref (base + (1 : Int).toNat), .int (Int32.ofInt x1), .int (Int32.ofInt x2)]).length) Slot.unset).toArray = ls at hl ⊢
  have hl : lv_has ls 4 [(0, .ref (base + (1 : Int).toNat)), (1, .int (Int32.ofInt x1)), (2, .int (Int32.ofInt x2))] := hl
  unfold f_X11_tell at hw
  exact u_X11_tell_0 X hn σ x1 x2 h_x1 h_x2 _ (lv_sub hl [0, 1, 2] rfl) hw s.heap [] hP va_S.rf hok hro
theorem dX11_word_0 : decode cX11_word 0 = .ok (.aload_n 0, 1) := by decide +kernel
theorem dX11_word_1 : decode cX11_word 1 = .ok (.getfield 86, 3) := by decide +kernel
theorem dX11_word_4 : decode cX11_word 4 = .ok (.bipush 16, 2) := by decide +kernel
theorem dX11_word_6 : decode cX11_word 6 = .ok (.if_icmp .ne 5, 3) := by decide +kernel
theorem dX11_word_9 : decode cX11_word 9 = .ok (.iconst (-1), 1) := by decide +kernel
theorem dX11_word_10 : decode cX11_word 10 = .ok (.ireturn, 1) := by decide +kernel
theorem dX11_word_11 : decode cX11_word 11 = .ok (.aload_n 0, 1) := by decide +kernel
theorem dX11_word_12 : decode cX11_word 12 = .ok (.aload_n 0, 1) := by decide +kernel
theorem dX11_word_13 : decode cX11_word 13 = .ok (.getfield 86, 3) := by decide +kernel
theorem dX11_word_16 : decode cX11_word 16 = .ok (.iload_n 1, 1) := by decide +kernel
theorem dX11_word_17 : decode cX11_word 17 = .ok (.invokevirtual 100, 3) := by decide +kernel
theorem dX11_word_20 : decode cX11_word 20 = .ok (.ireturn, 1) := by decide +kernel
def f_X11_word_u0 (Q : Int → ml_St → Prop) (σ : ml_St) (x1 : Int) : Prop :=
∀ _ : I32 (σ 1 12),
(((σ 1 12) : Int) ≠ 16 →
∀ _ : I32 (σ 1 12),
f_X11_tell σ (σ 1 12) x1 (fun r4 σ4 => ∀ _ : I32 r4,
Q r4 σ4)) ∧
((σ 1 12) = 16 →
Q (-1) σ)
def f_X11_word (σ : ml_St) (x1 : Int) (Q : Int → ml_St → Prop) : Prop := f_X11_word_u0 Q σ x1
def rm_X11_word : Room := { frames := 7, cells := 0, slots := 0, locals := 211 }
set_option maxRecDepth 100000 in
set_option maxHeartbeats 4000000 in
theorem u_X11_word_0 {p : Program} {e : Env} {s : State} {m : MethodId} {args : Array Value} {below : List Frame} {meth : Method} {c : Code} {base : Nat} {D : va_G} {cA : Nat → ClassId} {n : Nat} {l : Launch} {Q : Int → ml_St → Prop} (X : ml_X p s m c meth args D cA cX11_word 2 RX11 (some .int)) (hn : 214 ≤ n) (σ : ml_St) (x1 : Int) (h_x1 : I32 x1) (ls : Array Slot) (hl : lv_has ls 2 [(0, .ref (base + (1 : Int).toNat)), (1, .int (Int32.ofInt x1))]) (hw : f_X11_word_u0 Q σ x1) : ml_V p l e rm_X11_word s m args below meth c (MQ below (ml_Qi I32 base D cA n Q) args s 0 0 (ml_A base)) base D cA 0 0 n n σ (F0 m 0 ls []) := by
  unfold f_X11_word_u0 at hw
  refine ml_aload_n (pc := 0) X hl 0 rfl rfl dX11_word_0 ?_
  refine gf_X11_86 (pc := 1) X (ml_c1 hn) dX11_word_1 (fun r1 => ?_)
  have hw := hw r1
  refine ml_bipush (pc := 4) X dX11_word_4 (by decide) ?_
  refine ml_icmp_ne (pc := 6) (tgt := 11) X r1 ⟨by decide, by decide⟩ dX11_word_6 (by decide) (fun c2 => ?_) (fun c2 => ?_)
  · have hw := hw.1 c2
    refine ml_aload_n (pc := 11) X hl 0 rfl rfl dX11_word_11 ?_
    refine ml_aload_n (pc := 12) X hl 0 rfl rfl dX11_word_12 ?_
    refine gf_X11_86 (pc := 13) X (ml_c1 hn) dX11_word_13 (fun r3 => ?_)
    have hw := hw r3
    refine ml_iload_n (pc := 16) X hl 1 rfl rfl dX11_word_16 ?_
    refine ml_calliV (pc := 17) (rest := []) X [.int (Int32.ofInt (σ 1 12)), .int (Int32.ofInt x1)] (by decide) rfl (ml_c1 hn) (c_X11_tell l base D cA n hn σ (σ 1 12) x1 r3 h_x1 _ hw) cv_X11_100 ⟨rfl, rfl⟩ ⟨by decide, by decide⟩ rfl rfl hl (Nat.le_of_ble_eq_true rfl) ⟨Nat.zero_le _, Nat.zero_le _⟩ dX11_word_17 (fun r4 σ4 t4 hw => ?_)
    have hw := hw t4
    exact ml_iret (pc := 20) X t4 hw dX11_word_20
  · have hw := hw.2 c2
    refine ml_iconst (pc := 9) X dX11_word_9 ?_
    exact ml_iret (pc := 10) X ⟨by decide, by decide⟩ hw dX11_word_10
set_option maxRecDepth 100000 in
theorem c_X11_word (l : Launch) (base : Nat) (D : va_G) (cA : Nat → ClassId) (n : Nat) (hn : 214 ≤ n) (σ : ml_St) (x1 : Int) (h_x1 : I32 x1) (Q : Int → ml_St → Prop) (hw : f_X11_word σ x1 Q) : Met l yX11_word (Cond.code yX11_word cX11_word 2 (some .int) :: ml_T) rm_X11_word (va_Pc [.ref (base + (1 : Int).toNat), .int (Int32.ofInt x1)] (ml_U base D cA n σ)) (ml_Qi I32 base D cA n Q) 0 0 (ml_A base) := by
  refine Met.ofW (cc := cX11_word) (maxL := 2) (ret := (some .int)) (by decide) rfl ?_
  intro p e s m args below meth c s₁ B hml hv
  obtain ⟨rfl, hP, hK, hok, hro⟩ := hv
  have X : ml_X p s m c meth _ D cA cX11_word 2 RX11 (some .int) := ⟨B.exec, B.bytes, hml, findClass_of_methodNamed B.named, fun w hw => atoms_spec (ws := Cond.code yX11_word cX11_word 2 (some .int) :: ml_T) B.pre w (List.mem_cons_of_mem _ hw), hK, B.notSynchronized, B.returns⟩
  have hl := lv_entry [.ref (base + (1 : Int).toNat), .int (Int32.ofInt x1)] (n := 2) (Nat.le_of_ble_eq_true rfl)
  rw [lg_entry_eq]
  generalize (lg_sl [.ref (base + (1 : Int).toNat), .int (Int32.ofInt x1)] ++ List.replicate (2 - (lg_sl [.ref (base + (1 : Int).toNat), .int (Int32.ofInt x1)]).length) Slot.unset).toArray = ls at hl ⊢
  have hl : lv_has ls 2 [(0, .ref (base + (1 : Int).toNat)), (1, .int (Int32.ofInt x1))] := hl
  unfold f_X11_word at hw
  exact u_X11_word_0 X hn σ x1 h_x1 _ (lv_sub hl [0, 1] rfl) hw s.heap [] hP va_S.rf hok hro
theorem dX11_isTold_0 : decode cX11_isTold 0 = .ok (.iload_n 1, 1) := by decide +kernel
theorem dX11_isTold_1 : decode cX11_isTold 1 = .ok (.ifCond .lt 15, 3) := by decide +kernel
theorem dX11_isTold_4 : decode cX11_isTold 4 = .ok (.iload_n 1, 1) := by decide +kernel
theorem dX11_isTold_5 : decode cX11_isTold 5 = .ok (.aload_n 0, 1) := by decide +kernel
theorem dX11_isTold_6 : decode cX11_isTold 6 = .ok (.getfield 86, 3) := by decide +kernel
theorem dX11_isTold_9 : decode cX11_isTold 9 = .ok (.if_icmp .ge 7, 3) := by decide +kernel
theorem dX11_isTold_12 : decode cX11_isTold 12 = .ok (.iconst 1, 1) := by decide +kernel
theorem dX11_isTold_13 : decode cX11_isTold 13 = .ok (.goto 4, 3) := by decide +kernel
theorem dX11_isTold_16 : decode cX11_isTold 16 = .ok (.iconst 0, 1) := by decide +kernel
theorem dX11_isTold_17 : decode cX11_isTold 17 = .ok (.ireturn, 1) := by decide +kernel
def f_X11_isTold_u17 (Q : Int → ml_St → Prop) (σ : ml_St) (s0 : Int) : Prop :=
Q s0 σ
def f_X11_isTold_u16 (Q : Int → ml_St → Prop) (σ : ml_St) : Prop :=
f_X11_isTold_u17 Q σ 0
def f_X11_isTold_u0 (Q : Int → ml_St → Prop) (σ : ml_St) (x1 : Int) : Prop :=
(x1 < 0 →
f_X11_isTold_u16 Q σ) ∧
(¬ (x1 < 0) →
∀ _ : I32 (σ 1 12),
((σ 1 12) ≤ x1 →
f_X11_isTold_u16 Q σ) ∧
(¬ ((σ 1 12) ≤ x1) →
f_X11_isTold_u17 Q σ 1))
def f_X11_isTold (σ : ml_St) (x1 : Int) (Q : Int → ml_St → Prop) : Prop := f_X11_isTold_u0 Q σ x1
def rm_X11_isTold : Room := { frames := 0, cells := 0, slots := 0, locals := 0 }
set_option maxRecDepth 100000 in
set_option maxHeartbeats 4000000 in
theorem u_X11_isTold_17 {p : Program} {e : Env} {s : State} {m : MethodId} {args : Array Value} {below : List Frame} {meth : Method} {c : Code} {base : Nat} {D : va_G} {cA : Nat → ClassId} {n : Nat} {l : Launch} {Q : Int → ml_St → Prop} (X : ml_X p s m c meth args D cA cX11_isTold 2 RX11 (some .boolean)) (hn : 214 ≤ n) (σ : ml_St) (s0 : Int) (h_s0 : ml_B s0) (ls : Array Slot) (hl : lv_has ls 2 []) (hw : f_X11_isTold_u17 Q σ s0) : ml_V p l e rm_X11_isTold s m args below meth c (MQ below (ml_Qi ml_B base D cA n Q) args s 0 0 (ml_A base)) base D cA 0 0 n n σ (F0 m 17 ls [.int (Int32.ofInt s0)]) := by
  unfold f_X11_isTold_u17 at hw
  exact ml_zret (pc := 17) X h_s0 hw dX11_isTold_17
set_option maxRecDepth 100000 in
set_option maxHeartbeats 4000000 in
theorem u_X11_isTold_16 {p : Program} {e : Env} {s : State} {m : MethodId} {args : Array Value} {below : List Frame} {meth : Method} {c : Code} {base : Nat} {D : va_G} {cA : Nat → ClassId} {n : Nat} {l : Launch} {Q : Int → ml_St → Prop} (X : ml_X p s m c meth args D cA cX11_isTold 2 RX11 (some .boolean)) (hn : 214 ≤ n) (σ : ml_St) (ls : Array Slot) (hl : lv_has ls 2 []) (hw : f_X11_isTold_u16 Q σ) : ml_V p l e rm_X11_isTold s m args below meth c (MQ below (ml_Qi ml_B base D cA n Q) args s 0 0 (ml_A base)) base D cA 0 0 n n σ (F0 m 16 ls []) := by
  unfold f_X11_isTold_u16 at hw
  refine ml_iconst (pc := 16) X dX11_isTold_16 ?_
  exact u_X11_isTold_17 X hn σ 0 ⟨by decide, by decide⟩ _ (lv_sub hl [] rfl) hw
set_option maxRecDepth 100000 in
set_option maxHeartbeats 4000000 in
theorem u_X11_isTold_0 {p : Program} {e : Env} {s : State} {m : MethodId} {args : Array Value} {below : List Frame} {meth : Method} {c : Code} {base : Nat} {D : va_G} {cA : Nat → ClassId} {n : Nat} {l : Launch} {Q : Int → ml_St → Prop} (X : ml_X p s m c meth args D cA cX11_isTold 2 RX11 (some .boolean)) (hn : 214 ≤ n) (σ : ml_St) (x1 : Int) (h_x1 : I32 x1) (ls : Array Slot) (hl : lv_has ls 2 [(0, .ref (base + (1 : Int).toNat)), (1, .int (Int32.ofInt x1))]) (hw : f_X11_isTold_u0 Q σ x1) : ml_V p l e rm_X11_isTold s m args below meth c (MQ below (ml_Qi ml_B base D cA n Q) args s 0 0 (ml_A base)) base D cA 0 0 n n σ (F0 m 0 ls []) := by
  unfold f_X11_isTold_u0 at hw
  refine ml_iload_n (pc := 0) X hl 1 rfl rfl dX11_isTold_0 ?_
  refine ml_if_lt (pc := 1) (tgt := 16) X h_x1 dX11_isTold_1 (by decide) (fun c1 => ?_) (fun c1 => ?_)
  · have hw := hw.1 c1
    exact u_X11_isTold_16 X hn σ   _ (lv_sub hl [] rfl) hw
  · have hw := hw.2 c1
    refine ml_iload_n (pc := 4) X hl 1 rfl rfl dX11_isTold_4 ?_
    refine ml_aload_n (pc := 5) X hl 0 rfl rfl dX11_isTold_5 ?_
    refine gf_X11_86 (pc := 6) X (ml_c1 hn) dX11_isTold_6 (fun r2 => ?_)
    have hw := hw r2
    refine ml_icmp_ge (pc := 9) (tgt := 16) X h_x1 r2 dX11_isTold_9 (by decide) (fun c3 => ?_) (fun c3 => ?_)
    · have hw := hw.1 c3
      exact u_X11_isTold_16 X hn σ   _ (lv_sub hl [] rfl) hw
    · have hw := hw.2 c3
      refine ml_iconst (pc := 12) X dX11_isTold_12 ?_
      refine ml_goto (pc := 13) (tgt := 17) X dX11_isTold_13 (by decide) ?_
      exact u_X11_isTold_17 X hn σ 1 ⟨by decide, by decide⟩ _ (lv_sub hl [] rfl) hw
set_option maxRecDepth 100000 in
theorem c_X11_isTold (l : Launch) (base : Nat) (D : va_G) (cA : Nat → ClassId) (n : Nat) (hn : 214 ≤ n) (σ : ml_St) (x1 : Int) (h_x1 : I32 x1) (Q : Int → ml_St → Prop) (hw : f_X11_isTold σ x1 Q) : Met l yX11_isTold (Cond.code yX11_isTold cX11_isTold 2 (some .boolean) :: ml_T) rm_X11_isTold (va_Pc [.ref (base + (1 : Int).toNat), .int (Int32.ofInt x1)] (ml_U base D cA n σ)) (ml_Qi ml_B base D cA n Q) 0 0 (ml_A base) := by
  refine Met.ofW (cc := cX11_isTold) (maxL := 2) (ret := (some .boolean)) (by decide) rfl ?_
  intro p e s m args below meth c s₁ B hml hv
  obtain ⟨rfl, hP, hK, hok, hro⟩ := hv
  have X : ml_X p s m c meth _ D cA cX11_isTold 2 RX11 (some .boolean) := ⟨B.exec, B.bytes, hml, findClass_of_methodNamed B.named, fun w hw => atoms_spec (ws := Cond.code yX11_isTold cX11_isTold 2 (some .boolean) :: ml_T) B.pre w (List.mem_cons_of_mem _ hw), hK, B.notSynchronized, B.returns⟩
  have hl := lv_entry [.ref (base + (1 : Int).toNat), .int (Int32.ofInt x1)] (n := 2) (Nat.le_of_ble_eq_true rfl)
  rw [lg_entry_eq]
  generalize (lg_sl [.ref (base + (1 : Int).toNat), .int (Int32.ofInt x1)] ++ List.replicate (2 - (lg_sl [.ref (base + (1 : Int).toNat), .int (Int32.ofInt x1)]).length) Slot.unset).toArray = ls at hl ⊢
  have hl : lv_has ls 2 [(0, .ref (base + (1 : Int).toNat)), (1, .int (Int32.ofInt x1))] := hl
  unfold f_X11_isTold at hw
  exact u_X11_isTold_0 X hn σ x1 h_x1 _ (lv_sub hl [0, 1] rfl) hw s.heap [] hP va_S.rf hok hro
theorem dX11_change_0 : decode cX11_change 0 = .ok (.aload_n 0, 1) := by decide +kernel
theorem dX11_change_1 : decode cX11_change 1 = .ok (.iload_n 1, 1) := by decide +kernel
theorem dX11_change_2 : decode cX11_change 2 = .ok (.invokevirtual 104, 3) := by decide +kernel
theorem dX11_change_5 : decode cX11_change 5 = .ok (.ifCond .ne 5, 3) := by decide +kernel
theorem dX11_change_8 : decode cX11_change 8 = .ok (.iconst (-1), 1) := by decide +kernel
theorem dX11_change_9 : decode cX11_change 9 = .ok (.ireturn, 1) := by decide +kernel
theorem dX11_change_10 : decode cX11_change 10 = .ok (.aload_n 0, 1) := by decide +kernel
theorem dX11_change_11 : decode cX11_change 11 = .ok (.iload_n 1, 1) := by decide +kernel
theorem dX11_change_12 : decode cX11_change 12 = .ok (.iload_n 2, 1) := by decide +kernel
theorem dX11_change_13 : decode cX11_change 13 = .ok (.invokevirtual 100, 3) := by decide +kernel
theorem dX11_change_16 : decode cX11_change 16 = .ok (.ireturn, 1) := by decide +kernel
def f_X11_change_u0 (Q : Int → ml_St → Prop) (σ : ml_St) (x1 : Int) (x2 : Int) : Prop :=
f_X11_isTold σ x1 (fun r1 σ1 => ∀ _ : ml_B r1,
(r1 ≠ 0 →
f_X11_tell σ1 x1 x2 (fun r3 σ3 => ∀ _ : I32 r3,
Q r3 σ3)) ∧
(r1 = 0 →
Q (-1) σ1))
def f_X11_change (σ : ml_St) (x1 : Int) (x2 : Int) (Q : Int → ml_St → Prop) : Prop := f_X11_change_u0 Q σ x1 x2
def rm_X11_change : Room := { frames := 7, cells := 0, slots := 0, locals := 211 }
set_option maxRecDepth 100000 in
set_option maxHeartbeats 4000000 in
theorem u_X11_change_0 {p : Program} {e : Env} {s : State} {m : MethodId} {args : Array Value} {below : List Frame} {meth : Method} {c : Code} {base : Nat} {D : va_G} {cA : Nat → ClassId} {n : Nat} {l : Launch} {Q : Int → ml_St → Prop} (X : ml_X p s m c meth args D cA cX11_change 3 RX11 (some .int)) (hn : 214 ≤ n) (σ : ml_St) (x1 : Int) (x2 : Int) (h_x1 : I32 x1) (h_x2 : I32 x2) (ls : Array Slot) (hl : lv_has ls 3 [(0, .ref (base + (1 : Int).toNat)), (1, .int (Int32.ofInt x1)), (2, .int (Int32.ofInt x2))]) (hw : f_X11_change_u0 Q σ x1 x2) : ml_V p l e rm_X11_change s m args below meth c (MQ below (ml_Qi I32 base D cA n Q) args s 0 0 (ml_A base)) base D cA 0 0 n n σ (F0 m 0 ls []) := by
  unfold f_X11_change_u0 at hw
  refine ml_aload_n (pc := 0) X hl 0 rfl rfl dX11_change_0 ?_
  refine ml_iload_n (pc := 1) X hl 1 rfl rfl dX11_change_1 ?_
  refine ml_callzV (pc := 2) (rest := []) X [.int (Int32.ofInt x1)] (by decide) rfl (ml_c1 hn) (c_X11_isTold l base D cA n hn σ x1 h_x1 _ hw) cv_X11_104 ⟨rfl, rfl⟩ ⟨by decide, by decide⟩ rfl rfl hl (Nat.le_of_ble_eq_true rfl) ⟨Nat.zero_le _, Nat.zero_le _⟩ dX11_change_2 (fun r1 σ1 t1 hw => ?_)
  have hw := hw t1
  refine ml_if_ne (pc := 5) (tgt := 10) X t1.i dX11_change_5 (by decide) (fun c2 => ?_) (fun c2 => ?_)
  · have hw := hw.1 c2
    refine ml_aload_n (pc := 10) X hl 0 rfl rfl dX11_change_10 ?_
    refine ml_iload_n (pc := 11) X hl 1 rfl rfl dX11_change_11 ?_
    refine ml_iload_n (pc := 12) X hl 2 rfl rfl dX11_change_12 ?_
    refine ml_calliV (pc := 13) (rest := []) X [.int (Int32.ofInt x1), .int (Int32.ofInt x2)] (by decide) rfl (ml_c1 hn) (c_X11_tell l base D cA n hn σ1 x1 x2 h_x1 h_x2 _ hw) cv_X11_100 ⟨rfl, rfl⟩ ⟨by decide, by decide⟩ rfl rfl hl (Nat.le_of_ble_eq_true rfl) ⟨Nat.zero_le _, Nat.zero_le _⟩ dX11_change_13 (fun r3 σ3 t3 hw => ?_)
    have hw := hw t3
    exact ml_iret (pc := 16) X t3 hw dX11_change_16
  · have hw := hw.2 c2
    refine ml_iconst (pc := 8) X dX11_change_8 ?_
    exact ml_iret (pc := 9) X ⟨by decide, by decide⟩ hw dX11_change_9
set_option maxRecDepth 100000 in
theorem c_X11_change (l : Launch) (base : Nat) (D : va_G) (cA : Nat → ClassId) (n : Nat) (hn : 214 ≤ n) (σ : ml_St) (x1 : Int) (x2 : Int) (h_x1 : I32 x1) (h_x2 : I32 x2) (Q : Int → ml_St → Prop) (hw : f_X11_change σ x1 x2 Q) : Met l yX11_change (Cond.code yX11_change cX11_change 3 (some .int) :: ml_T) rm_X11_change (va_Pc [.ref (base + (1 : Int).toNat), .int (Int32.ofInt x1), .int (Int32.ofInt x2)] (ml_U base D cA n σ)) (ml_Qi I32 base D cA n Q) 0 0 (ml_A base) := by
  refine Met.ofW (cc := cX11_change) (maxL := 3) (ret := (some .int)) (by decide) rfl ?_
  intro p e s m args below meth c s₁ B hml hv
  obtain ⟨rfl, hP, hK, hok, hro⟩ := hv
  have X : ml_X p s m c meth _ D cA cX11_change 3 RX11 (some .int) := ⟨B.exec, B.bytes, hml, findClass_of_methodNamed B.named, fun w hw => atoms_spec (ws := Cond.code yX11_change cX11_change 3 (some .int) :: ml_T) B.pre w (List.mem_cons_of_mem _ hw), hK, B.notSynchronized, B.returns⟩
  have hl := lv_entry [.ref (base + (1 : Int).toNat), .int (Int32.ofInt x1), .int (Int32.ofInt x2)] (n := 3) (Nat.le_of_ble_eq_true rfl)
  rw [lg_entry_eq]
  generalize (lg_sl [.ref (base + (1 : Int).toNat), .int (Int32.ofInt x1), .int (Int32.ofInt x2)] ++ List.replicate (3 - (lg_sl [.ref (base + (1 : Int).toNat), .int (Int32.ofInt x1), .int (Int32.ofInt x2)]).length) Slot.unset).toArray = ls at hl ⊢
  have hl : lv_has ls 3 [(0, .ref (base + (1 : Int).toNat)), (1, .int (Int32.ofInt x1)), (2, .int (Int32.ofInt x2))] := hl
  unfold f_X11_change at hw
  exact u_X11_change_0 X hn σ x1 x2 h_x1 h_x2 _ (lv_sub hl [0, 1, 2] rfl) hw s.heap [] hP va_S.rf hok hro
theorem dX11_round_0 : decode cX11_round 0 = .ok (.aload_n 0, 1) := by decide +kernel
theorem dX11_round_1 : decode cX11_round 1 = .ok (.getfield 19, 3) := by decide +kernel
theorem dX11_round_4 : decode cX11_round 4 = .ok (.aload_n 0, 1) := by decide +kernel
theorem dX11_round_5 : decode cX11_round 5 = .ok (.getfield 82, 3) := by decide +kernel
theorem dX11_round_8 : decode cX11_round 8 = .ok (.invokevirtual 90, 3) := by decide +kernel
theorem dX11_round_11 : decode cX11_round 11 = .ok (.iconst 1, 1) := by decide +kernel
theorem dX11_round_12 : decode cX11_round 12 = .ok (.ireturn, 1) := by decide +kernel
def f_X11_round_u0 (Q : Int → ml_St → Prop) (σ : ml_St) : Prop :=
∀ _ : I32 (σ 1 11),
f_X0_goRound σ (σ 1 11) (fun σ2 =>
Q 1 σ2)
def f_X11_round (σ : ml_St) (Q : Int → ml_St → Prop) : Prop := f_X11_round_u0 Q σ
def rm_X11_round : Room := { frames := 1, cells := 0, slots := 0, locals := 22 }
set_option maxRecDepth 100000 in
set_option maxHeartbeats 4000000 in
theorem u_X11_round_0 {p : Program} {e : Env} {s : State} {m : MethodId} {args : Array Value} {below : List Frame} {meth : Method} {c : Code} {base : Nat} {D : va_G} {cA : Nat → ClassId} {n : Nat} {l : Launch} {Q : Int → ml_St → Prop} (X : ml_X p s m c meth args D cA cX11_round 1 RX11 (some .boolean)) (hn : 214 ≤ n) (σ : ml_St) (ls : Array Slot) (hl : lv_has ls 1 [(0, .ref (base + (1 : Int).toNat))]) (hw : f_X11_round_u0 Q σ) : ml_V p l e rm_X11_round s m args below meth c (MQ below (ml_Qi ml_B base D cA n Q) args s 0 0 (ml_A base)) base D cA 0 0 n n σ (F0 m 0 ls []) := by
  unfold f_X11_round_u0 at hw
  refine ml_aload_n (pc := 0) X hl 0 rfl rfl dX11_round_0 ?_
  refine gf_X11_19 (pc := 1) X (ml_c1 hn) dX11_round_1 ?_
  refine ml_aload_n (pc := 4) X hl 0 rfl rfl dX11_round_4 ?_
  refine gf_X11_82 (pc := 5) X (ml_c1 hn) dX11_round_5 (fun r1 => ?_)
  have hw := hw r1
  refine ml_callvV (pc := 8) (rest := []) X [.int (Int32.ofInt (σ 1 11))] (by decide) rfl (ml_c4 hn) (c_X0_goRound l base D cA n hn σ (σ 1 11) r1 _ hw) cv_X11_90 ⟨rfl, rfl⟩ ⟨by decide, by decide⟩ rfl rfl hl (Nat.le_of_ble_eq_true rfl) ⟨Nat.zero_le _, Nat.zero_le _⟩ dX11_round_8 (fun σ2 hw => ?_)
  refine ml_iconst (pc := 11) X dX11_round_11 ?_
  exact ml_zret (pc := 12) X ⟨by decide, by decide⟩ hw dX11_round_12
set_option maxRecDepth 100000 in
theorem c_X11_round (l : Launch) (base : Nat) (D : va_G) (cA : Nat → ClassId) (n : Nat) (hn : 214 ≤ n) (σ : ml_St) (Q : Int → ml_St → Prop) (hw : f_X11_round σ Q) : Met l yX11_round (Cond.code yX11_round cX11_round 1 (some .boolean) :: ml_T) rm_X11_round (va_Pc [.ref (base + (1 : Int).toNat)] (ml_U base D cA n σ)) (ml_Qi ml_B base D cA n Q) 0 0 (ml_A base) := by
  refine Met.ofW (cc := cX11_round) (maxL := 1) (ret := (some .boolean)) (by decide) rfl ?_
  intro p e s m args below meth c s₁ B hml hv
  obtain ⟨rfl, hP, hK, hok, hro⟩ := hv
  have X : ml_X p s m c meth _ D cA cX11_round 1 RX11 (some .boolean) := ⟨B.exec, B.bytes, hml, findClass_of_methodNamed B.named, fun w hw => atoms_spec (ws := Cond.code yX11_round cX11_round 1 (some .boolean) :: ml_T) B.pre w (List.mem_cons_of_mem _ hw), hK, B.notSynchronized, B.returns⟩
  have hl := lv_entry [.ref (base + (1 : Int).toNat)] (n := 1) (Nat.le_of_ble_eq_true rfl)
  rw [lg_entry_eq]
  generalize (lg_sl [.ref (base + (1 : Int).toNat)] ++ List.replicate (1 - (lg_sl [.ref (base + (1 : Int).toNat)]).length) Slot.unset).toArray = ls at hl ⊢
  have hl : lv_has ls 1 [(0, .ref (base + (1 : Int).toNat))] := hl
  unfold f_X11_round at hw
  exact u_X11_round_0 X hn σ  _ (lv_sub hl [0] rfl) hw s.heap [] hP va_S.rf hok hro
theorem dX0_goByCaps_0 : decode cX0_goByCaps 0 = .ok (.iconst 0, 1) := by decide +kernel
theorem dX0_goByCaps_1 : decode cX0_goByCaps 1 = .ok (.istore_n 3, 1) := by decide +kernel
theorem dX0_goByCaps_2 : decode cX0_goByCaps 2 = .ok (.iload_n 3, 1) := by decide +kernel
theorem dX0_goByCaps_3 : decode cX0_goByCaps 3 = .ok (.iconst 2, 1) := by decide +kernel
theorem dX0_goByCaps_4 : decode cX0_goByCaps 4 = .ok (.iload_n 2, 1) := by decide +kernel
theorem dX0_goByCaps_5 : decode cX0_goByCaps 5 = .ok (.imul, 1) := by decide +kernel
theorem dX0_goByCaps_6 : decode cX0_goByCaps 6 = .ok (.if_icmp .ge 68, 3) := by decide +kernel
theorem dX0_goByCaps_9 : decode cX0_goByCaps 9 = .ok (.aload_n 1, 1) := by decide +kernel
theorem dX0_goByCaps_10 : decode cX0_goByCaps 10 = .ok (.getfield 19, 3) := by decide +kernel
theorem dX0_goByCaps_13 : decode cX0_goByCaps 13 = .ok (.iload_n 3, 1) := by decide +kernel
theorem dX0_goByCaps_14 : decode cX0_goByCaps 14 = .ok (.iaload, 1) := by decide +kernel
theorem dX0_goByCaps_15 : decode cX0_goByCaps 15 = .ok (.istore 4, 2) := by decide +kernel
theorem dX0_goByCaps_17 : decode cX0_goByCaps 17 = .ok (.iload 4, 2) := by decide +kernel
theorem dX0_goByCaps_19 : decode cX0_goByCaps 19 = .ok (.iconst 2, 1) := by decide +kernel
theorem dX0_goByCaps_20 : decode cX0_goByCaps 20 = .ok (.iload_n 2, 1) := by decide +kernel
theorem dX0_goByCaps_21 : decode cX0_goByCaps 21 = .ok (.imul, 1) := by decide +kernel
theorem dX0_goByCaps_22 : decode cX0_goByCaps 22 = .ok (.if_icmp .ge 44, 3) := by decide +kernel
theorem dX0_goByCaps_25 : decode cX0_goByCaps 25 = .ok (.iload 4, 2) := by decide +kernel
theorem dX0_goByCaps_27 : decode cX0_goByCaps 27 = .ok (.iload_n 3, 1) := by decide +kernel
theorem dX0_goByCaps_28 : decode cX0_goByCaps 28 = .ok (.if_icmp .eq 38, 3) := by decide +kernel
theorem dX0_goByCaps_31 : decode cX0_goByCaps 31 = .ok (.iload 4, 2) := by decide +kernel
theorem dX0_goByCaps_33 : decode cX0_goByCaps 33 = .ok (.iload_n 2, 1) := by decide +kernel
theorem dX0_goByCaps_34 : decode cX0_goByCaps 34 = .ok (.if_icmp .lt 7, 3) := by decide +kernel
theorem dX0_goByCaps_37 : decode cX0_goByCaps 37 = .ok (.iconst 1, 1) := by decide +kernel
theorem dX0_goByCaps_38 : decode cX0_goByCaps 38 = .ok (.goto 4, 3) := by decide +kernel
theorem dX0_goByCaps_41 : decode cX0_goByCaps 41 = .ok (.iconst 0, 1) := by decide +kernel
theorem dX0_goByCaps_42 : decode cX0_goByCaps 42 = .ok (.iload_n 3, 1) := by decide +kernel
theorem dX0_goByCaps_43 : decode cX0_goByCaps 43 = .ok (.iload_n 2, 1) := by decide +kernel
theorem dX0_goByCaps_44 : decode cX0_goByCaps 44 = .ok (.if_icmp .lt 7, 3) := by decide +kernel
theorem dX0_goByCaps_47 : decode cX0_goByCaps 47 = .ok (.iconst 1, 1) := by decide +kernel
theorem dX0_goByCaps_48 : decode cX0_goByCaps 48 = .ok (.goto 4, 3) := by decide +kernel
theorem dX0_goByCaps_51 : decode cX0_goByCaps 51 = .ok (.iconst 0, 1) := by decide +kernel
theorem dX0_goByCaps_52 : decode cX0_goByCaps 52 = .ok (.if_icmp .ne 14, 3) := by decide +kernel
theorem dX0_goByCaps_55 : decode cX0_goByCaps 55 = .ok (.aload_n 1, 1) := by decide +kernel
theorem dX0_goByCaps_56 : decode cX0_goByCaps 56 = .ok (.getfield 19, 3) := by decide +kernel
theorem dX0_goByCaps_59 : decode cX0_goByCaps 59 = .ok (.iload 4, 2) := by decide +kernel
theorem dX0_goByCaps_61 : decode cX0_goByCaps 61 = .ok (.iaload, 1) := by decide +kernel
theorem dX0_goByCaps_62 : decode cX0_goByCaps 62 = .ok (.iload_n 3, 1) := by decide +kernel
theorem dX0_goByCaps_63 : decode cX0_goByCaps 63 = .ok (.if_icmp .eq 5, 3) := by decide +kernel
theorem dX0_goByCaps_66 : decode cX0_goByCaps 66 = .ok (.iconst 0, 1) := by decide +kernel
theorem dX0_goByCaps_67 : decode cX0_goByCaps 67 = .ok (.ireturn, 1) := by decide +kernel
theorem dX0_goByCaps_68 : decode cX0_goByCaps 68 = .ok (.iinc 3 1, 3) := by decide +kernel
theorem dX0_goByCaps_71 : decode cX0_goByCaps 71 = .ok (.goto (-69), 3) := by decide +kernel
theorem dX0_goByCaps_74 : decode cX0_goByCaps 74 = .ok (.aload_n 1, 1) := by decide +kernel
theorem dX0_goByCaps_75 : decode cX0_goByCaps 75 = .ok (.getfield 19, 3) := by decide +kernel
theorem dX0_goByCaps_78 : decode cX0_goByCaps 78 = .ok (.iconst 0, 1) := by decide +kernel
theorem dX0_goByCaps_79 : decode cX0_goByCaps 79 = .ok (.aload_n 0, 1) := by decide +kernel
theorem dX0_goByCaps_80 : decode cX0_goByCaps 80 = .ok (.getfield 9, 3) := by decide +kernel
theorem dX0_goByCaps_83 : decode cX0_goByCaps 83 = .ok (.iconst 0, 1) := by decide +kernel
theorem dX0_goByCaps_84 : decode cX0_goByCaps 84 = .ok (.iconst 2, 1) := by decide +kernel
theorem dX0_goByCaps_85 : decode cX0_goByCaps 85 = .ok (.iload_n 2, 1) := by decide +kernel
theorem dX0_goByCaps_86 : decode cX0_goByCaps 86 = .ok (.imul, 1) := by decide +kernel
theorem dX0_goByCaps_87 : decode cX0_goByCaps 87 = .ok (.invokestatic 24, 3) := by decide +kernel
theorem dX0_goByCaps_90 : decode cX0_goByCaps 90 = .ok (.aload_n 0, 1) := by decide +kernel
theorem dX0_goByCaps_91 : decode cX0_goByCaps 91 = .ok (.iconst 1, 1) := by decide +kernel
theorem dX0_goByCaps_92 : decode cX0_goByCaps 92 = .ok (.putfield 15, 3) := by decide +kernel
theorem dX0_goByCaps_95 : decode cX0_goByCaps 95 = .ok (.iconst 1, 1) := by decide +kernel
theorem dX0_goByCaps_96 : decode cX0_goByCaps 96 = .ok (.ireturn, 1) := by decide +kernel
def f_X0_goByCaps_u52 (Q : Int → ml_St → Prop) (K2 : ml_St → Int → Int → Prop) (K66 : ml_St → Prop) (σ : ml_St) (x2 : Int) (x3 : Int) (x4 : Int) (s0 : Int) (s1 : Int) : Prop :=
(s0 ≠ s1 →
K66 σ) ∧
(s0 = s1 →
(0 : Int) ≤ x4 ∧ (x4 : Int) < 200 ∧
∀ _ : I32 (σ 3 x4),
((σ 3 x4) = x3 →
I32 (x3 + 1) ∧
∀ y4 : Int, y4 = x3 + 1 →
K2 σ x2 y4) ∧
((σ 3 x4) ≠ x3 →
K66 σ))
def f_X0_goByCaps_u42 (Q : Int → ml_St → Prop) (K2 : ml_St → Int → Int → Prop) (K66 : ml_St → Prop) (σ : ml_St) (x2 : Int) (x3 : Int) (x4 : Int) (s0 : Int) : Prop :=
(x3 < x2 →
f_X0_goByCaps_u52 Q K2 K66 σ x2 x3 x4 s0 0) ∧
(¬ (x3 < x2) →
f_X0_goByCaps_u52 Q K2 K66 σ x2 x3 x4 s0 1)
def f_X0_goByCaps_u2 (Q : Int → ml_St → Prop) (K66 : ml_St → Prop) (K74 : ml_St → Int → Prop) : Nat → ml_St → Int → Int → Prop
| 0, _, _, _ => False
| N + 1, σ, x2, x3 =>
I32 (2 * x2) ∧
((2 * x2) ≤ x3 →
K74 σ x2) ∧
(¬ ((2 * x2) ≤ x3) →
(0 : Int) ≤ x3 ∧ (x3 : Int) < 200 ∧
∀ _ : I32 (σ 3 x3),
∀ y4 : Int, y4 = σ 3 x3 →
I32 (2 * x2) ∧
((2 * x2) ≤ y4 →
K66 σ) ∧
(¬ ((2 * x2) ≤ y4) →
(y4 = x3 →
K66 σ) ∧
(y4 ≠ x3 →
(y4 < x2 →
f_X0_goByCaps_u42 Q (f_X0_goByCaps_u2 Q K66 K74 N) K66 σ x2 x3 y4 0) ∧
(¬ (y4 < x2) →
f_X0_goByCaps_u42 Q (f_X0_goByCaps_u2 Q K66 K74 N) K66 σ x2 x3 y4 1))))
def f_X0_goByCaps_u66 (Q : Int → ml_St → Prop) (σ : ml_St) : Prop :=
Q 0 σ
def f_X0_goByCaps_u74 (Q : Int → ml_St → Prop) (σ : ml_St) (x2 : Int) : Prop :=
I32 (2 * x2) ∧
(0 : Int) ≤ 0 ∧ (0 : Int) ≤ 0 ∧ (0 : Int) ≤ (2 * x2) ∧ (0 + (2 * x2) : Int) ≤ 200 ∧ (0 + (2 * x2) : Int) ≤ 10 ∧
∀ σ2, σ2 = ml_cpy σ 3 0 5 0 (2 * x2) →
∀ σ3, σ3 = ml_up σ2 4 1 1 →
Q 1 σ3
def f_X0_goByCaps_u0 (Q : Int → ml_St → Prop) (σ : ml_St) (x2 : Int) : Prop :=
∃ N1, f_X0_goByCaps_u2 Q (f_X0_goByCaps_u66 Q) (f_X0_goByCaps_u74 Q) N1 σ x2 0
def f_X0_goByCaps (σ : ml_St) (x2 : Int) (Q : Int → ml_St → Prop) : Prop := f_X0_goByCaps_u0 Q σ x2
def rm_X0_goByCaps : Room := { frames := 1, cells := 0, slots := 0, locals := 60 }
set_option maxRecDepth 100000 in
set_option maxHeartbeats 4000000 in
theorem u_X0_goByCaps_52 {p : Program} {e : Env} {s : State} {m : MethodId} {args : Array Value} {below : List Frame} {meth : Method} {c : Code} {base : Nat} {D : va_G} {cA : Nat → ClassId} {n : Nat} {l : Launch} {Q : Int → ml_St → Prop} {K2 : ml_St → Int → Int → Prop} {K66 : ml_St → Prop} (X : ml_X p s m c meth args D cA cX0_goByCaps 5 RX0 (some .boolean)) (hn : 214 ≤ n) (hK2 : ∀ (σ : ml_St) (x2 : Int) (x3 : Int) (h_x2 : I32 x2) (h_x3 : I32 x3) (ls : Array Slot), lv_has ls 5 [(0, .ref (base + (4 : Int).toNat)), (1, .ref (base + (2 : Int).toNat)), (2, .int (Int32.ofInt x2)), (3, .int (Int32.ofInt x3))] → K2 σ x2 x3 → ml_V p l e rm_X0_goByCaps s m args below meth c (MQ below (ml_Qi ml_B base D cA n Q) args s 0 0 (ml_A base)) base D cA 0 0 n n σ (F0 m 2 ls [])) (hK66 : ∀ (σ : ml_St) (ls : Array Slot), lv_has ls 5 [] → K66 σ → ml_V p l e rm_X0_goByCaps s m args below meth c (MQ below (ml_Qi ml_B base D cA n Q) args s 0 0 (ml_A base)) base D cA 0 0 n n σ (F0 m 66 ls [])) (σ : ml_St) (x2 : Int) (x3 : Int) (x4 : Int) (s0 : Int) (s1 : Int) (h_x2 : I32 x2) (h_x3 : I32 x3) (h_x4 : I32 x4) (h_s0 : ml_B s0) (h_s1 : ml_B s1) (ls : Array Slot) (hl : lv_has ls 5 [(0, .ref (base + (4 : Int).toNat)), (1, .ref (base + (2 : Int).toNat)), (2, .int (Int32.ofInt x2)), (3, .int (Int32.ofInt x3)), (4, .int (Int32.ofInt x4))]) (hw : f_X0_goByCaps_u52 Q K2 K66 σ x2 x3 x4 s0 s1) : ml_V p l e rm_X0_goByCaps s m args below meth c (MQ below (ml_Qi ml_B base D cA n Q) args s 0 0 (ml_A base)) base D cA 0 0 n n σ (F0 m 52 ls [.int (Int32.ofInt s1), .int (Int32.ofInt s0)]) := by
  unfold f_X0_goByCaps_u52 at hw
  refine ml_icmp_ne (pc := 52) (tgt := 66) X h_s0.i h_s1.i dX0_goByCaps_52 (by decide) (fun c1 => ?_) (fun c1 => ?_)
  · have hw := hw.1 c1
    exact hK66 σ   _ (lv_sub hl [] rfl) hw
  · have hw := hw.2 c1
    refine ml_aload_n (pc := 55) X hl 1 rfl rfl dX0_goByCaps_55 ?_
    refine gf_X0_19 (pc := 56) X (ml_c2 hn) dX0_goByCaps_56 ?_
    refine ml_iload (pc := 59) X hl 4 rfl dX0_goByCaps_59 ?_
    obtain ⟨a2, b2, hw⟩ := hw
    refine ml_iald (pc := 61) (N := 200) X (ml_c3 hn) a2 b2 dX0_goByCaps_61 (fun r2 => ?_)
    have hw := hw r2
    refine ml_iload_n (pc := 62) X hl 3 rfl rfl dX0_goByCaps_62 ?_
    refine ml_icmp_eq (pc := 63) (tgt := 68) X r2 h_x3 dX0_goByCaps_63 (by decide) (fun c3 => ?_) (fun c3 => ?_)
    · have hw := hw.1 c3
      obtain ⟨v4, hw⟩ := hw
      obtain ⟨y4, e4⟩ : ∃ y : Int, y = x3 + 1 := ⟨_, rfl⟩
      have hw := hw y4 e4
      rw [← e4] at v4
      refine ml_iinc (pc := 68) X e4 hl 3 rfl (by decide) (lst' := [(3, .int (Int32.ofInt y4)), (0, .ref (base + (4 : Int).toNat)), (1, .ref (base + (2 : Int).toNat)), (2, .int (Int32.ofInt x2)), (4, .int (Int32.ofInt x4))]) rfl dX0_goByCaps_68 (fun ls hl => ?_)
      refine ml_goto (pc := 71) (tgt := 2) X dX0_goByCaps_71 (by decide) ?_
      exact hK2 σ x2 y4 h_x2 v4 _ (lv_sub hl [1, 2, 3, 0] rfl) hw
    · have hw := hw.2 c3
      exact hK66 σ   _ (lv_sub hl [] rfl) hw
set_option maxRecDepth 100000 in
set_option maxHeartbeats 4000000 in
theorem u_X0_goByCaps_42 {p : Program} {e : Env} {s : State} {m : MethodId} {args : Array Value} {below : List Frame} {meth : Method} {c : Code} {base : Nat} {D : va_G} {cA : Nat → ClassId} {n : Nat} {l : Launch} {Q : Int → ml_St → Prop} {K2 : ml_St → Int → Int → Prop} {K66 : ml_St → Prop} (X : ml_X p s m c meth args D cA cX0_goByCaps 5 RX0 (some .boolean)) (hn : 214 ≤ n) (hK2 : ∀ (σ : ml_St) (x2 : Int) (x3 : Int) (h_x2 : I32 x2) (h_x3 : I32 x3) (ls : Array Slot), lv_has ls 5 [(0, .ref (base + (4 : Int).toNat)), (1, .ref (base + (2 : Int).toNat)), (2, .int (Int32.ofInt x2)), (3, .int (Int32.ofInt x3))] → K2 σ x2 x3 → ml_V p l e rm_X0_goByCaps s m args below meth c (MQ below (ml_Qi ml_B base D cA n Q) args s 0 0 (ml_A base)) base D cA 0 0 n n σ (F0 m 2 ls [])) (hK66 : ∀ (σ : ml_St) (ls : Array Slot), lv_has ls 5 [] → K66 σ → ml_V p l e rm_X0_goByCaps s m args below meth c (MQ below (ml_Qi ml_B base D cA n Q) args s 0 0 (ml_A base)) base D cA 0 0 n n σ (F0 m 66 ls [])) (σ : ml_St) (x2 : Int) (x3 : Int) (x4 : Int) (s0 : Int) (h_x2 : I32 x2) (h_x3 : I32 x3) (h_x4 : I32 x4) (h_s0 : ml_B s0) (ls : Array Slot) (hl : lv_has ls 5 [(0, .ref (base + (4 : Int).toNat)), (1, .ref (base + (2 : Int).toNat)), (2, .int (Int32.ofInt x2)), (3, .int (Int32.ofInt x3)), (4, .int (Int32.ofInt x4))]) (hw : f_X0_goByCaps_u42 Q K2 K66 σ x2 x3 x4 s0) : ml_V p l e rm_X0_goByCaps s m args below meth c (MQ below (ml_Qi ml_B base D cA n Q) args s 0 0 (ml_A base)) base D cA 0 0 n n σ (F0 m 42 ls [.int (Int32.ofInt s0)]) := by
  unfold f_X0_goByCaps_u42 at hw
  refine ml_iload_n (pc := 42) X hl 3 rfl rfl dX0_goByCaps_42 ?_
  refine ml_iload_n (pc := 43) X hl 2 rfl rfl dX0_goByCaps_43 ?_
  refine ml_icmp_lt (pc := 44) (tgt := 51) X h_x3 h_x2 dX0_goByCaps_44 (by decide) (fun c1 => ?_) (fun c1 => ?_)
  · have hw := hw.1 c1
    refine ml_iconst (pc := 51) X dX0_goByCaps_51 ?_
    exact u_X0_goByCaps_52 X hn hK2 hK66 σ x2 x3 x4 s0 0 h_x2 h_x3 h_x4 h_s0 ⟨by decide, by decide⟩ _ (lv_sub hl [0, 1, 2, 3, 4] rfl) hw
  · have hw := hw.2 c1
    refine ml_iconst (pc := 47) X dX0_goByCaps_47 ?_
    refine ml_goto (pc := 48) (tgt := 52) X dX0_goByCaps_48 (by decide) ?_
    exact u_X0_goByCaps_52 X hn hK2 hK66 σ x2 x3 x4 s0 1 h_x2 h_x3 h_x4 h_s0 ⟨by decide, by decide⟩ _ (lv_sub hl [0, 1, 2, 3, 4] rfl) hw
set_option maxRecDepth 100000 in
set_option maxHeartbeats 4000000 in
theorem u_X0_goByCaps_2 {p : Program} {e : Env} {s : State} {m : MethodId} {args : Array Value} {below : List Frame} {meth : Method} {c : Code} {base : Nat} {D : va_G} {cA : Nat → ClassId} {n : Nat} {l : Launch} {Q : Int → ml_St → Prop} {K66 : ml_St → Prop} {K74 : ml_St → Int → Prop} (X : ml_X p s m c meth args D cA cX0_goByCaps 5 RX0 (some .boolean)) (hn : 214 ≤ n) (hK66 : ∀ (σ : ml_St) (ls : Array Slot), lv_has ls 5 [] → K66 σ → ml_V p l e rm_X0_goByCaps s m args below meth c (MQ below (ml_Qi ml_B base D cA n Q) args s 0 0 (ml_A base)) base D cA 0 0 n n σ (F0 m 66 ls [])) (hK74 : ∀ (σ : ml_St) (x2 : Int) (h_x2 : I32 x2) (ls : Array Slot), lv_has ls 5 [(0, .ref (base + (4 : Int).toNat)), (1, .ref (base + (2 : Int).toNat)), (2, .int (Int32.ofInt x2))] → K74 σ x2 → ml_V p l e rm_X0_goByCaps s m args below meth c (MQ below (ml_Qi ml_B base D cA n Q) args s 0 0 (ml_A base)) base D cA 0 0 n n σ (F0 m 74 ls [])) : ∀ (N : Nat) (σ : ml_St) (x2 : Int) (x3 : Int) (h_x2 : I32 x2) (h_x3 : I32 x3) (ls : Array Slot), lv_has ls 5 [(0, .ref (base + (4 : Int).toNat)), (1, .ref (base + (2 : Int).toNat)), (2, .int (Int32.ofInt x2)), (3, .int (Int32.ofInt x3))] → f_X0_goByCaps_u2 Q K66 K74 N σ x2 x3 → ml_V p l e rm_X0_goByCaps s m args below meth c (MQ below (ml_Qi ml_B base D cA n Q) args s 0 0 (ml_A base)) base D cA 0 0 n n σ (F0 m 2 ls []) := by
  intro N
  induction N with
  | zero => intro σ x2 x3 h_x2 h_x3 ls hl hw; exact False.elim hw
  | succ N ih =>
    intro σ x2 x3 h_x2 h_x3 ls hl hw
    unfold f_X0_goByCaps_u2 at hw
    refine ml_iload_n (pc := 2) X hl 3 rfl rfl dX0_goByCaps_2 ?_
    refine ml_iconst (pc := 3) X dX0_goByCaps_3 ?_
    refine ml_iload_n (pc := 4) X hl 2 rfl rfl dX0_goByCaps_4 ?_
    obtain ⟨v1, hw⟩ := hw
    refine ml_imul (pc := 5) X dX0_goByCaps_5 ?_
    refine ml_icmp_ge (pc := 6) (tgt := 74) X h_x3 v1 dX0_goByCaps_6 (by decide) (fun c2 => ?_) (fun c2 => ?_)
    · have hw := hw.1 c2
      exact hK74 σ x2 h_x2 _ (lv_sub hl [0, 1, 2] rfl) hw
    · have hw := hw.2 c2
      refine ml_aload_n (pc := 9) X hl 1 rfl rfl dX0_goByCaps_9 ?_
      refine gf_X0_19 (pc := 10) X (ml_c2 hn) dX0_goByCaps_10 ?_
      refine ml_iload_n (pc := 13) X hl 3 rfl rfl dX0_goByCaps_13 ?_
      obtain ⟨a3, b3, hw⟩ := hw
      refine ml_iald (pc := 14) (N := 200) X (ml_c3 hn) a3 b3 dX0_goByCaps_14 (fun r3 => ?_)
      have hw := hw r3
      refine ml_topI (pc := 15) (fun y4 e4 => ?_)
      have hw := hw y4 e4
      have q4 : I32 y4 := by rw [e4]; exact r3
      refine ml_istore (pc := 15) X hl (by decide) (lst' := [(4, .int (Int32.ofInt y4)), (0, .ref (base + (4 : Int).toNat)), (1, .ref (base + (2 : Int).toNat)), (2, .int (Int32.ofInt x2)), (3, .int (Int32.ofInt x3))]) rfl dX0_goByCaps_15 (fun ls hl => ?_)
      refine ml_iload (pc := 17) X hl 0 rfl dX0_goByCaps_17 ?_
      refine ml_iconst (pc := 19) X dX0_goByCaps_19 ?_
      refine ml_iload_n (pc := 20) X hl 3 rfl rfl dX0_goByCaps_20 ?_
      obtain ⟨v5, hw⟩ := hw
      refine ml_imul (pc := 21) X dX0_goByCaps_21 ?_
      refine ml_icmp_ge (pc := 22) (tgt := 66) X q4 v5 dX0_goByCaps_22 (by decide) (fun c6 => ?_) (fun c6 => ?_)
      · have hw := hw.1 c6
        exact hK66 σ   _ (lv_sub hl [] rfl) hw
      · have hw := hw.2 c6
        refine ml_iload (pc := 25) X hl 0 rfl dX0_goByCaps_25 ?_
        refine ml_iload_n (pc := 27) X hl 4 rfl rfl dX0_goByCaps_27 ?_
        refine ml_icmp_eq (pc := 28) (tgt := 66) X q4 h_x3 dX0_goByCaps_28 (by decide) (fun c7 => ?_) (fun c7 => ?_)
        · have hw := hw.1 c7
          exact hK66 σ   _ (lv_sub hl [] rfl) hw
        · have hw := hw.2 c7
          refine ml_iload (pc := 31) X hl 0 rfl dX0_goByCaps_31 ?_
          refine ml_iload_n (pc := 33) X hl 3 rfl rfl dX0_goByCaps_33 ?_
          refine ml_icmp_lt (pc := 34) (tgt := 41) X q4 h_x2 dX0_goByCaps_34 (by decide) (fun c8 => ?_) (fun c8 => ?_)
          · have hw := hw.1 c8
            refine ml_iconst (pc := 41) X dX0_goByCaps_41 ?_
            exact u_X0_goByCaps_42 X hn ih hK66 σ x2 x3 y4 0 h_x2 h_x3 q4 ⟨by decide, by decide⟩ _ (lv_sub hl [1, 2, 3, 4, 0] rfl) hw
          · have hw := hw.2 c8
            refine ml_iconst (pc := 37) X dX0_goByCaps_37 ?_
            refine ml_goto (pc := 38) (tgt := 42) X dX0_goByCaps_38 (by decide) ?_
            exact u_X0_goByCaps_42 X hn ih hK66 σ x2 x3 y4 1 h_x2 h_x3 q4 ⟨by decide, by decide⟩ _ (lv_sub hl [1, 2, 3, 4, 0] rfl) hw
set_option maxRecDepth 100000 in
set_option maxHeartbeats 4000000 in
theorem u_X0_goByCaps_66 {p : Program} {e : Env} {s : State} {m : MethodId} {args : Array Value} {below : List Frame} {meth : Method} {c : Code} {base : Nat} {D : va_G} {cA : Nat → ClassId} {n : Nat} {l : Launch} {Q : Int → ml_St → Prop} (X : ml_X p s m c meth args D cA cX0_goByCaps 5 RX0 (some .boolean)) (hn : 214 ≤ n) (σ : ml_St) (ls : Array Slot) (hl : lv_has ls 5 []) (hw : f_X0_goByCaps_u66 Q σ) : ml_V p l e rm_X0_goByCaps s m args below meth c (MQ below (ml_Qi ml_B base D cA n Q) args s 0 0 (ml_A base)) base D cA 0 0 n n σ (F0 m 66 ls []) := by
  unfold f_X0_goByCaps_u66 at hw
  refine ml_iconst (pc := 66) X dX0_goByCaps_66 ?_
  exact ml_zret (pc := 67) X ⟨by decide, by decide⟩ hw dX0_goByCaps_67
set_option maxRecDepth 100000 in
set_option maxHeartbeats 4000000 in
theorem u_X0_goByCaps_74 {p : Program} {e : Env} {s : State} {m : MethodId} {args : Array Value} {below : List Frame} {meth : Method} {c : Code} {base : Nat} {D : va_G} {cA : Nat → ClassId} {n : Nat} {l : Launch} {Q : Int → ml_St → Prop} (X : ml_X p s m c meth args D cA cX0_goByCaps 5 RX0 (some .boolean)) (hn : 214 ≤ n) (σ : ml_St) (x2 : Int) (h_x2 : I32 x2) (ls : Array Slot) (hl : lv_has ls 5 [(0, .ref (base + (4 : Int).toNat)), (1, .ref (base + (2 : Int).toNat)), (2, .int (Int32.ofInt x2))]) (hw : f_X0_goByCaps_u74 Q σ x2) : ml_V p l e rm_X0_goByCaps s m args below meth c (MQ below (ml_Qi ml_B base D cA n Q) args s 0 0 (ml_A base)) base D cA 0 0 n n σ (F0 m 74 ls []) := by
  unfold f_X0_goByCaps_u74 at hw
  refine ml_aload_n (pc := 74) X hl 1 rfl rfl dX0_goByCaps_74 ?_
  refine gf_X0_19 (pc := 75) X (ml_c2 hn) dX0_goByCaps_75 ?_
  refine ml_iconst (pc := 78) X dX0_goByCaps_78 ?_
  refine ml_aload_n (pc := 79) X hl 0 rfl rfl dX0_goByCaps_79 ?_
  refine gf_X0_9 (pc := 80) X (ml_c4 hn) dX0_goByCaps_80 ?_
  refine ml_iconst (pc := 83) X dX0_goByCaps_83 ?_
  refine ml_iconst (pc := 84) X dX0_goByCaps_84 ?_
  refine ml_iload_n (pc := 85) X hl 2 rfl rfl dX0_goByCaps_85 ?_
  obtain ⟨v1, hw⟩ := hw
  refine ml_imul (pc := 86) X dX0_goByCaps_86 ?_
  obtain ⟨a2, b2, c2, f2, h2, hw⟩ := hw
  refine ml_cpi (pc := 87) (n0 := 200) (n1 := 10) X ⟨tw_3_120, tw_3_43, tw_3_42, tw_1_15⟩ (ml_c3 hn) (ml_c5 hn) ⟨by decide, by decide⟩ ⟨by decide, by decide⟩ v1 a2 b2 c2 f2 h2 hl (Nat.le_of_ble_eq_true rfl) ⟨by decide, by decide⟩ dX0_goByCaps_87 (fun σ2 g2 => ?_)
  have hw := hw σ2 g2
  refine ml_aload_n (pc := 90) X hl 0 rfl rfl dX0_goByCaps_90 ?_
  refine ml_iconst (pc := 91) X dX0_goByCaps_91 ?_
  refine pf_X0_15 (pc := 92) X (ml_c4 hn) ⟨by decide, by decide⟩ dX0_goByCaps_92 (fun σ3 g3 => ?_)
  have hw := hw σ3 g3
  refine ml_iconst (pc := 95) X dX0_goByCaps_95 ?_
  exact ml_zret (pc := 96) X ⟨by decide, by decide⟩ hw dX0_goByCaps_96
set_option maxRecDepth 100000 in
set_option maxHeartbeats 4000000 in
theorem u_X0_goByCaps_0 {p : Program} {e : Env} {s : State} {m : MethodId} {args : Array Value} {below : List Frame} {meth : Method} {c : Code} {base : Nat} {D : va_G} {cA : Nat → ClassId} {n : Nat} {l : Launch} {Q : Int → ml_St → Prop} (X : ml_X p s m c meth args D cA cX0_goByCaps 5 RX0 (some .boolean)) (hn : 214 ≤ n) (σ : ml_St) (x2 : Int) (h_x2 : I32 x2) (ls : Array Slot) (hl : lv_has ls 5 [(0, .ref (base + (4 : Int).toNat)), (1, .ref (base + (2 : Int).toNat)), (2, .int (Int32.ofInt x2))]) (hw : f_X0_goByCaps_u0 Q σ x2) : ml_V p l e rm_X0_goByCaps s m args below meth c (MQ below (ml_Qi ml_B base D cA n Q) args s 0 0 (ml_A base)) base D cA 0 0 n n σ (F0 m 0 ls []) := by
  unfold f_X0_goByCaps_u0 at hw
  refine ml_iconst (pc := 0) X dX0_goByCaps_0 ?_
  refine ml_istore_n (pc := 1) X rfl hl (by decide) (lst' := [(3, .int (Int32.ofInt 0)), (0, .ref (base + (4 : Int).toNat)), (1, .ref (base + (2 : Int).toNat)), (2, .int (Int32.ofInt x2))]) rfl dX0_goByCaps_1 (fun ls hl => ?_)
  obtain ⟨N0, hw⟩ := hw
  exact u_X0_goByCaps_2 X hn (fun σ   ls hl hw => u_X0_goByCaps_66 X hn σ   ls hl hw) (fun σ x2 h_x2 ls hl hw => u_X0_goByCaps_74 X hn σ x2 h_x2 ls hl hw) N0 σ x2 0 h_x2 ⟨by decide, by decide⟩ _ (lv_sub hl [1, 2, 3, 0] rfl) hw
set_option maxRecDepth 100000 in
theorem c_X0_goByCaps (l : Launch) (base : Nat) (D : va_G) (cA : Nat → ClassId) (n : Nat) (hn : 214 ≤ n) (σ : ml_St) (x2 : Int) (h_x2 : I32 x2) (Q : Int → ml_St → Prop) (hw : f_X0_goByCaps σ x2 Q) : Met l yX0_goByCaps (Cond.code yX0_goByCaps cX0_goByCaps 5 (some .boolean) :: ml_T) rm_X0_goByCaps (va_Pc [.ref (base + (4 : Int).toNat), .ref (base + (2 : Int).toNat), .int (Int32.ofInt x2)] (ml_U base D cA n σ)) (ml_Qi ml_B base D cA n Q) 0 0 (ml_A base) := by
  refine Met.ofW (cc := cX0_goByCaps) (maxL := 5) (ret := (some .boolean)) (by decide) rfl ?_
  intro p e s m args below meth c s₁ B hml hv
  obtain ⟨rfl, hP, hK, hok, hro⟩ := hv
  have X : ml_X p s m c meth _ D cA cX0_goByCaps 5 RX0 (some .boolean) := ⟨B.exec, B.bytes, hml, findClass_of_methodNamed B.named, fun w hw => atoms_spec (ws := Cond.code yX0_goByCaps cX0_goByCaps 5 (some .boolean) :: ml_T) B.pre w (List.mem_cons_of_mem _ hw), hK, B.notSynchronized, B.returns⟩
  have hl := lv_entry [.ref (base + (4 : Int).toNat), .ref (base + (2 : Int).toNat), .int (Int32.ofInt x2)] (n := 5) (Nat.le_of_ble_eq_true rfl)
  rw [lg_entry_eq]
  generalize (lg_sl [.ref (base + (4 : Int).toNat), .ref (base + (2 : Int).toNat), .int (Int32.ofInt x2)] ++ List.replicate (5 - (lg_sl [.ref (base + (4 : Int).toNat), .ref (base + (2 : Int).toNat), .int (Int32.ofInt x2)]).length) Slot.unset).toArray = ls at hl ⊢
  have hl : lv_has ls 5 [(0, .ref (base + (4 : Int).toNat)), (1, .ref (base + (2 : Int).toNat)), (2, .int (Int32.ofInt x2))] := hl
  unfold f_X0_goByCaps at hw
  exact u_X0_goByCaps_0 X hn σ x2 h_x2 _ (lv_sub hl [0, 1, 2] rfl) hw s.heap [] hP va_S.rf hok hro
