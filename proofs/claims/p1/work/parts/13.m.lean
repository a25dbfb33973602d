theorem dX12_made_0 : decode cX12_made 0 = .ok (.aload_n 0, 1) := by decide +kernel
theorem dX12_made_1 : decode cX12_made 1 = .ok (.iload_n 1, 1) := by decide +kernel
theorem dX12_made_2 : decode cX12_made 2 = .ok (.invokevirtual 379, 3) := by decide +kernel
theorem dX12_made_5 : decode cX12_made 5 = .ok (.ifCond .ne 5, 3) := by decide +kernel
theorem dX12_made_8 : decode cX12_made 8 = .ok (.iconst (-1), 1) := by decide +kernel
theorem dX12_made_9 : decode cX12_made 9 = .ok (.ireturn, 1) := by decide +kernel
theorem dX12_made_10 : decode cX12_made 10 = .ok (.aload_n 0, 1) := by decide +kernel
theorem dX12_made_11 : decode cX12_made 11 = .ok (.invokevirtual 384, 3) := by decide +kernel
theorem dX12_made_14 : decode cX12_made 14 = .ok (.aload_n 0, 1) := by decide +kernel
theorem dX12_made_15 : decode cX12_made 15 = .ok (.getfield 367, 3) := by decide +kernel
theorem dX12_made_18 : decode cX12_made 18 = .ok (.ireturn, 1) := by decide +kernel
def f_X12_made_u0 (Q : Int → ml_St → Prop) (σ : ml_St) (x1 : Int) : Prop :=
f_X12_isLetters σ x1 (fun r1 σ1 => ∀ _ : ml_B r1,
(r1 ≠ 0 →
False) ∧
(r1 = 0 →
Q (-1) σ1))
def f_X12_made (σ : ml_St) (x1 : Int) (Q : Int → ml_St → Prop) : Prop := f_X12_made_u0 Q σ x1
def rm_X12_made : Room := { frames := 2, cells := 0, slots := 0, locals := 48 }
set_option maxRecDepth 100000 in
set_option maxHeartbeats 4000000 in
theorem u_X12_made_0 {p : Program} {e : Env} {s : State} {m : MethodId} {args : Array Value} {below : List Frame} {meth : Method} {c : Code} {base : Nat} {D : va_G} {cA : Nat → ClassId} {n : Nat} {l : Launch} {Q : Int → ml_St → Prop} (X : ml_X p s m c meth args D cA cX12_made 2 RX12 (some .int)) (hn : 256 ≤ n) (σ : ml_St) (x1 : Int) (h_x1 : I32 x1) (ls : Array Slot) (hl : lv_has ls 2 [(0, .ref (base + (215 : Int).toNat)), (1, .int (Int32.ofInt x1))]) (hw : f_X12_made_u0 Q σ x1) : ml_V p l e rm_X12_made s m args below meth c (MQ below (ml_Qi I32 base D cA n Q) args s 0 0 (ml_A base)) base D cA 0 0 n n σ (F0 m 0 ls []) := by
  unfold f_X12_made_u0 at hw
  refine ml_aload_n (pc := 0) X hl 0 rfl rfl dX12_made_0 ?_
  refine ml_iload_n (pc := 1) X hl 1 rfl rfl dX12_made_1 ?_
  refine ml_callzV (pc := 2) (rest := []) X [.int (Int32.ofInt x1)] (by decide) rfl (ml_c215 hn) (c_X12_isLetters l base D cA n hn σ x1 h_x1 _ hw) cv_X12_379 ⟨rfl, rfl⟩ ⟨by decide, by decide⟩ rfl rfl hl (Nat.le_of_ble_eq_true rfl) ⟨Nat.zero_le _, Nat.zero_le _⟩ dX12_made_2 (fun r1 σ1 t1 hw => ?_)
  have hw := hw t1
  refine ml_if_ne (pc := 5) (tgt := 10) X t1.i dX12_made_5 (by decide) (fun c2 => ?_) (fun c2 => ?_)
  · have hw := hw.1 c2
    refine ml_aload_n (pc := 10) X hl 0 rfl rfl dX12_made_10 ?_
    exact hw.elim
  · have hw := hw.2 c2
    refine ml_iconst (pc := 8) X dX12_made_8 ?_
    exact ml_iret (pc := 9) X ⟨by decide, by decide⟩ hw dX12_made_9
set_option maxRecDepth 100000 in
theorem c_X12_made (l : Launch) (base : Nat) (D : va_G) (cA : Nat → ClassId) (n : Nat) (hn : 256 ≤ n) (σ : ml_St) (x1 : Int) (h_x1 : I32 x1) (Q : Int → ml_St → Prop) (hw : f_X12_made σ x1 Q) : Met l yX12_made (Cond.code yX12_made cX12_made 2 (some .int) :: ml_T) rm_X12_made (va_Pc [.ref (base + (215 : Int).toNat), .int (Int32.ofInt x1)] (ml_U base D cA n σ)) (ml_Qi I32 base D cA n Q) 0 0 (ml_A base) := by
  refine Met.ofW (cc := cX12_made) (maxL := 2) (ret := (some .int)) (by decide) rfl ?_
  intro p e s m args below meth c s₁ B hml hv
  obtain ⟨rfl, hP, hK, hok, hro⟩ := hv
  have X : ml_X p s m c meth _ D cA cX12_made 2 RX12 (some .int) := ⟨B.exec, B.bytes, hml, findClass_of_methodNamed B.named, fun w hw => atoms_spec (ws := Cond.code yX12_made cX12_made 2 (some .int) :: ml_T) B.pre w (List.mem_cons_of_mem _ hw), hK, B.notSynchronized, B.returns⟩
  have hl := lv_entry [.ref (base + (215 : Int).toNat), .int (Int32.ofInt x1)] (n := 2) (Nat.le_of_ble_eq_true rfl)
  rw [lg_entry_eq]
  generalize (lg_sl [.ref (base + (215 : Int).toNat), .int (Int32.ofInt x1)] ++ List.replicate (2 - (lg_sl [.ref (base + (215 : Int).toNat), .int (Int32.ofInt x1)]).length) Slot.unset).toArray = ls at hl ⊢
  have hl : lv_has ls 2 [(0, .ref (base + (215 : Int).toNat)), (1, .int (Int32.ofInt x1))] := hl
  unfold f_X12_made at hw
  exact u_X12_made_0 X hn σ x1 h_x1 _ (lv_sub hl [0, 1] rfl) hw s.heap [] hP va_S.rf hok hro
theorem dX12_shortest_0 : decode cX12_shortest 0 = .ok (.aload_n 0, 1) := by decide +kernel
theorem dX12_shortest_1 : decode cX12_shortest 1 = .ok (.iload_n 1, 1) := by decide +kernel
theorem dX12_shortest_2 : decode cX12_shortest 2 = .ok (.invokevirtual 379, 3) := by decide +kernel
theorem dX12_shortest_5 : decode cX12_shortest 5 = .ok (.ifCond .eq 20, 3) := by decide +kernel
theorem dX12_shortest_8 : decode cX12_shortest 8 = .ok (.iload_n 2, 1) := by decide +kernel
theorem dX12_shortest_9 : decode cX12_shortest 9 = .ok (.i2l, 1) := by decide +kernel
theorem dX12_shortest_10 : decode cX12_shortest 10 = .ok (.lconst 0, 1) := by decide +kernel
theorem dX12_shortest_11 : decode cX12_shortest 11 = .ok (.ldc2_w 353, 3) := by decide +kernel
theorem dX12_shortest_14 : decode cX12_shortest 14 = .ok (.invokestatic 143, 3) := by decide +kernel
theorem dX12_shortest_17 : decode cX12_shortest 17 = .ok (.ifCond .eq 8, 3) := by decide +kernel
theorem dX12_shortest_20 : decode cX12_shortest 20 = .ok (.iload_n 3, 1) := by decide +kernel
theorem dX12_shortest_21 : decode cX12_shortest 21 = .ok (.iconst (-1), 1) := by decide +kernel
theorem dX12_shortest_22 : decode cX12_shortest 22 = .ok (.if_icmp .ge 5, 3) := by decide +kernel
theorem dX12_shortest_25 : decode cX12_shortest 25 = .ok (.iconst (-1), 1) := by decide +kernel
theorem dX12_shortest_26 : decode cX12_shortest 26 = .ok (.ireturn, 1) := by decide +kernel
theorem dX12_shortest_27 : decode cX12_shortest 27 = .ok (.aload_n 0, 1) := by decide +kernel
theorem dX12_shortest_28 : decode cX12_shortest 28 = .ok (.invokevirtual 384, 3) := by decide +kernel
theorem dX12_shortest_31 : decode cX12_shortest 31 = .ok (.aload_n 0, 1) := by decide +kernel
theorem dX12_shortest_32 : decode cX12_shortest 32 = .ok (.iload_n 2, 1) := by decide +kernel
theorem dX12_shortest_33 : decode cX12_shortest 33 = .ok (.invokevirtual 395, 3) := by decide +kernel
theorem dX12_shortest_36 : decode cX12_shortest 36 = .ok (.istore 4, 2) := by decide +kernel
theorem dX12_shortest_38 : decode cX12_shortest 38 = .ok (.iload 4, 2) := by decide +kernel
theorem dX12_shortest_40 : decode cX12_shortest 40 = .ok (.iconst (-1), 1) := by decide +kernel
theorem dX12_shortest_41 : decode cX12_shortest 41 = .ok (.if_icmp .ne 5, 3) := by decide +kernel
theorem dX12_shortest_44 : decode cX12_shortest 44 = .ok (.iconst (-1), 1) := by decide +kernel
theorem dX12_shortest_45 : decode cX12_shortest 45 = .ok (.ireturn, 1) := by decide +kernel
theorem dX12_shortest_46 : decode cX12_shortest 46 = .ok (.iconst 0, 1) := by decide +kernel
theorem dX12_shortest_47 : decode cX12_shortest 47 = .ok (.istore 5, 2) := by decide +kernel
theorem dX12_shortest_49 : decode cX12_shortest 49 = .ok (.iload 4, 2) := by decide +kernel
theorem dX12_shortest_51 : decode cX12_shortest 51 = .ok (.istore 6, 2) := by decide +kernel
theorem dX12_shortest_53 : decode cX12_shortest 53 = .ok (.iload 6, 2) := by decide +kernel
theorem dX12_shortest_55 : decode cX12_shortest 55 = .ok (.iconst (-1), 1) := by decide +kernel
theorem dX12_shortest_56 : decode cX12_shortest 56 = .ok (.if_icmp .eq 18, 3) := by decide +kernel
theorem dX12_shortest_59 : decode cX12_shortest 59 = .ok (.iinc 5 1, 3) := by decide +kernel
theorem dX12_shortest_62 : decode cX12_shortest 62 = .ok (.aload_n 0, 1) := by decide +kernel
theorem dX12_shortest_63 : decode cX12_shortest 63 = .ok (.getfield 113, 3) := by decide +kernel
theorem dX12_shortest_66 : decode cX12_shortest 66 = .ok (.iload 6, 2) := by decide +kernel
theorem dX12_shortest_68 : decode cX12_shortest 68 = .ok (.iaload, 1) := by decide +kernel
theorem dX12_shortest_69 : decode cX12_shortest 69 = .ok (.istore 6, 2) := by decide +kernel
theorem dX12_shortest_71 : decode cX12_shortest 71 = .ok (.goto (-18), 3) := by decide +kernel
theorem dX12_shortest_74 : decode cX12_shortest 74 = .ok (.iload_n 3, 1) := by decide +kernel
theorem dX12_shortest_75 : decode cX12_shortest 75 = .ok (.iconst (-1), 1) := by decide +kernel
theorem dX12_shortest_76 : decode cX12_shortest 76 = .ok (.if_icmp .ne 6, 3) := by decide +kernel
theorem dX12_shortest_79 : decode cX12_shortest 79 = .ok (.iload 5, 2) := by decide +kernel
theorem dX12_shortest_81 : decode cX12_shortest 81 = .ok (.ireturn, 1) := by decide +kernel
theorem dX12_shortest_82 : decode cX12_shortest 82 = .ok (.iload_n 3, 1) := by decide +kernel
theorem dX12_shortest_83 : decode cX12_shortest 83 = .ok (.iload 5, 2) := by decide +kernel
theorem dX12_shortest_85 : decode cX12_shortest 85 = .ok (.if_icmp .lt 5, 3) := by decide +kernel
theorem dX12_shortest_88 : decode cX12_shortest 88 = .ok (.iconst (-1), 1) := by decide +kernel
theorem dX12_shortest_89 : decode cX12_shortest 89 = .ok (.ireturn, 1) := by decide +kernel
theorem dX12_shortest_90 : decode cX12_shortest 90 = .ok (.iload 5, 2) := by decide +kernel
theorem dX12_shortest_92 : decode cX12_shortest 92 = .ok (.iconst 1, 1) := by decide +kernel
theorem dX12_shortest_93 : decode cX12_shortest 93 = .ok (.isub, 1) := by decide +kernel
theorem dX12_shortest_94 : decode cX12_shortest 94 = .ok (.istore 6, 2) := by decide +kernel
theorem dX12_shortest_96 : decode cX12_shortest 96 = .ok (.iload 6, 2) := by decide +kernel
theorem dX12_shortest_98 : decode cX12_shortest 98 = .ok (.iload_n 3, 1) := by decide +kernel
theorem dX12_shortest_99 : decode cX12_shortest 99 = .ok (.if_icmp .le 18, 3) := by decide +kernel
theorem dX12_shortest_102 : decode cX12_shortest 102 = .ok (.aload_n 0, 1) := by decide +kernel
theorem dX12_shortest_103 : decode cX12_shortest 103 = .ok (.getfield 113, 3) := by decide +kernel
theorem dX12_shortest_106 : decode cX12_shortest 106 = .ok (.iload 4, 2) := by decide +kernel
theorem dX12_shortest_108 : decode cX12_shortest 108 = .ok (.iaload, 1) := by decide +kernel
theorem dX12_shortest_109 : decode cX12_shortest 109 = .ok (.istore 4, 2) := by decide +kernel
theorem dX12_shortest_111 : decode cX12_shortest 111 = .ok (.iinc 6 (-1), 3) := by decide +kernel
theorem dX12_shortest_114 : decode cX12_shortest 114 = .ok (.goto (-18), 3) := by decide +kernel
theorem dX12_shortest_117 : decode cX12_shortest 117 = .ok (.aload_n 0, 1) := by decide +kernel
theorem dX12_shortest_118 : decode cX12_shortest 118 = .ok (.getfield 80, 3) := by decide +kernel
theorem dX12_shortest_121 : decode cX12_shortest 121 = .ok (.aload_n 0, 1) := by decide +kernel
theorem dX12_shortest_122 : decode cX12_shortest 122 = .ok (.getfield 116, 3) := by decide +kernel
theorem dX12_shortest_125 : decode cX12_shortest 125 = .ok (.iload 4, 2) := by decide +kernel
theorem dX12_shortest_127 : decode cX12_shortest 127 = .ok (.iaload, 1) := by decide +kernel
theorem dX12_shortest_128 : decode cX12_shortest 128 = .ok (.iaload, 1) := by decide +kernel
theorem dX12_shortest_129 : decode cX12_shortest 129 = .ok (.ireturn, 1) := by decide +kernel
def f_X12_shortest_u25 (Q : Int → ml_St → Prop) (σ : ml_St) : Prop :=
Q (-1) σ
def f_X12_shortest_u53 (Q : Int → ml_St → Prop) (K74 : ml_St → Int → Int → Int → Prop) : Nat → ml_St → Int → Int → Int → Int → Prop
| 0, _, _, _, _, _ => False
| N + 1, σ, x3, x4, x5, x6 =>
(x6 = (-1) →
K74 σ x3 x4 x5) ∧
(x6 ≠ (-1) →
I32 (x5 + 1) ∧
∀ y2 : Int, y2 = x5 + 1 →
(0 : Int) ≤ x6 ∧ (x6 : Int) < 3800 ∧
∀ _ : I32 (σ 248 x6),
∀ y4 : Int, y4 = σ 248 x6 →
f_X12_shortest_u53 Q K74 N σ x3 x4 y2 y4)
def f_X12_shortest_u96 (Q : Int → ml_St → Prop) (K117 : ml_St → Int → Prop) : Nat → ml_St → Int → Int → Int → Prop
| 0, _, _, _, _ => False
| N + 1, σ, x3, x4, x6 =>
(x6 ≤ x3 →
K117 σ x4) ∧
(¬ (x6 ≤ x3) →
(0 : Int) ≤ x4 ∧ (x4 : Int) < 3800 ∧
∀ _ : I32 (σ 248 x4),
∀ y3 : Int, y3 = σ 248 x4 →
I32 (x6 + (-1)) ∧
∀ y4 : Int, y4 = x6 + (-1) →
f_X12_shortest_u96 Q K117 N σ x3 y3 y4)
def f_X12_shortest_u117 (Q : Int → ml_St → Prop) (σ : ml_St) (x4 : Int) : Prop :=
(0 : Int) ≤ x4 ∧ (x4 : Int) < 3800 ∧
∀ _ : I32 (σ 249 x4),
(0 : Int) ≤ (σ 249 x4) ∧ ((σ 249 x4) : Int) < 6 ∧
∀ _ : I32 (σ 237 (σ 249 x4)),
Q (σ 237 (σ 249 x4)) σ
def f_X12_shortest_u74 (Q : Int → ml_St → Prop) (σ : ml_St) (x3 : Int) (x4 : Int) (x5 : Int) : Prop :=
(x3 ≠ (-1) →
(x3 < x5 →
I32 (x5 - 1) ∧
∀ y4 : Int, y4 = x5 - 1 →
∃ N1, f_X12_shortest_u96 Q (f_X12_shortest_u117 Q) N1 σ x3 x4 y4) ∧
(¬ (x3 < x5) →
Q (-1) σ)) ∧
(x3 = (-1) →
Q x5 σ)
def f_X12_shortest_u0 (Q : Int → ml_St → Prop) (σ : ml_St) (x1 : Int) (x2 : Int) (x3 : Int) : Prop :=
f_X12_isLetters σ x1 (fun r1 σ1 => ∀ _ : ml_B r1,
(r1 = 0 →
f_X12_shortest_u25 Q σ1) ∧
(r1 ≠ 0 →
f_X12_lies σ1 x2 0 3 (fun r3 σ3 => ∀ _ : ml_B r3,
(r3 = 0 →
f_X12_shortest_u25 Q σ3) ∧
(r3 ≠ 0 →
((-1) ≤ x3 →
False) ∧
(¬ ((-1) ≤ x3) →
f_X12_shortest_u25 Q σ3)))))
def f_X12_shortest (σ : ml_St) (x1 : Int) (x2 : Int) (x3 : Int) (Q : Int → ml_St → Prop) : Prop := f_X12_shortest_u0 Q σ x1 x2 x3
def rm_X12_shortest : Room := { frames := 2, cells := 0, slots := 0, locals := 48 }
set_option maxRecDepth 100000 in
set_option maxHeartbeats 4000000 in
theorem u_X12_shortest_25 {p : Program} {e : Env} {s : State} {m : MethodId} {args : Array Value} {below : List Frame} {meth : Method} {c : Code} {base : Nat} {D : va_G} {cA : Nat → ClassId} {n : Nat} {l : Launch} {Q : Int → ml_St → Prop} (X : ml_X p s m c meth args D cA cX12_shortest 7 RX12 (some .int)) (hn : 256 ≤ n) (σ : ml_St) (ls : Array Slot) (hl : lv_has ls 7 []) (hw : f_X12_shortest_u25 Q σ) : ml_V p l e rm_X12_shortest s m args below meth c (MQ below (ml_Qi I32 base D cA n Q) args s 0 0 (ml_A base)) base D cA 0 0 n n σ (F0 m 25 ls []) := by
  unfold f_X12_shortest_u25 at hw
  refine ml_iconst (pc := 25) X dX12_shortest_25 ?_
  exact ml_iret (pc := 26) X ⟨by decide, by decide⟩ hw dX12_shortest_26
set_option maxRecDepth 100000 in
set_option maxHeartbeats 4000000 in
theorem u_X12_shortest_53 {p : Program} {e : Env} {s : State} {m : MethodId} {args : Array Value} {below : List Frame} {meth : Method} {c : Code} {base : Nat} {D : va_G} {cA : Nat → ClassId} {n : Nat} {l : Launch} {Q : Int → ml_St → Prop} {K74 : ml_St → Int → Int → Int → Prop} (X : ml_X p s m c meth args D cA cX12_shortest 7 RX12 (some .int)) (hn : 256 ≤ n) (hK74 : ∀ (σ : ml_St) (x3 : Int) (x4 : Int) (x5 : Int) (h_x3 : I32 x3) (h_x4 : I32 x4) (h_x5 : I32 x5) (ls : Array Slot), lv_has ls 7 [(0, .ref (base + (215 : Int).toNat)), (3, .int (Int32.ofInt x3)), (4, .int (Int32.ofInt x4)), (5, .int (Int32.ofInt x5))] → K74 σ x3 x4 x5 → ml_V p l e rm_X12_shortest s m args below meth c (MQ below (ml_Qi I32 base D cA n Q) args s 0 0 (ml_A base)) base D cA 0 0 n n σ (F0 m 74 ls [])) : ∀ (N : Nat) (σ : ml_St) (x3 : Int) (x4 : Int) (x5 : Int) (x6 : Int) (h_x3 : I32 x3) (h_x4 : I32 x4) (h_x5 : I32 x5) (h_x6 : I32 x6) (ls : Array Slot), lv_has ls 7 [(0, .ref (base + (215 : Int).toNat)), (3, .int (Int32.ofInt x3)), (4, .int (Int32.ofInt x4)), (5, .int (Int32.ofInt x5)), (6, .int (Int32.ofInt x6))] → f_X12_shortest_u53 Q K74 N σ x3 x4 x5 x6 → ml_V p l e rm_X12_shortest s m args below meth c (MQ below (ml_Qi I32 base D cA n Q) args s 0 0 (ml_A base)) base D cA 0 0 n n σ (F0 m 53 ls []) := by
  intro N
  induction N with
  | zero => intro σ x3 x4 x5 x6 h_x3 h_x4 h_x5 h_x6 ls hl hw; exact False.elim hw
  | succ N ih =>
    intro σ x3 x4 x5 x6 h_x3 h_x4 h_x5 h_x6 ls hl hw
    unfold f_X12_shortest_u53 at hw
    refine ml_iload (pc := 53) X hl 4 rfl dX12_shortest_53 ?_
    refine ml_iconst (pc := 55) X dX12_shortest_55 ?_
    refine ml_icmp_eq (pc := 56) (tgt := 74) X h_x6 ⟨by decide, by decide⟩ dX12_shortest_56 (by decide) (fun c1 => ?_) (fun c1 => ?_)
    · have hw := hw.1 c1
      exact hK74 σ x3 x4 x5 h_x3 h_x4 h_x5 _ (lv_sub hl [0, 1, 2, 3] rfl) hw
    · have hw := hw.2 c1
      obtain ⟨v2, hw⟩ := hw
      obtain ⟨y2, e2⟩ : ∃ y : Int, y = x5 + 1 := ⟨_, rfl⟩
      have hw := hw y2 e2
      rw [← e2] at v2
      refine ml_iinc (pc := 59) X e2 hl 3 rfl (by decide) (lst' := [(5, .int (Int32.ofInt y2)), (0, .ref (base + (215 : Int).toNat)), (3, .int (Int32.ofInt x3)), (4, .int (Int32.ofInt x4)), (6, .int (Int32.ofInt x6))]) rfl dX12_shortest_59 (fun ls hl => ?_)
      refine ml_aload_n (pc := 62) X hl 1 rfl rfl dX12_shortest_62 ?_
      refine gf_X12_113 (pc := 63) X (ml_c215 hn) dX12_shortest_63 ?_
      refine ml_iload (pc := 66) X hl 4 rfl dX12_shortest_66 ?_
      obtain ⟨a3, b3, hw⟩ := hw
      refine ml_iald (pc := 68) (N := 3800) X (ml_c248 hn) a3 b3 dX12_shortest_68 (fun r3 => ?_)
      have hw := hw r3
      refine ml_topI (pc := 69) (fun y4 e4 => ?_)
      have hw := hw y4 e4
      have q4 : I32 y4 := by rw [e4]; exact r3
      refine ml_istore (pc := 69) X hl (by decide) (lst' := [(6, .int (Int32.ofInt y4)), (5, .int (Int32.ofInt y2)), (0, .ref (base + (215 : Int).toNat)), (3, .int (Int32.ofInt x3)), (4, .int (Int32.ofInt x4))]) rfl dX12_shortest_69 (fun ls hl => ?_)
      refine ml_goto (pc := 71) (tgt := 53) X dX12_shortest_71 (by decide) ?_
      exact ih σ x3 x4 y2 y4 h_x3 h_x4 v2 q4 _ (lv_sub hl [2, 3, 4, 1, 0] rfl) hw
set_option maxRecDepth 100000 in
set_option maxHeartbeats 4000000 in
theorem u_X12_shortest_96 {p : Program} {e : Env} {s : State} {m : MethodId} {args : Array Value} {below : List Frame} {meth : Method} {c : Code} {base : Nat} {D : va_G} {cA : Nat → ClassId} {n : Nat} {l : Launch} {Q : Int → ml_St → Prop} {K117 : ml_St → Int → Prop} (X : ml_X p s m c meth args D cA cX12_shortest 7 RX12 (some .int)) (hn : 256 ≤ n) (hK117 : ∀ (σ : ml_St) (x4 : Int) (h_x4 : I32 x4) (ls : Array Slot), lv_has ls 7 [(0, .ref (base + (215 : Int).toNat)), (4, .int (Int32.ofInt x4))] → K117 σ x4 → ml_V p l e rm_X12_shortest s m args below meth c (MQ below (ml_Qi I32 base D cA n Q) args s 0 0 (ml_A base)) base D cA 0 0 n n σ (F0 m 117 ls [])) : ∀ (N : Nat) (σ : ml_St) (x3 : Int) (x4 : Int) (x6 : Int) (h_x3 : I32 x3) (h_x4 : I32 x4) (h_x6 : I32 x6) (ls : Array Slot), lv_has ls 7 [(0, .ref (base + (215 : Int).toNat)), (3, .int (Int32.ofInt x3)), (4, .int (Int32.ofInt x4)), (6, .int (Int32.ofInt x6))] → f_X12_shortest_u96 Q K117 N σ x3 x4 x6 → ml_V p l e rm_X12_shortest s m args below meth c (MQ below (ml_Qi I32 base D cA n Q) args s 0 0 (ml_A base)) base D cA 0 0 n n σ (F0 m 96 ls []) := by
  intro N
  induction N with
  | zero => intro σ x3 x4 x6 h_x3 h_x4 h_x6 ls hl hw; exact False.elim hw
  | succ N ih =>
    intro σ x3 x4 x6 h_x3 h_x4 h_x6 ls hl hw
    unfold f_X12_shortest_u96 at hw
    refine ml_iload (pc := 96) X hl 3 rfl dX12_shortest_96 ?_
    refine ml_iload_n (pc := 98) X hl 1 rfl rfl dX12_shortest_98 ?_
    refine ml_icmp_le (pc := 99) (tgt := 117) X h_x6 h_x3 dX12_shortest_99 (by decide) (fun c1 => ?_) (fun c1 => ?_)
    · have hw := hw.1 c1
      exact hK117 σ x4 h_x4 _ (lv_sub hl [0, 2] rfl) hw
    · have hw := hw.2 c1
      refine ml_aload_n (pc := 102) X hl 0 rfl rfl dX12_shortest_102 ?_
      refine gf_X12_113 (pc := 103) X (ml_c215 hn) dX12_shortest_103 ?_
      refine ml_iload (pc := 106) X hl 2 rfl dX12_shortest_106 ?_
      obtain ⟨a2, b2, hw⟩ := hw
      refine ml_iald (pc := 108) (N := 3800) X (ml_c248 hn) a2 b2 dX12_shortest_108 (fun r2 => ?_)
      have hw := hw r2
      refine ml_topI (pc := 109) (fun y3 e3 => ?_)
      have hw := hw y3 e3
      have q3 : I32 y3 := by rw [e3]; exact r2
      refine ml_istore (pc := 109) X hl (by decide) (lst' := [(4, .int (Int32.ofInt y3)), (0, .ref (base + (215 : Int).toNat)), (3, .int (Int32.ofInt x3)), (6, .int (Int32.ofInt x6))]) rfl dX12_shortest_109 (fun ls hl => ?_)
      obtain ⟨v4, hw⟩ := hw
      obtain ⟨y4, e4⟩ : ∃ y : Int, y = x6 + (-1) := ⟨_, rfl⟩
      have hw := hw y4 e4
      rw [← e4] at v4
      refine ml_iinc (pc := 111) X e4 hl 3 rfl (by decide) (lst' := [(6, .int (Int32.ofInt y4)), (4, .int (Int32.ofInt y3)), (0, .ref (base + (215 : Int).toNat)), (3, .int (Int32.ofInt x3))]) rfl dX12_shortest_111 (fun ls hl => ?_)
      refine ml_goto (pc := 114) (tgt := 96) X dX12_shortest_114 (by decide) ?_
      exact ih σ x3 y3 y4 h_x3 q3 v4 _ (lv_sub hl [2, 3, 1, 0] rfl) hw
set_option maxRecDepth 100000 in
set_option maxHeartbeats 4000000 in
theorem u_X12_shortest_117 {p : Program} {e : Env} {s : State} {m : MethodId} {args : Array Value} {below : List Frame} {meth : Method} {c : Code} {base : Nat} {D : va_G} {cA : Nat → ClassId} {n : Nat} {l : Launch} {Q : Int → ml_St → Prop} (X : ml_X p s m c meth args D cA cX12_shortest 7 RX12 (some .int)) (hn : 256 ≤ n) (σ : ml_St) (x4 : Int) (h_x4 : I32 x4) (ls : Array Slot) (hl : lv_has ls 7 [(0, .ref (base + (215 : Int).toNat)), (4, .int (Int32.ofInt x4))]) (hw : f_X12_shortest_u117 Q σ x4) : ml_V p l e rm_X12_shortest s m args below meth c (MQ below (ml_Qi I32 base D cA n Q) args s 0 0 (ml_A base)) base D cA 0 0 n n σ (F0 m 117 ls []) := by
  unfold f_X12_shortest_u117 at hw
  refine ml_aload_n (pc := 117) X hl 0 rfl rfl dX12_shortest_117 ?_
  refine gf_X12_80 (pc := 118) X (ml_c215 hn) dX12_shortest_118 ?_
  refine ml_aload_n (pc := 121) X hl 0 rfl rfl dX12_shortest_121 ?_
  refine gf_X12_116 (pc := 122) X (ml_c215 hn) dX12_shortest_122 ?_
  refine ml_iload (pc := 125) X hl 1 rfl dX12_shortest_125 ?_
  obtain ⟨a1, b1, hw⟩ := hw
  refine ml_iald (pc := 127) (N := 3800) X (ml_c249 hn) a1 b1 dX12_shortest_127 (fun r1 => ?_)
  have hw := hw r1
  obtain ⟨a2, b2, hw⟩ := hw
  refine ml_iald (pc := 128) (N := 6) X (ml_c237 hn) a2 b2 dX12_shortest_128 (fun r2 => ?_)
  have hw := hw r2
  exact ml_iret (pc := 129) X r2 hw dX12_shortest_129
set_option maxRecDepth 100000 in
set_option maxHeartbeats 4000000 in
theorem u_X12_shortest_74 {p : Program} {e : Env} {s : State} {m : MethodId} {args : Array Value} {below : List Frame} {meth : Method} {c : Code} {base : Nat} {D : va_G} {cA : Nat → ClassId} {n : Nat} {l : Launch} {Q : Int → ml_St → Prop} (X : ml_X p s m c meth args D cA cX12_shortest 7 RX12 (some .int)) (hn : 256 ≤ n) (σ : ml_St) (x3 : Int) (x4 : Int) (x5 : Int) (h_x3 : I32 x3) (h_x4 : I32 x4) (h_x5 : I32 x5) (ls : Array Slot) (hl : lv_has ls 7 [(0, .ref (base + (215 : Int).toNat)), (3, .int (Int32.ofInt x3)), (4, .int (Int32.ofInt x4)), (5, .int (Int32.ofInt x5))]) (hw : f_X12_shortest_u74 Q σ x3 x4 x5) : ml_V p l e rm_X12_shortest s m args below meth c (MQ below (ml_Qi I32 base D cA n Q) args s 0 0 (ml_A base)) base D cA 0 0 n n σ (F0 m 74 ls []) := by
  unfold f_X12_shortest_u74 at hw
  refine ml_iload_n (pc := 74) X hl 1 rfl rfl dX12_shortest_74 ?_
  refine ml_iconst (pc := 75) X dX12_shortest_75 ?_
  refine ml_icmp_ne (pc := 76) (tgt := 82) X h_x3 ⟨by decide, by decide⟩ dX12_shortest_76 (by decide) (fun c1 => ?_) (fun c1 => ?_)
  · have hw := hw.1 c1
    refine ml_iload_n (pc := 82) X hl 1 rfl rfl dX12_shortest_82 ?_
    refine ml_iload (pc := 83) X hl 3 rfl dX12_shortest_83 ?_
    refine ml_icmp_lt (pc := 85) (tgt := 90) X h_x3 h_x5 dX12_shortest_85 (by decide) (fun c2 => ?_) (fun c2 => ?_)
    · have hw := hw.1 c2
      refine ml_iload (pc := 90) X hl 3 rfl dX12_shortest_90 ?_
      refine ml_iconst (pc := 92) X dX12_shortest_92 ?_
      obtain ⟨v3, hw⟩ := hw
      refine ml_isub (pc := 93) X dX12_shortest_93 ?_
      refine ml_topI (pc := 94) (fun y4 e4 => ?_)
      have hw := hw y4 e4
      have q4 : I32 y4 := by rw [e4]; exact v3
      refine ml_istore (pc := 94) X hl (by decide) (lst' := [(6, .int (Int32.ofInt y4)), (0, .ref (base + (215 : Int).toNat)), (3, .int (Int32.ofInt x3)), (4, .int (Int32.ofInt x4)), (5, .int (Int32.ofInt x5))]) rfl dX12_shortest_94 (fun ls hl => ?_)
      obtain ⟨N0, hw⟩ := hw
      exact u_X12_shortest_96 X hn (fun σ x4 h_x4 ls hl hw => u_X12_shortest_117 X hn σ x4 h_x4 ls hl hw) N0 σ x3 x4 y4 h_x3 h_x4 q4 _ (lv_sub hl [1, 2, 3, 0] rfl) hw
    · have hw := hw.2 c2
      refine ml_iconst (pc := 88) X dX12_shortest_88 ?_
      exact ml_iret (pc := 89) X ⟨by decide, by decide⟩ hw dX12_shortest_89
  · have hw := hw.2 c1
    refine ml_iload (pc := 79) X hl 3 rfl dX12_shortest_79 ?_
    exact ml_iret (pc := 81) X h_x5 hw dX12_shortest_81
set_option maxRecDepth 100000 in
set_option maxHeartbeats 4000000 in
theorem u_X12_shortest_0 {p : Program} {e : Env} {s : State} {m : MethodId} {args : Array Value} {below : List Frame} {meth : Method} {c : Code} {base : Nat} {D : va_G} {cA : Nat → ClassId} {n : Nat} {l : Launch} {Q : Int → ml_St → Prop} (X : ml_X p s m c meth args D cA cX12_shortest 7 RX12 (some .int)) (hn : 256 ≤ n) (σ : ml_St) (x1 : Int) (x2 : Int) (x3 : Int) (h_x1 : I32 x1) (h_x2 : I32 x2) (h_x3 : I32 x3) (ls : Array Slot) (hl : lv_has ls 7 [(0, .ref (base + (215 : Int).toNat)), (1, .int (Int32.ofInt x1)), (2, .int (Int32.ofInt x2)), (3, .int (Int32.ofInt x3))]) (hw : f_X12_shortest_u0 Q σ x1 x2 x3) : ml_V p l e rm_X12_shortest s m args below meth c (MQ below (ml_Qi I32 base D cA n Q) args s 0 0 (ml_A base)) base D cA 0 0 n n σ (F0 m 0 ls []) := by
  unfold f_X12_shortest_u0 at hw
  refine ml_aload_n (pc := 0) X hl 0 rfl rfl dX12_shortest_0 ?_
  refine ml_iload_n (pc := 1) X hl 1 rfl rfl dX12_shortest_1 ?_
  refine ml_callzV (pc := 2) (rest := []) X [.int (Int32.ofInt x1)] (by decide) rfl (ml_c215 hn) (c_X12_isLetters l base D cA n hn σ x1 h_x1 _ hw) cv_X12_379 ⟨rfl, rfl⟩ ⟨by decide, by decide⟩ rfl rfl hl (Nat.le_of_ble_eq_true rfl) ⟨Nat.zero_le _, Nat.zero_le _⟩ dX12_shortest_2 (fun r1 σ1 t1 hw => ?_)
  have hw := hw t1
  refine ml_if_eq (pc := 5) (tgt := 25) X t1.i dX12_shortest_5 (by decide) (fun c2 => ?_) (fun c2 => ?_)
  · have hw := hw.1 c2
    exact u_X12_shortest_25 X hn σ1   _ (lv_sub hl [] rfl) hw
  · have hw := hw.2 c2
    refine ml_iload_n (pc := 8) X hl 2 rfl rfl dX12_shortest_8 ?_
    refine ml_i2l (pc := 9) X h_x2 dX12_shortest_9 ?_
    refine ml_lconst0 (pc := 10) X dX12_shortest_10 ?_
    refine ml_ldc2 (pc := 11) (v := 3) X dX12_shortest_11 tc_6_133 ?_
    refine ml_callzS (pc := 14) (rest := []) X [.long (Int64.ofInt x2), .long (Int64.ofInt 0), .long (Int64.ofInt 3)] (c_X12_lies l base D cA n hn σ1 x2 0 3 (h_x2).l ⟨by decide, by decide⟩ ⟨by decide, by decide⟩ _ hw) cv_X12_143 ⟨rfl, rfl⟩ ⟨by decide, by decide⟩ rfl rfl hl (Nat.le_of_ble_eq_true rfl) ⟨Nat.zero_le _, Nat.zero_le _⟩ dX12_shortest_14 (fun r3 σ3 t3 hw => ?_)
    have hw := hw t3
    refine ml_if_eq (pc := 17) (tgt := 25) X t3.i dX12_shortest_17 (by decide) (fun c4 => ?_) (fun c4 => ?_)
    · have hw := hw.1 c4
      exact u_X12_shortest_25 X hn σ3   _ (lv_sub hl [] rfl) hw
    · have hw := hw.2 c4
      refine ml_iload_n (pc := 20) X hl 3 rfl rfl dX12_shortest_20 ?_
      refine ml_iconst (pc := 21) X dX12_shortest_21 ?_
      refine ml_icmp_ge (pc := 22) (tgt := 27) X h_x3 ⟨by decide, by decide⟩ dX12_shortest_22 (by decide) (fun c5 => ?_) (fun c5 => ?_)
      · have hw := hw.1 c5
        refine ml_aload_n (pc := 27) X hl 0 rfl rfl dX12_shortest_27 ?_
        exact hw.elim
      · have hw := hw.2 c5
        exact u_X12_shortest_25 X hn σ3   _ (lv_sub hl [] rfl) hw
set_option maxRecDepth 100000 in
theorem c_X12_shortest (l : Launch) (base : Nat) (D : va_G) (cA : Nat → ClassId) (n : Nat) (hn : 256 ≤ n) (σ : ml_St) (x1 : Int) (x2 : Int) (x3 : Int) (h_x1 : I32 x1) (h_x2 : I32 x2) (h_x3 : I32 x3) (Q : Int → ml_St → Prop) (hw : f_X12_shortest σ x1 x2 x3 Q) : Met l yX12_shortest (Cond.code yX12_shortest cX12_shortest 7 (some .int) :: ml_T) rm_X12_shortest (va_Pc [.ref (base + (215 : Int).toNat), .int (Int32.ofInt x1), .int (Int32.ofInt x2), .int (Int32.ofInt x3)] (ml_U base D cA n σ)) (ml_Qi I32 base D cA n Q) 0 0 (ml_A base) := by
  refine Met.ofW (cc := cX12_shortest) (maxL := 7) (ret := (some .int)) (by decide) rfl ?_
  intro p e s m args below meth c s₁ B hml hv
  obtain ⟨rfl, hP, hK, hok, hro⟩ := hv
  have X : ml_X p s m c meth _ D cA cX12_shortest 7 RX12 (some .int) := ⟨B.exec, B.bytes, hml, findClass_of_methodNamed B.named, fun w hw => atoms_spec (ws := Cond.code yX12_shortest cX12_shortest 7 (some .int) :: ml_T) B.pre w (List.mem_cons_of_mem _ hw), hK, B.notSynchronized, B.returns⟩
  have hl := lv_entry [.ref (base + (215 : Int).toNat), .int (Int32.ofInt x1), .int (Int32.ofInt x2), .int (Int32.ofInt x3)] (n := 7) (Nat.le_of_ble_eq_true rfl)
  rw [lg_entry_eq]
  generalize (lg_sl [.ref (base + (215 : Int).toNat), .int (Int32.ofInt x1), .int (Int32.ofInt x2), .int (Int32.ofInt x3)] ++ List.replicate (7 - (lg_sl [.ref (base + (215 : Int).toNat), .int (Int32.ofInt x1), .int (Int32.ofInt x2), .int (Int32.ofInt x3)]).length) Slot.unset).toArray = ls at hl ⊢
  have hl : lv_has ls 7 [(0, .ref (base + (215 : Int).toNat)), (1, .int (Int32.ofInt x1)), (2, .int (Int32.ofInt x2)), (3, .int (Int32.ofInt x3))] := hl
  unfold f_X12_shortest at hw
  exact u_X12_shortest_0 X hn σ x1 x2 x3 h_x1 h_x2 h_x3 _ (lv_sub hl [0, 1, 2, 3] rfl) hw s.heap [] hP va_S.rf hok hro
theorem dX12_cost_0 : decode cX12_cost 0 = .ok (.aload_n 0, 1) := by decide +kernel
theorem dX12_cost_1 : decode cX12_cost 1 = .ok (.iload_n 1, 1) := by decide +kernel
theorem dX12_cost_2 : decode cX12_cost 2 = .ok (.invokevirtual 287, 3) := by decide +kernel
theorem dX12_cost_5 : decode cX12_cost 5 = .ok (.ifCond .eq 15, 3) := by decide +kernel
theorem dX12_cost_8 : decode cX12_cost 8 = .ok (.iload_n 2, 1) := by decide +kernel
theorem dX12_cost_9 : decode cX12_cost 9 = .ok (.i2l, 1) := by decide +kernel
theorem dX12_cost_10 : decode cX12_cost 10 = .ok (.lconst 1, 1) := by decide +kernel
theorem dX12_cost_11 : decode cX12_cost 11 = .ok (.ldc2_w 382, 3) := by decide +kernel
theorem dX12_cost_14 : decode cX12_cost 14 = .ok (.invokestatic 143, 3) := by decide +kernel
theorem dX12_cost_17 : decode cX12_cost 17 = .ok (.ifCond .ne 5, 3) := by decide +kernel
theorem dX12_cost_20 : decode cX12_cost 20 = .ok (.iconst 0, 1) := by decide +kernel
theorem dX12_cost_21 : decode cX12_cost 21 = .ok (.ireturn, 1) := by decide +kernel
theorem dX12_cost_22 : decode cX12_cost 22 = .ok (.aload_n 0, 1) := by decide +kernel
theorem dX12_cost_23 : decode cX12_cost 23 = .ok (.getfield 27, 3) := by decide +kernel
theorem dX12_cost_26 : decode cX12_cost 26 = .ok (.iload_n 1, 1) := by decide +kernel
theorem dX12_cost_27 : decode cX12_cost 27 = .ok (.iload_n 2, 1) := by decide +kernel
theorem dX12_cost_28 : decode cX12_cost 28 = .ok (.iastore, 1) := by decide +kernel
theorem dX12_cost_29 : decode cX12_cost 29 = .ok (.iconst 1, 1) := by decide +kernel
theorem dX12_cost_30 : decode cX12_cost 30 = .ok (.ireturn, 1) := by decide +kernel
def f_X12_cost_u20 (Q : Int → ml_St → Prop) (σ : ml_St) : Prop :=
Q 0 σ
def f_X12_cost_u0 (Q : Int → ml_St → Prop) (σ : ml_St) (x1 : Int) (x2 : Int) : Prop :=
f_X12_isWord σ x1 (fun r1 σ1 => ∀ _ : ml_B r1,
(r1 = 0 →
f_X12_cost_u20 Q σ1) ∧
(r1 ≠ 0 →
f_X12_lies σ1 x2 1 1000 (fun r3 σ3 => ∀ _ : ml_B r3,
(r3 ≠ 0 →
(0 : Int) ≤ x1 ∧ (x1 : Int) < 16 ∧
∀ σ5, σ5 = ml_up σ3 220 x1 x2 →
Q 1 σ5) ∧
(r3 = 0 →
f_X12_cost_u20 Q σ3))))
def f_X12_cost (σ : ml_St) (x1 : Int) (x2 : Int) (Q : Int → ml_St → Prop) : Prop := f_X12_cost_u0 Q σ x1 x2
def rm_X12_cost : Room := { frames := 2, cells := 0, slots := 0, locals := 46 }
set_option maxRecDepth 100000 in
set_option maxHeartbeats 4000000 in
theorem u_X12_cost_20 {p : Program} {e : Env} {s : State} {m : MethodId} {args : Array Value} {below : List Frame} {meth : Method} {c : Code} {base : Nat} {D : va_G} {cA : Nat → ClassId} {n : Nat} {l : Launch} {Q : Int → ml_St → Prop} (X : ml_X p s m c meth args D cA cX12_cost 3 RX12 (some .boolean)) (hn : 256 ≤ n) (σ : ml_St) (ls : Array Slot) (hl : lv_has ls 3 []) (hw : f_X12_cost_u20 Q σ) : ml_V p l e rm_X12_cost s m args below meth c (MQ below (ml_Qi ml_B base D cA n Q) args s 0 0 (ml_A base)) base D cA 0 0 n n σ (F0 m 20 ls []) := by
  unfold f_X12_cost_u20 at hw
  refine ml_iconst (pc := 20) X dX12_cost_20 ?_
  exact ml_zret (pc := 21) X ⟨by decide, by decide⟩ hw dX12_cost_21
set_option maxRecDepth 100000 in
set_option maxHeartbeats 4000000 in
theorem u_X12_cost_0 {p : Program} {e : Env} {s : State} {m : MethodId} {args : Array Value} {below : List Frame} {meth : Method} {c : Code} {base : Nat} {D : va_G} {cA : Nat → ClassId} {n : Nat} {l : Launch} {Q : Int → ml_St → Prop} (X : ml_X p s m c meth args D cA cX12_cost 3 RX12 (some .boolean)) (hn : 256 ≤ n) (σ : ml_St) (x1 : Int) (x2 : Int) (h_x1 : I32 x1) (h_x2 : I32 x2) (ls : Array Slot) (hl : lv_has ls 3 [(0, .ref (base + (215 : Int).toNat)), (1, .int (Int32.ofInt x1)), (2, .int (Int32.ofInt x2))]) (hw : f_X12_cost_u0 Q σ x1 x2) : ml_V p l e rm_X12_cost s m args below meth c (MQ below (ml_Qi ml_B base D cA n Q) args s 0 0 (ml_A base)) base D cA 0 0 n n σ (F0 m 0 ls []) := by
  unfold f_X12_cost_u0 at hw
  refine ml_aload_n (pc := 0) X hl 0 rfl rfl dX12_cost_0 ?_
  refine ml_iload_n (pc := 1) X hl 1 rfl rfl dX12_cost_1 ?_
  refine ml_callzV (pc := 2) (rest := []) X [.int (Int32.ofInt x1)] (by decide) rfl (ml_c215 hn) (c_X12_isWord l base D cA n hn σ x1 h_x1 _ hw) cv_X12_287 ⟨rfl, rfl⟩ ⟨by decide, by decide⟩ rfl rfl hl (Nat.le_of_ble_eq_true rfl) ⟨Nat.zero_le _, Nat.zero_le _⟩ dX12_cost_2 (fun r1 σ1 t1 hw => ?_)
  have hw := hw t1
  refine ml_if_eq (pc := 5) (tgt := 20) X t1.i dX12_cost_5 (by decide) (fun c2 => ?_) (fun c2 => ?_)
  · have hw := hw.1 c2
    exact u_X12_cost_20 X hn σ1   _ (lv_sub hl [] rfl) hw
  · have hw := hw.2 c2
    refine ml_iload_n (pc := 8) X hl 2 rfl rfl dX12_cost_8 ?_
    refine ml_i2l (pc := 9) X h_x2 dX12_cost_9 ?_
    refine ml_lconst1 (pc := 10) X dX12_cost_10 ?_
    refine ml_ldc2 (pc := 11) (v := 1000) X dX12_cost_11 tc_6_161 ?_
    refine ml_callzS (pc := 14) (rest := []) X [.long (Int64.ofInt x2), .long (Int64.ofInt 1), .long (Int64.ofInt 1000)] (c_X12_lies l base D cA n hn σ1 x2 1 1000 (h_x2).l ⟨by decide, by decide⟩ ⟨by decide, by decide⟩ _ hw) cv_X12_143 ⟨rfl, rfl⟩ ⟨by decide, by decide⟩ rfl rfl hl (Nat.le_of_ble_eq_true rfl) ⟨Nat.zero_le _, Nat.zero_le _⟩ dX12_cost_14 (fun r3 σ3 t3 hw => ?_)
    have hw := hw t3
    refine ml_if_ne (pc := 17) (tgt := 22) X t3.i dX12_cost_17 (by decide) (fun c4 => ?_) (fun c4 => ?_)
    · have hw := hw.1 c4
      refine ml_aload_n (pc := 22) X hl 0 rfl rfl dX12_cost_22 ?_
      refine gf_X12_27 (pc := 23) X (ml_c215 hn) dX12_cost_23 ?_
      refine ml_iload_n (pc := 26) X hl 1 rfl rfl dX12_cost_26 ?_
      refine ml_iload_n (pc := 27) X hl 2 rfl rfl dX12_cost_27 ?_
      obtain ⟨a5, b5, hw⟩ := hw
      refine ml_iast (pc := 28) (N := 16) X (ml_c220 hn) a5 b5 h_x2 dX12_cost_28 (fun σ5 g5 => ?_)
      have hw := hw σ5 g5
      refine ml_iconst (pc := 29) X dX12_cost_29 ?_
      exact ml_zret (pc := 30) X ⟨by decide, by decide⟩ hw dX12_cost_30
    · have hw := hw.2 c4
      exact u_X12_cost_20 X hn σ3   _ (lv_sub hl [] rfl) hw
set_option maxRecDepth 100000 in
theorem c_X12_cost (l : Launch) (base : Nat) (D : va_G) (cA : Nat → ClassId) (n : Nat) (hn : 256 ≤ n) (σ : ml_St) (x1 : Int) (x2 : Int) (h_x1 : I32 x1) (h_x2 : I32 x2) (Q : Int → ml_St → Prop) (hw : f_X12_cost σ x1 x2 Q) : Met l yX12_cost (Cond.code yX12_cost cX12_cost 3 (some .boolean) :: ml_T) rm_X12_cost (va_Pc [.ref (base + (215 : Int).toNat), .int (Int32.ofInt x1), .int (Int32.ofInt x2)] (ml_U base D cA n σ)) (ml_Qi ml_B base D cA n Q) 0 0 (ml_A base) := by
  refine Met.ofW (cc := cX12_cost) (maxL := 3) (ret := (some .boolean)) (by decide) rfl ?_
  intro p e s m args below meth c s₁ B hml hv
  obtain ⟨rfl, hP, hK, hok, hro⟩ := hv
  have X : ml_X p s m c meth _ D cA cX12_cost 3 RX12 (some .boolean) := ⟨B.exec, B.bytes, hml, findClass_of_methodNamed B.named, fun w hw => atoms_spec (ws := Cond.code yX12_cost cX12_cost 3 (some .boolean) :: ml_T) B.pre w (List.mem_cons_of_mem _ hw), hK, B.notSynchronized, B.returns⟩
  have hl := lv_entry [.ref (base + (215 : Int).toNat), .int (Int32.ofInt x1), .int (Int32.ofInt x2)] (n := 3) (Nat.le_of_ble_eq_true rfl)
  rw [lg_entry_eq]
  generalize (lg_sl [.ref (base + (215 : Int).toNat), .int (Int32.ofInt x1), .int (Int32.ofInt x2)] ++ List.replicate (3 - (lg_sl [.ref (base + (215 : Int).toNat), .int (Int32.ofInt x1), .int (Int32.ofInt x2)]).length) Slot.unset).toArray = ls at hl ⊢
  have hl : lv_has ls 3 [(0, .ref (base + (215 : Int).toNat)), (1, .int (Int32.ofInt x1)), (2, .int (Int32.ofInt x2))] := hl
  unfold f_X12_cost at hw
  exact u_X12_cost_0 X hn σ x1 x2 h_x1 h_x2 _ (lv_sub hl [0, 1, 2] rfl) hw s.heap [] hP va_S.rf hok hro
theorem dX12_cheapest_0 : decode cX12_cheapest 0 = .ok (.aload_n 0, 1) := by decide +kernel
theorem dX12_cheapest_1 : decode cX12_cheapest 1 = .ok (.iload_n 1, 1) := by decide +kernel
theorem dX12_cheapest_2 : decode cX12_cheapest 2 = .ok (.invokevirtual 379, 3) := by decide +kernel
theorem dX12_cheapest_5 : decode cX12_cheapest 5 = .ok (.ifCond .eq 17, 3) := by decide +kernel
theorem dX12_cheapest_8 : decode cX12_cheapest 8 = .ok (.aload_n 0, 1) := by decide +kernel
theorem dX12_cheapest_9 : decode cX12_cheapest 9 = .ok (.iload_n 2, 1) := by decide +kernel
theorem dX12_cheapest_10 : decode cX12_cheapest 10 = .ok (.invokevirtual 292, 3) := by decide +kernel
theorem dX12_cheapest_13 : decode cX12_cheapest 13 = .ok (.ifCond .eq 9, 3) := by decide +kernel
theorem dX12_cheapest_16 : decode cX12_cheapest 16 = .ok (.iload_n 3, 1) := by decide +kernel
theorem dX12_cheapest_17 : decode cX12_cheapest 17 = .ok (.bipush (-2), 2) := by decide +kernel
theorem dX12_cheapest_19 : decode cX12_cheapest 19 = .ok (.if_icmp .ge 5, 3) := by decide +kernel
theorem dX12_cheapest_22 : decode cX12_cheapest 22 = .ok (.iconst (-1), 1) := by decide +kernel
theorem dX12_cheapest_23 : decode cX12_cheapest 23 = .ok (.ireturn, 1) := by decide +kernel
theorem dX12_cheapest_24 : decode cX12_cheapest 24 = .ok (.aload_n 0, 1) := by decide +kernel
theorem dX12_cheapest_25 : decode cX12_cheapest 25 = .ok (.invokevirtual 384, 3) := by decide +kernel
theorem dX12_cheapest_28 : decode cX12_cheapest 28 = .ok (.aload_n 0, 1) := by decide +kernel
theorem dX12_cheapest_29 : decode cX12_cheapest 29 = .ok (.iload_n 2, 1) := by decide +kernel
theorem dX12_cheapest_30 : decode cX12_cheapest 30 = .ok (.invokevirtual 398, 3) := by decide +kernel
theorem dX12_cheapest_33 : decode cX12_cheapest 33 = .ok (.istore 4, 2) := by decide +kernel
theorem dX12_cheapest_35 : decode cX12_cheapest 35 = .ok (.iload 4, 2) := by decide +kernel
theorem dX12_cheapest_37 : decode cX12_cheapest 37 = .ok (.iconst (-1), 1) := by decide +kernel
theorem dX12_cheapest_38 : decode cX12_cheapest 38 = .ok (.if_icmp .ne 5, 3) := by decide +kernel
theorem dX12_cheapest_41 : decode cX12_cheapest 41 = .ok (.iconst (-1), 1) := by decide +kernel
theorem dX12_cheapest_42 : decode cX12_cheapest 42 = .ok (.ireturn, 1) := by decide +kernel
theorem dX12_cheapest_43 : decode cX12_cheapest 43 = .ok (.aload_n 0, 1) := by decide +kernel
theorem dX12_cheapest_44 : decode cX12_cheapest 44 = .ok (.iload 4, 2) := by decide +kernel
theorem dX12_cheapest_46 : decode cX12_cheapest 46 = .ok (.invokevirtual 401, 3) := by decide +kernel
theorem dX12_cheapest_49 : decode cX12_cheapest 49 = .ok (.aload_n 0, 1) := by decide +kernel
theorem dX12_cheapest_50 : decode cX12_cheapest 50 = .ok (.iconst (-1), 1) := by decide +kernel
theorem dX12_cheapest_51 : decode cX12_cheapest 51 = .ok (.invokevirtual 404, 3) := by decide +kernel
theorem dX12_cheapest_54 : decode cX12_cheapest 54 = .ok (.istore 5, 2) := by decide +kernel
theorem dX12_cheapest_56 : decode cX12_cheapest 56 = .ok (.iload 5, 2) := by decide +kernel
theorem dX12_cheapest_58 : decode cX12_cheapest 58 = .ok (.iconst (-1), 1) := by decide +kernel
theorem dX12_cheapest_59 : decode cX12_cheapest 59 = .ok (.if_icmp .ne 5, 3) := by decide +kernel
theorem dX12_cheapest_62 : decode cX12_cheapest 62 = .ok (.iconst (-1), 1) := by decide +kernel
theorem dX12_cheapest_63 : decode cX12_cheapest 63 = .ok (.ireturn, 1) := by decide +kernel
theorem dX12_cheapest_64 : decode cX12_cheapest 64 = .ok (.aload_n 0, 1) := by decide +kernel
theorem dX12_cheapest_65 : decode cX12_cheapest 65 = .ok (.getfield 95, 3) := by decide +kernel
theorem dX12_cheapest_68 : decode cX12_cheapest 68 = .ok (.iload 5, 2) := by decide +kernel
theorem dX12_cheapest_70 : decode cX12_cheapest 70 = .ok (.iaload, 1) := by decide +kernel
theorem dX12_cheapest_71 : decode cX12_cheapest 71 = .ok (.istore 6, 2) := by decide +kernel
theorem dX12_cheapest_73 : decode cX12_cheapest 73 = .ok (.aload_n 0, 1) := by decide +kernel
theorem dX12_cheapest_74 : decode cX12_cheapest 74 = .ok (.getfield 122, 3) := by decide +kernel
theorem dX12_cheapest_77 : decode cX12_cheapest 77 = .ok (.iload 6, 2) := by decide +kernel
theorem dX12_cheapest_79 : decode cX12_cheapest 79 = .ok (.iaload, 1) := by decide +kernel
theorem dX12_cheapest_80 : decode cX12_cheapest 80 = .ok (.iconst 1, 1) := by decide +kernel
theorem dX12_cheapest_81 : decode cX12_cheapest 81 = .ok (.iadd, 1) := by decide +kernel
theorem dX12_cheapest_82 : decode cX12_cheapest 82 = .ok (.istore 7, 2) := by decide +kernel
theorem dX12_cheapest_84 : decode cX12_cheapest 84 = .ok (.iload_n 3, 1) := by decide +kernel
theorem dX12_cheapest_85 : decode cX12_cheapest 85 = .ok (.bipush (-2), 2) := by decide +kernel
theorem dX12_cheapest_87 : decode cX12_cheapest 87 = .ok (.if_icmp .ne 24, 3) := by decide +kernel
theorem dX12_cheapest_90 : decode cX12_cheapest 90 = .ok (.aload_n 0, 1) := by decide +kernel
theorem dX12_cheapest_91 : decode cX12_cheapest 91 = .ok (.getfield 119, 3) := by decide +kernel
theorem dX12_cheapest_94 : decode cX12_cheapest 94 = .ok (.iload 6, 2) := by decide +kernel
theorem dX12_cheapest_96 : decode cX12_cheapest 96 = .ok (.iaload, 1) := by decide +kernel
theorem dX12_cheapest_97 : decode cX12_cheapest 97 = .ok (.aload_n 0, 1) := by decide +kernel
theorem dX12_cheapest_98 : decode cX12_cheapest 98 = .ok (.getfield 27, 3) := by decide +kernel
theorem dX12_cheapest_101 : decode cX12_cheapest 101 = .ok (.aload_n 0, 1) := by decide +kernel
theorem dX12_cheapest_102 : decode cX12_cheapest 102 = .ok (.getfield 80, 3) := by decide +kernel
theorem dX12_cheapest_105 : decode cX12_cheapest 105 = .ok (.iload 5, 2) := by decide +kernel
theorem dX12_cheapest_107 : decode cX12_cheapest 107 = .ok (.iaload, 1) := by decide +kernel
theorem dX12_cheapest_108 : decode cX12_cheapest 108 = .ok (.iaload, 1) := by decide +kernel
theorem dX12_cheapest_109 : decode cX12_cheapest 109 = .ok (.iadd, 1) := by decide +kernel
theorem dX12_cheapest_110 : decode cX12_cheapest 110 = .ok (.ireturn, 1) := by decide +kernel
theorem dX12_cheapest_111 : decode cX12_cheapest 111 = .ok (.iload_n 3, 1) := by decide +kernel
theorem dX12_cheapest_112 : decode cX12_cheapest 112 = .ok (.iconst (-1), 1) := by decide +kernel
theorem dX12_cheapest_113 : decode cX12_cheapest 113 = .ok (.if_icmp .ne 6, 3) := by decide +kernel
theorem dX12_cheapest_116 : decode cX12_cheapest 116 = .ok (.iload 7, 2) := by decide +kernel
theorem dX12_cheapest_118 : decode cX12_cheapest 118 = .ok (.ireturn, 1) := by decide +kernel
theorem dX12_cheapest_119 : decode cX12_cheapest 119 = .ok (.iload_n 3, 1) := by decide +kernel
theorem dX12_cheapest_120 : decode cX12_cheapest 120 = .ok (.iload 7, 2) := by decide +kernel
theorem dX12_cheapest_122 : decode cX12_cheapest 122 = .ok (.if_icmp .lt 5, 3) := by decide +kernel
theorem dX12_cheapest_125 : decode cX12_cheapest 125 = .ok (.iconst (-1), 1) := by decide +kernel
theorem dX12_cheapest_126 : decode cX12_cheapest 126 = .ok (.ireturn, 1) := by decide +kernel
theorem dX12_cheapest_127 : decode cX12_cheapest 127 = .ok (.iconst 0, 1) := by decide +kernel
theorem dX12_cheapest_128 : decode cX12_cheapest 128 = .ok (.istore 8, 2) := by decide +kernel
theorem dX12_cheapest_130 : decode cX12_cheapest 130 = .ok (.iload 8, 2) := by decide +kernel
theorem dX12_cheapest_132 : decode cX12_cheapest 132 = .ok (.iload_n 3, 1) := by decide +kernel
theorem dX12_cheapest_133 : decode cX12_cheapest 133 = .ok (.if_icmp .ge 32, 3) := by decide +kernel
theorem dX12_cheapest_136 : decode cX12_cheapest 136 = .ok (.aload_n 0, 1) := by decide +kernel
theorem dX12_cheapest_137 : decode cX12_cheapest 137 = .ok (.iload 6, 2) := by decide +kernel
theorem dX12_cheapest_139 : decode cX12_cheapest 139 = .ok (.invokevirtual 404, 3) := by decide +kernel
theorem dX12_cheapest_142 : decode cX12_cheapest 142 = .ok (.istore 5, 2) := by decide +kernel
theorem dX12_cheapest_144 : decode cX12_cheapest 144 = .ok (.aload_n 0, 1) := by decide +kernel
theorem dX12_cheapest_145 : decode cX12_cheapest 145 = .ok (.getfield 89, 3) := by decide +kernel
theorem dX12_cheapest_148 : decode cX12_cheapest 148 = .ok (.bipush 6, 2) := by decide +kernel
theorem dX12_cheapest_150 : decode cX12_cheapest 150 = .ok (.iload 6, 2) := by decide +kernel
theorem dX12_cheapest_152 : decode cX12_cheapest 152 = .ok (.imul, 1) := by decide +kernel
theorem dX12_cheapest_153 : decode cX12_cheapest 153 = .ok (.iload 5, 2) := by decide +kernel
theorem dX12_cheapest_155 : decode cX12_cheapest 155 = .ok (.iadd, 1) := by decide +kernel
theorem dX12_cheapest_156 : decode cX12_cheapest 156 = .ok (.iaload, 1) := by decide +kernel
theorem dX12_cheapest_157 : decode cX12_cheapest 157 = .ok (.istore 6, 2) := by decide +kernel
theorem dX12_cheapest_159 : decode cX12_cheapest 159 = .ok (.iinc 8 1, 3) := by decide +kernel
theorem dX12_cheapest_162 : decode cX12_cheapest 162 = .ok (.goto (-32), 3) := by decide +kernel
theorem dX12_cheapest_165 : decode cX12_cheapest 165 = .ok (.aload_n 0, 1) := by decide +kernel
theorem dX12_cheapest_166 : decode cX12_cheapest 166 = .ok (.getfield 80, 3) := by decide +kernel
theorem dX12_cheapest_169 : decode cX12_cheapest 169 = .ok (.iload 5, 2) := by decide +kernel
theorem dX12_cheapest_171 : decode cX12_cheapest 171 = .ok (.iaload, 1) := by decide +kernel
theorem dX12_cheapest_172 : decode cX12_cheapest 172 = .ok (.ireturn, 1) := by decide +kernel
def f_X12_cheapest_u22 (Q : Int → ml_St → Prop) (σ : ml_St) : Prop :=
Q (-1) σ
def f_X12_cheapest_u130 (Q : Int → ml_St → Prop) (K165 : ml_St → Int → Prop) : Nat → ml_St → Int → Int → Int → Int → Prop
| 0, _, _, _, _, _ => False
| N + 1, σ, x3, x5, x6, x8 =>
(x3 ≤ x8 →
K165 σ x5) ∧
(¬ (x3 ≤ x8) →
False)
def f_X12_cheapest_u165 (Q : Int → ml_St → Prop) (σ : ml_St) (x5 : Int) : Prop :=
(0 : Int) ≤ x5 ∧ (x5 : Int) < 6 ∧
∀ _ : I32 (σ 237 x5),
Q (σ 237 x5) σ
def f_X12_cheapest_u0 (Q : Int → ml_St → Prop) (σ : ml_St) (x1 : Int) (x2 : Int) (x3 : Int) : Prop :=
f_X12_isLetters σ x1 (fun r1 σ1 => ∀ _ : ml_B r1,
(r1 = 0 →
f_X12_cheapest_u22 Q σ1) ∧
(r1 ≠ 0 →
f_X12_isMade σ1 x2 (fun r3 σ3 => ∀ _ : ml_B r3,
(r3 = 0 →
f_X12_cheapest_u22 Q σ3) ∧
(r3 ≠ 0 →
((-2) ≤ x3 →
False) ∧
(¬ ((-2) ≤ x3) →
f_X12_cheapest_u22 Q σ3)))))
def f_X12_cheapest (σ : ml_St) (x1 : Int) (x2 : Int) (x3 : Int) (Q : Int → ml_St → Prop) : Prop := f_X12_cheapest_u0 Q σ x1 x2 x3
def rm_X12_cheapest : Room := { frames := 3, cells := 0, slots := 0, locals := 67 }
set_option maxRecDepth 100000 in
set_option maxHeartbeats 4000000 in
theorem u_X12_cheapest_22 {p : Program} {e : Env} {s : State} {m : MethodId} {args : Array Value} {below : List Frame} {meth : Method} {c : Code} {base : Nat} {D : va_G} {cA : Nat → ClassId} {n : Nat} {l : Launch} {Q : Int → ml_St → Prop} (X : ml_X p s m c meth args D cA cX12_cheapest 9 RX12 (some .int)) (hn : 256 ≤ n) (σ : ml_St) (ls : Array Slot) (hl : lv_has ls 9 []) (hw : f_X12_cheapest_u22 Q σ) : ml_V p l e rm_X12_cheapest s m args below meth c (MQ below (ml_Qi I32 base D cA n Q) args s 0 0 (ml_A base)) base D cA 0 0 n n σ (F0 m 22 ls []) := by
  unfold f_X12_cheapest_u22 at hw
  refine ml_iconst (pc := 22) X dX12_cheapest_22 ?_
  exact ml_iret (pc := 23) X ⟨by decide, by decide⟩ hw dX12_cheapest_23
set_option maxRecDepth 100000 in
set_option maxHeartbeats 4000000 in
theorem u_X12_cheapest_130 {p : Program} {e : Env} {s : State} {m : MethodId} {args : Array Value} {below : List Frame} {meth : Method} {c : Code} {base : Nat} {D : va_G} {cA : Nat → ClassId} {n : Nat} {l : Launch} {Q : Int → ml_St → Prop} {K165 : ml_St → Int → Prop} (X : ml_X p s m c meth args D cA cX12_cheapest 9 RX12 (some .int)) (hn : 256 ≤ n) (hK165 : ∀ (σ : ml_St) (x5 : Int) (h_x5 : I32 x5) (ls : Array Slot), lv_has ls 9 [(0, .ref (base + (215 : Int).toNat)), (5, .int (Int32.ofInt x5))] → K165 σ x5 → ml_V p l e rm_X12_cheapest s m args below meth c (MQ below (ml_Qi I32 base D cA n Q) args s 0 0 (ml_A base)) base D cA 0 0 n n σ (F0 m 165 ls [])) : ∀ (N : Nat) (σ : ml_St) (x3 : Int) (x5 : Int) (x6 : Int) (x8 : Int) (h_x3 : I32 x3) (h_x5 : I32 x5) (h_x6 : I32 x6) (h_x8 : I32 x8) (ls : Array Slot), lv_has ls 9 [(0, .ref (base + (215 : Int).toNat)), (3, .int (Int32.ofInt x3)), (5, .int (Int32.ofInt x5)), (6, .int (Int32.ofInt x6)), (8, .int (Int32.ofInt x8))] → f_X12_cheapest_u130 Q K165 N σ x3 x5 x6 x8 → ml_V p l e rm_X12_cheapest s m args below meth c (MQ below (ml_Qi I32 base D cA n Q) args s 0 0 (ml_A base)) base D cA 0 0 n n σ (F0 m 130 ls []) := by
  intro N
  induction N with
  | zero => intro σ x3 x5 x6 x8 h_x3 h_x5 h_x6 h_x8 ls hl hw; exact False.elim hw
  | succ N ih =>
    intro σ x3 x5 x6 x8 h_x3 h_x5 h_x6 h_x8 ls hl hw
    unfold f_X12_cheapest_u130 at hw
    refine ml_iload (pc := 130) X hl 4 rfl dX12_cheapest_130 ?_
    refine ml_iload_n (pc := 132) X hl 1 rfl rfl dX12_cheapest_132 ?_
    refine ml_icmp_ge (pc := 133) (tgt := 165) X h_x8 h_x3 dX12_cheapest_133 (by decide) (fun c1 => ?_) (fun c1 => ?_)
    · have hw := hw.1 c1
      exact hK165 σ x5 h_x5 _ (lv_sub hl [0, 2] rfl) hw
    · have hw := hw.2 c1
      refine ml_aload_n (pc := 136) X hl 0 rfl rfl dX12_cheapest_136 ?_
      refine ml_iload (pc := 137) X hl 3 rfl dX12_cheapest_137 ?_
      exact hw.elim
set_option maxRecDepth 100000 in
set_option maxHeartbeats 4000000 in
theorem u_X12_cheapest_165 {p : Program} {e : Env} {s : State} {m : MethodId} {args : Array Value} {below : List Frame} {meth : Method} {c : Code} {base : Nat} {D : va_G} {cA : Nat → ClassId} {n : Nat} {l : Launch} {Q : Int → ml_St → Prop} (X : ml_X p s m c meth args D cA cX12_cheapest 9 RX12 (some .int)) (hn : 256 ≤ n) (σ : ml_St) (x5 : Int) (h_x5 : I32 x5) (ls : Array Slot) (hl : lv_has ls 9 [(0, .ref (base + (215 : Int).toNat)), (5, .int (Int32.ofInt x5))]) (hw : f_X12_cheapest_u165 Q σ x5) : ml_V p l e rm_X12_cheapest s m args below meth c (MQ below (ml_Qi I32 base D cA n Q) args s 0 0 (ml_A base)) base D cA 0 0 n n σ (F0 m 165 ls []) := by
  unfold f_X12_cheapest_u165 at hw
  refine ml_aload_n (pc := 165) X hl 0 rfl rfl dX12_cheapest_165 ?_
  refine gf_X12_80 (pc := 166) X (ml_c215 hn) dX12_cheapest_166 ?_
  refine ml_iload (pc := 169) X hl 1 rfl dX12_cheapest_169 ?_
  obtain ⟨a1, b1, hw⟩ := hw
  refine ml_iald (pc := 171) (N := 6) X (ml_c237 hn) a1 b1 dX12_cheapest_171 (fun r1 => ?_)
  have hw := hw r1
  exact ml_iret (pc := 172) X r1 hw dX12_cheapest_172
set_option maxRecDepth 100000 in
set_option maxHeartbeats 4000000 in
theorem u_X12_cheapest_0 {p : Program} {e : Env} {s : State} {m : MethodId} {args : Array Value} {below : List Frame} {meth : Method} {c : Code} {base : Nat} {D : va_G} {cA : Nat → ClassId} {n : Nat} {l : Launch} {Q : Int → ml_St → Prop} (X : ml_X p s m c meth args D cA cX12_cheapest 9 RX12 (some .int)) (hn : 256 ≤ n) (σ : ml_St) (x1 : Int) (x2 : Int) (x3 : Int) (h_x1 : I32 x1) (h_x2 : I32 x2) (h_x3 : I32 x3) (ls : Array Slot) (hl : lv_has ls 9 [(0, .ref (base + (215 : Int).toNat)), (1, .int (Int32.ofInt x1)), (2, .int (Int32.ofInt x2)), (3, .int (Int32.ofInt x3))]) (hw : f_X12_cheapest_u0 Q σ x1 x2 x3) : ml_V p l e rm_X12_cheapest s m args below meth c (MQ below (ml_Qi I32 base D cA n Q) args s 0 0 (ml_A base)) base D cA 0 0 n n σ (F0 m 0 ls []) := by
  unfold f_X12_cheapest_u0 at hw
  refine ml_aload_n (pc := 0) X hl 0 rfl rfl dX12_cheapest_0 ?_
  refine ml_iload_n (pc := 1) X hl 1 rfl rfl dX12_cheapest_1 ?_
  refine ml_callzV (pc := 2) (rest := []) X [.int (Int32.ofInt x1)] (by decide) rfl (ml_c215 hn) (c_X12_isLetters l base D cA n hn σ x1 h_x1 _ hw) cv_X12_379 ⟨rfl, rfl⟩ ⟨by decide, by decide⟩ rfl rfl hl (Nat.le_of_ble_eq_true rfl) ⟨Nat.zero_le _, Nat.zero_le _⟩ dX12_cheapest_2 (fun r1 σ1 t1 hw => ?_)
  have hw := hw t1
  refine ml_if_eq (pc := 5) (tgt := 22) X t1.i dX12_cheapest_5 (by decide) (fun c2 => ?_) (fun c2 => ?_)
  · have hw := hw.1 c2
    exact u_X12_cheapest_22 X hn σ1   _ (lv_sub hl [] rfl) hw
  · have hw := hw.2 c2
    refine ml_aload_n (pc := 8) X hl 0 rfl rfl dX12_cheapest_8 ?_
    refine ml_iload_n (pc := 9) X hl 2 rfl rfl dX12_cheapest_9 ?_
    refine ml_callzV (pc := 10) (rest := []) X [.int (Int32.ofInt x2)] (by decide) rfl (ml_c215 hn) (c_X12_isMade l base D cA n hn σ1 x2 h_x2 _ hw) cv_X12_292 ⟨rfl, rfl⟩ ⟨by decide, by decide⟩ rfl rfl hl (Nat.le_of_ble_eq_true rfl) ⟨Nat.zero_le _, Nat.zero_le _⟩ dX12_cheapest_10 (fun r3 σ3 t3 hw => ?_)
    have hw := hw t3
    refine ml_if_eq (pc := 13) (tgt := 22) X t3.i dX12_cheapest_13 (by decide) (fun c4 => ?_) (fun c4 => ?_)
    · have hw := hw.1 c4
      exact u_X12_cheapest_22 X hn σ3   _ (lv_sub hl [] rfl) hw
    · have hw := hw.2 c4
      refine ml_iload_n (pc := 16) X hl 3 rfl rfl dX12_cheapest_16 ?_
      refine ml_bipush (pc := 17) X dX12_cheapest_17 (by decide) ?_
      refine ml_icmp_ge (pc := 19) (tgt := 24) X h_x3 ⟨by decide, by decide⟩ dX12_cheapest_19 (by decide) (fun c5 => ?_) (fun c5 => ?_)
      · have hw := hw.1 c5
        refine ml_aload_n (pc := 24) X hl 0 rfl rfl dX12_cheapest_24 ?_
        exact hw.elim
      · have hw := hw.2 c5
        exact u_X12_cheapest_22 X hn σ3   _ (lv_sub hl [] rfl) hw
set_option maxRecDepth 100000 in
theorem c_X12_cheapest (l : Launch) (base : Nat) (D : va_G) (cA : Nat → ClassId) (n : Nat) (hn : 256 ≤ n) (σ : ml_St) (x1 : Int) (x2 : Int) (x3 : Int) (h_x1 : I32 x1) (h_x2 : I32 x2) (h_x3 : I32 x3) (Q : Int → ml_St → Prop) (hw : f_X12_cheapest σ x1 x2 x3 Q) : Met l yX12_cheapest (Cond.code yX12_cheapest cX12_cheapest 9 (some .int) :: ml_T) rm_X12_cheapest (va_Pc [.ref (base + (215 : Int).toNat), .int (Int32.ofInt x1), .int (Int32.ofInt x2), .int (Int32.ofInt x3)] (ml_U base D cA n σ)) (ml_Qi I32 base D cA n Q) 0 0 (ml_A base) := by
  refine Met.ofW (cc := cX12_cheapest) (maxL := 9) (ret := (some .int)) (by decide) rfl ?_
  intro p e s m args below meth c s₁ B hml hv
  obtain ⟨rfl, hP, hK, hok, hro⟩ := hv
  have X : ml_X p s m c meth _ D cA cX12_cheapest 9 RX12 (some .int) := ⟨B.exec, B.bytes, hml, findClass_of_methodNamed B.named, fun w hw => atoms_spec (ws := Cond.code yX12_cheapest cX12_cheapest 9 (some .int) :: ml_T) B.pre w (List.mem_cons_of_mem _ hw), hK, B.notSynchronized, B.returns⟩
  have hl := lv_entry [.ref (base + (215 : Int).toNat), .int (Int32.ofInt x1), .int (Int32.ofInt x2), .int (Int32.ofInt x3)] (n := 9) (Nat.le_of_ble_eq_true rfl)
  rw [lg_entry_eq]
  generalize (lg_sl [.ref (base + (215 : Int).toNat), .int (Int32.ofInt x1), .int (Int32.ofInt x2), .int (Int32.ofInt x3)] ++ List.replicate (9 - (lg_sl [.ref (base + (215 : Int).toNat), .int (Int32.ofInt x1), .int (Int32.ofInt x2), .int (Int32.ofInt x3)]).length) Slot.unset).toArray = ls at hl ⊢
  have hl : lv_has ls 9 [(0, .ref (base + (215 : Int).toNat)), (1, .int (Int32.ofInt x1)), (2, .int (Int32.ofInt x2)), (3, .int (Int32.ofInt x3))] := hl
  unfold f_X12_cheapest at hw
  exact u_X12_cheapest_0 X hn σ x1 x2 x3 h_x1 h_x2 h_x3 _ (lv_sub hl [0, 1, 2, 3] rfl) hw s.heap [] hP va_S.rf hok hro
theorem dX12_mend_0 : decode cX12_mend 0 = .ok (.aload_n 0, 1) := by decide +kernel
theorem dX12_mend_1 : decode cX12_mend 1 = .ok (.iload_n 1, 1) := by decide +kernel
theorem dX12_mend_2 : decode cX12_mend 2 = .ok (.invokevirtual 287, 3) := by decide +kernel
theorem dX12_mend_5 : decode cX12_mend 5 = .ok (.ifCond .eq 22, 3) := by decide +kernel
theorem dX12_mend_8 : decode cX12_mend 8 = .ok (.aload_n 0, 1) := by decide +kernel
theorem dX12_mend_9 : decode cX12_mend 9 = .ok (.iload_n 1, 1) := by decide +kernel
theorem dX12_mend_10 : decode cX12_mend 10 = .ok (.invokevirtual 358, 3) := by decide +kernel
theorem dX12_mend_13 : decode cX12_mend 13 = .ok (.ifCond .eq 14, 3) := by decide +kernel
theorem dX12_mend_16 : decode cX12_mend 16 = .ok (.aload_n 0, 1) := by decide +kernel
theorem dX12_mend_17 : decode cX12_mend 17 = .ok (.getfield 24, 3) := by decide +kernel
theorem dX12_mend_20 : decode cX12_mend 20 = .ok (.iload_n 1, 1) := by decide +kernel
theorem dX12_mend_21 : decode cX12_mend 21 = .ok (.iaload, 1) := by decide +kernel
theorem dX12_mend_22 : decode cX12_mend 22 = .ok (.bipush 20, 2) := by decide +kernel
theorem dX12_mend_24 : decode cX12_mend 24 = .ok (.if_icmp .le 5, 3) := by decide +kernel
theorem dX12_mend_27 : decode cX12_mend 27 = .ok (.iconst (-1), 1) := by decide +kernel
theorem dX12_mend_28 : decode cX12_mend 28 = .ok (.ireturn, 1) := by decide +kernel
theorem dX12_mend_29 : decode cX12_mend 29 = .ok (.aload_n 0, 1) := by decide +kernel
theorem dX12_mend_30 : decode cX12_mend 30 = .ok (.getfield 24, 3) := by decide +kernel
theorem dX12_mend_33 : decode cX12_mend 33 = .ok (.iload_n 1, 1) := by decide +kernel
theorem dX12_mend_34 : decode cX12_mend 34 = .ok (.iaload, 1) := by decide +kernel
theorem dX12_mend_35 : decode cX12_mend 35 = .ok (.iconst 2, 1) := by decide +kernel
theorem dX12_mend_36 : decode cX12_mend 36 = .ok (.idiv, 1) := by decide +kernel
theorem dX12_mend_37 : decode cX12_mend 37 = .ok (.istore_n 2, 1) := by decide +kernel
theorem dX12_mend_38 : decode cX12_mend 38 = .ok (.iconst 0, 1) := by decide +kernel
theorem dX12_mend_39 : decode cX12_mend 39 = .ok (.istore_n 3, 1) := by decide +kernel
theorem dX12_mend_40 : decode cX12_mend 40 = .ok (.iload_n 3, 1) := by decide +kernel
theorem dX12_mend_41 : decode cX12_mend 41 = .ok (.iload_n 2, 1) := by decide +kernel
theorem dX12_mend_42 : decode cX12_mend 42 = .ok (.if_icmp .ge 62, 3) := by decide +kernel
theorem dX12_mend_45 : decode cX12_mend 45 = .ok (.aload_n 0, 1) := by decide +kernel
theorem dX12_mend_46 : decode cX12_mend 46 = .ok (.getfield 125, 3) := by decide +kernel
theorem dX12_mend_49 : decode cX12_mend 49 = .ok (.iload_n 3, 1) := by decide +kernel
theorem dX12_mend_50 : decode cX12_mend 50 = .ok (.aload_n 0, 1) := by decide +kernel
theorem dX12_mend_51 : decode cX12_mend 51 = .ok (.getfield 21, 3) := by decide +kernel
theorem dX12_mend_54 : decode cX12_mend 54 = .ok (.bipush 100, 2) := by decide +kernel
theorem dX12_mend_56 : decode cX12_mend 56 = .ok (.iload_n 1, 1) := by decide +kernel
theorem dX12_mend_57 : decode cX12_mend 57 = .ok (.imul, 1) := by decide +kernel
theorem dX12_mend_58 : decode cX12_mend 58 = .ok (.iconst 2, 1) := by decide +kernel
theorem dX12_mend_59 : decode cX12_mend 59 = .ok (.iload_n 3, 1) := by decide +kernel
theorem dX12_mend_60 : decode cX12_mend 60 = .ok (.imul, 1) := by decide +kernel
theorem dX12_mend_61 : decode cX12_mend 61 = .ok (.iadd, 1) := by decide +kernel
theorem dX12_mend_62 : decode cX12_mend 62 = .ok (.baload, 1) := by decide +kernel
theorem dX12_mend_63 : decode cX12_mend 63 = .ok (.bipush 120, 2) := by decide +kernel
theorem dX12_mend_65 : decode cX12_mend 65 = .ok (.if_icmp .ne 7, 3) := by decide +kernel
theorem dX12_mend_68 : decode cX12_mend 68 = .ok (.iconst 1, 1) := by decide +kernel
theorem dX12_mend_69 : decode cX12_mend 69 = .ok (.goto 4, 3) := by decide +kernel
theorem dX12_mend_72 : decode cX12_mend 72 = .ok (.iconst 0, 1) := by decide +kernel
theorem dX12_mend_73 : decode cX12_mend 73 = .ok (.iastore, 1) := by decide +kernel
theorem dX12_mend_74 : decode cX12_mend 74 = .ok (.aload_n 0, 1) := by decide +kernel
theorem dX12_mend_75 : decode cX12_mend 75 = .ok (.getfield 128, 3) := by decide +kernel
theorem dX12_mend_78 : decode cX12_mend 78 = .ok (.iload_n 3, 1) := by decide +kernel
theorem dX12_mend_79 : decode cX12_mend 79 = .ok (.aload_n 0, 1) := by decide +kernel
theorem dX12_mend_80 : decode cX12_mend 80 = .ok (.getfield 21, 3) := by decide +kernel
theorem dX12_mend_83 : decode cX12_mend 83 = .ok (.bipush 100, 2) := by decide +kernel
theorem dX12_mend_85 : decode cX12_mend 85 = .ok (.iload_n 1, 1) := by decide +kernel
theorem dX12_mend_86 : decode cX12_mend 86 = .ok (.imul, 1) := by decide +kernel
theorem dX12_mend_87 : decode cX12_mend 87 = .ok (.iconst 2, 1) := by decide +kernel
theorem dX12_mend_88 : decode cX12_mend 88 = .ok (.iload_n 3, 1) := by decide +kernel
theorem dX12_mend_89 : decode cX12_mend 89 = .ok (.imul, 1) := by decide +kernel
theorem dX12_mend_90 : decode cX12_mend 90 = .ok (.iadd, 1) := by decide +kernel
theorem dX12_mend_91 : decode cX12_mend 91 = .ok (.iconst 1, 1) := by decide +kernel
theorem dX12_mend_92 : decode cX12_mend 92 = .ok (.iadd, 1) := by decide +kernel
theorem dX12_mend_93 : decode cX12_mend 93 = .ok (.baload, 1) := by decide +kernel
theorem dX12_mend_94 : decode cX12_mend 94 = .ok (.bipush 48, 2) := by decide +kernel
theorem dX12_mend_96 : decode cX12_mend 96 = .ok (.isub, 1) := by decide +kernel
theorem dX12_mend_97 : decode cX12_mend 97 = .ok (.iastore, 1) := by decide +kernel
theorem dX12_mend_98 : decode cX12_mend 98 = .ok (.iinc 3 1, 3) := by decide +kernel
theorem dX12_mend_101 : decode cX12_mend 101 = .ok (.goto (-61), 3) := by decide +kernel
theorem dX12_mend_104 : decode cX12_mend 104 = .ok (.bipush (-2), 2) := by decide +kernel
theorem dX12_mend_106 : decode cX12_mend 106 = .ok (.istore_n 3, 1) := by decide +kernel
theorem dX12_mend_107 : decode cX12_mend 107 = .ok (.iconst 0, 1) := by decide +kernel
theorem dX12_mend_108 : decode cX12_mend 108 = .ok (.istore 4, 2) := by decide +kernel
theorem dX12_mend_110 : decode cX12_mend 110 = .ok (.iload 4, 2) := by decide +kernel
theorem dX12_mend_112 : decode cX12_mend 112 = .ok (.iconst 1, 1) := by decide +kernel
theorem dX12_mend_113 : decode cX12_mend 113 = .ok (.iload_n 2, 1) := by decide +kernel
theorem dX12_mend_114 : decode cX12_mend 114 = .ok (.ishl, 1) := by decide +kernel
theorem dX12_mend_115 : decode cX12_mend 115 = .ok (.if_icmp .ge 38, 3) := by decide +kernel
theorem dX12_mend_118 : decode cX12_mend 118 = .ok (.iload_n 3, 1) := by decide +kernel
theorem dX12_mend_119 : decode cX12_mend 119 = .ok (.ifCond .lt 15, 3) := by decide +kernel
theorem dX12_mend_122 : decode cX12_mend 122 = .ok (.iload 4, 2) := by decide +kernel
theorem dX12_mend_124 : decode cX12_mend 124 = .ok (.invokestatic 407, 3) := by decide +kernel
theorem dX12_mend_127 : decode cX12_mend 127 = .ok (.iload_n 3, 1) := by decide +kernel
theorem dX12_mend_128 : decode cX12_mend 128 = .ok (.invokestatic 407, 3) := by decide +kernel
theorem dX12_mend_131 : decode cX12_mend 131 = .ok (.if_icmp .ge 16, 3) := by decide +kernel
theorem dX12_mend_134 : decode cX12_mend 134 = .ok (.aload_n 0, 1) := by decide +kernel
theorem dX12_mend_135 : decode cX12_mend 135 = .ok (.iload_n 2, 1) := by decide +kernel
theorem dX12_mend_136 : decode cX12_mend 136 = .ok (.iload 4, 2) := by decide +kernel
theorem dX12_mend_138 : decode cX12_mend 138 = .ok (.invokevirtual 410, 3) := by decide +kernel
theorem dX12_mend_141 : decode cX12_mend 141 = .ok (.ifCond .eq 6, 3) := by decide +kernel
theorem dX12_mend_144 : decode cX12_mend 144 = .ok (.iload 4, 2) := by decide +kernel
theorem dX12_mend_146 : decode cX12_mend 146 = .ok (.istore_n 3, 1) := by decide +kernel
theorem dX12_mend_147 : decode cX12_mend 147 = .ok (.iinc 4 1, 3) := by decide +kernel
theorem dX12_mend_150 : decode cX12_mend 150 = .ok (.goto (-40), 3) := by decide +kernel
theorem dX12_mend_153 : decode cX12_mend 153 = .ok (.iload_n 3, 1) := by decide +kernel
theorem dX12_mend_154 : decode cX12_mend 154 = .ok (.ireturn, 1) := by decide +kernel
def f_X12_mend_u27 (Q : Int → ml_St → Prop) (σ : ml_St) : Prop :=
Q (-1) σ
def f_X12_mend_u73 (Q : Int → ml_St → Prop) (K40 : ml_St → Int → Int → Int → Prop) (σ : ml_St) (x1 : Int) (x2 : Int) (x3 : Int) (s1 : Int) (s2 : Int) : Prop :=
(0 : Int) ≤ s1 ∧ (s1 : Int) < 10 ∧
∀ σ1, σ1 = ml_up σ 252 s1 s2 →
I32 (100 * x1) ∧
I32 (2 * x3) ∧
I32 ((100 * x1) + (2 * x3)) ∧
I32 (((100 * x1) + (2 * x3)) + 1) ∧
(0 : Int) ≤ (((100 * x1) + (2 * x3)) + 1) ∧ ((((100 * x1) + (2 * x3)) + 1) : Int) < 1600 ∧
∀ _ : ml_I8 (σ1 218 (((100 * x1) + (2 * x3)) + 1)),
I32 ((σ1 218 (((100 * x1) + (2 * x3)) + 1)) - 48) ∧
(0 : Int) ≤ x3 ∧ (x3 : Int) < 10 ∧
∀ σ8, σ8 = ml_up σ1 253 x3 ((σ1 218 (((100 * x1) + (2 * x3)) + 1)) - 48) →
I32 (x3 + 1) ∧
∀ y9 : Int, y9 = x3 + 1 →
K40 σ8 x1 x2 y9
def f_X12_mend_u40 (Q : Int → ml_St → Prop) (K104 : ml_St → Int → Prop) : Nat → ml_St → Int → Int → Int → Prop
| 0, _, _, _, _ => False
| N + 1, σ, x1, x2, x3 =>
(x2 ≤ x3 →
K104 σ x2) ∧
(¬ (x2 ≤ x3) →
I32 (100 * x1) ∧
I32 (2 * x3) ∧
I32 ((100 * x1) + (2 * x3)) ∧
(0 : Int) ≤ ((100 * x1) + (2 * x3)) ∧ (((100 * x1) + (2 * x3)) : Int) < 1600 ∧
∀ _ : ml_I8 (σ 218 ((100 * x1) + (2 * x3))),
(((σ 218 ((100 * x1) + (2 * x3))) : Int) ≠ 120 →
f_X12_mend_u73 Q (f_X12_mend_u40 Q K104 N) σ x1 x2 x3 x3 0) ∧
((σ 218 ((100 * x1) + (2 * x3))) = 120 →
f_X12_mend_u73 Q (f_X12_mend_u40 Q K104 N) σ x1 x2 x3 x3 1))
def f_X12_mend_u147 (Q : Int → ml_St → Prop) (K110 : ml_St → Int → Int → Int → Prop) (σ : ml_St) (x2 : Int) (x3 : Int) (x4 : Int) : Prop :=
I32 (x4 + 1) ∧
∀ y1 : Int, y1 = x4 + 1 →
K110 σ x2 x3 y1
def f_X12_mend_u134 (Q : Int → ml_St → Prop) (K110 : ml_St → Int → Int → Int → Prop) (σ : ml_St) (x2 : Int) (x3 : Int) (x4 : Int) : Prop :=
False
def f_X12_mend_u110 (Q : Int → ml_St → Prop) (K153 : ml_St → Int → Prop) : Nat → ml_St → Int → Int → Int → Prop
| 0, _, _, _, _ => False
| N + 1, σ, x2, x3, x4 =>
((b_shl 1 x2) ≤ x4 →
K153 σ x3) ∧
(¬ ((b_shl 1 x2) ≤ x4) →
(x3 < 0 →
f_X12_mend_u134 Q (f_X12_mend_u110 Q K153 N) σ x2 x3 x4) ∧
(¬ (x3 < 0) →
False))
def f_X12_mend_u153 (Q : Int → ml_St → Prop) (σ : ml_St) (x3 : Int) : Prop :=
Q x3 σ
def f_X12_mend_u104 (Q : Int → ml_St → Prop) (σ : ml_St) (x2 : Int) : Prop :=
∃ N1, f_X12_mend_u110 Q (f_X12_mend_u153 Q) N1 σ x2 (-2) 0
def f_X12_mend_u0 (Q : Int → ml_St → Prop) (σ : ml_St) (x1 : Int) : Prop :=
f_X12_isWord σ x1 (fun r1 σ1 => ∀ _ : ml_B r1,
(r1 = 0 →
f_X12_mend_u27 Q σ1) ∧
(r1 ≠ 0 →
False))
def f_X12_mend (σ : ml_St) (x1 : Int) (Q : Int → ml_St → Prop) : Prop := f_X12_mend_u0 Q σ x1
def rm_X12_mend : Room := { frames := 2, cells := 0, slots := 0, locals := 46 }
set_option maxRecDepth 100000 in
set_option maxHeartbeats 4000000 in
theorem u_X12_mend_27 {p : Program} {e : Env} {s : State} {m : MethodId} {args : Array Value} {below : List Frame} {meth : Method} {c : Code} {base : Nat} {D : va_G} {cA : Nat → ClassId} {n : Nat} {l : Launch} {Q : Int → ml_St → Prop} (X : ml_X p s m c meth args D cA cX12_mend 5 RX12 (some .int)) (hn : 256 ≤ n) (σ : ml_St) (ls : Array Slot) (hl : lv_has ls 5 []) (hw : f_X12_mend_u27 Q σ) : ml_V p l e rm_X12_mend s m args below meth c (MQ below (ml_Qi I32 base D cA n Q) args s 0 0 (ml_A base)) base D cA 0 0 n n σ (F0 m 27 ls []) := by
  unfold f_X12_mend_u27 at hw
  refine ml_iconst (pc := 27) X dX12_mend_27 ?_
  exact ml_iret (pc := 28) X ⟨by decide, by decide⟩ hw dX12_mend_28
set_option maxRecDepth 100000 in
set_option maxHeartbeats 4000000 in
theorem u_X12_mend_73 {p : Program} {e : Env} {s : State} {m : MethodId} {args : Array Value} {below : List Frame} {meth : Method} {c : Code} {base : Nat} {D : va_G} {cA : Nat → ClassId} {n : Nat} {l : Launch} {Q : Int → ml_St → Prop} {K40 : ml_St → Int → Int → Int → Prop} (X : ml_X p s m c meth args D cA cX12_mend 5 RX12 (some .int)) (hn : 256 ≤ n) (hK40 : ∀ (σ : ml_St) (x1 : Int) (x2 : Int) (x3 : Int) (h_x1 : I32 x1) (h_x2 : I32 x2) (h_x3 : I32 x3) (ls : Array Slot), lv_has ls 5 [(0, .ref (base + (215 : Int).toNat)), (1, .int (Int32.ofInt x1)), (2, .int (Int32.ofInt x2)), (3, .int (Int32.ofInt x3))] → K40 σ x1 x2 x3 → ml_V p l e rm_X12_mend s m args below meth c (MQ below (ml_Qi I32 base D cA n Q) args s 0 0 (ml_A base)) base D cA 0 0 n n σ (F0 m 40 ls [])) (σ : ml_St) (x1 : Int) (x2 : Int) (x3 : Int) (s1 : Int) (s2 : Int) (h_x1 : I32 x1) (h_x2 : I32 x2) (h_x3 : I32 x3) (h_s1 : I32 s1) (h_s2 : ml_B s2) (ls : Array Slot) (hl : lv_has ls 5 [(0, .ref (base + (215 : Int).toNat)), (1, .int (Int32.ofInt x1)), (2, .int (Int32.ofInt x2)), (3, .int (Int32.ofInt x3))]) (hw : f_X12_mend_u73 Q K40 σ x1 x2 x3 s1 s2) : ml_V p l e rm_X12_mend s m args below meth c (MQ below (ml_Qi I32 base D cA n Q) args s 0 0 (ml_A base)) base D cA 0 0 n n σ (F0 m 73 ls [.int (Int32.ofInt s2), .int (Int32.ofInt s1), .ref (base + (252 : Int).toNat)]) := by
  unfold f_X12_mend_u73 at hw
  obtain ⟨a1, b1, hw⟩ := hw
  refine ml_iast (pc := 73) (N := 10) X (ml_c252 hn) a1 b1 h_s2.i dX12_mend_73 (fun σ1 g1 => ?_)
  have hw := hw σ1 g1
  refine ml_aload_n (pc := 74) X hl 0 rfl rfl dX12_mend_74 ?_
  refine gf_X12_128 (pc := 75) X (ml_c215 hn) dX12_mend_75 ?_
  refine ml_iload_n (pc := 78) X hl 3 rfl rfl dX12_mend_78 ?_
  refine ml_aload_n (pc := 79) X hl 0 rfl rfl dX12_mend_79 ?_
  refine gf_X12_21 (pc := 80) X (ml_c215 hn) dX12_mend_80 ?_
  refine ml_bipush (pc := 83) X dX12_mend_83 (by decide) ?_
  refine ml_iload_n (pc := 85) X hl 1 rfl rfl dX12_mend_85 ?_
  obtain ⟨v2, hw⟩ := hw
  refine ml_imul (pc := 86) X dX12_mend_86 ?_
  refine ml_iconst (pc := 87) X dX12_mend_87 ?_
  refine ml_iload_n (pc := 88) X hl 3 rfl rfl dX12_mend_88 ?_
  obtain ⟨v3, hw⟩ := hw
  refine ml_imul (pc := 89) X dX12_mend_89 ?_
  obtain ⟨v4, hw⟩ := hw
  refine ml_iadd (pc := 90) X dX12_mend_90 ?_
  refine ml_iconst (pc := 91) X dX12_mend_91 ?_
  obtain ⟨v5, hw⟩ := hw
  refine ml_iadd (pc := 92) X dX12_mend_92 ?_
  obtain ⟨a6, b6, hw⟩ := hw
  refine ml_bald (pc := 93) (N := 1600) X (ml_c218 hn) a6 b6 dX12_mend_93 (fun r6 => ?_)
  have hw := hw r6
  refine ml_bipush (pc := 94) X dX12_mend_94 (by decide) ?_
  obtain ⟨v7, hw⟩ := hw
  refine ml_isub (pc := 96) X dX12_mend_96 ?_
  obtain ⟨a8, b8, hw⟩ := hw
  refine ml_iast (pc := 97) (N := 10) X (ml_c253 hn) a8 b8 v7 dX12_mend_97 (fun σ8 g8 => ?_)
  have hw := hw σ8 g8
  obtain ⟨v9, hw⟩ := hw
  obtain ⟨y9, e9⟩ : ∃ y : Int, y = x3 + 1 := ⟨_, rfl⟩
  have hw := hw y9 e9
  rw [← e9] at v9
  refine ml_iinc (pc := 98) X e9 hl 3 rfl (by decide) (lst' := [(3, .int (Int32.ofInt y9)), (0, .ref (base + (215 : Int).toNat)), (1, .int (Int32.ofInt x1)), (2, .int (Int32.ofInt x2))]) rfl dX12_mend_98 (fun ls hl => ?_)
  refine ml_goto (pc := 101) (tgt := 40) X dX12_mend_101 (by decide) ?_
  exact hK40 σ8 x1 x2 y9 h_x1 h_x2 v9 _ (lv_sub hl [1, 2, 3, 0] rfl) hw
set_option maxRecDepth 100000 in
set_option maxHeartbeats 4000000 in
theorem u_X12_mend_40 {p : Program} {e : Env} {s : State} {m : MethodId} {args : Array Value} {below : List Frame} {meth : Method} {c : Code} {base : Nat} {D : va_G} {cA : Nat → ClassId} {n : Nat} {l : Launch} {Q : Int → ml_St → Prop} {K104 : ml_St → Int → Prop} (X : ml_X p s m c meth args D cA cX12_mend 5 RX12 (some .int)) (hn : 256 ≤ n) (hK104 : ∀ (σ : ml_St) (x2 : Int) (h_x2 : I32 x2) (ls : Array Slot), lv_has ls 5 [(0, .ref (base + (215 : Int).toNat)), (2, .int (Int32.ofInt x2))] → K104 σ x2 → ml_V p l e rm_X12_mend s m args below meth c (MQ below (ml_Qi I32 base D cA n Q) args s 0 0 (ml_A base)) base D cA 0 0 n n σ (F0 m 104 ls [])) : ∀ (N : Nat) (σ : ml_St) (x1 : Int) (x2 : Int) (x3 : Int) (h_x1 : I32 x1) (h_x2 : I32 x2) (h_x3 : I32 x3) (ls : Array Slot), lv_has ls 5 [(0, .ref (base + (215 : Int).toNat)), (1, .int (Int32.ofInt x1)), (2, .int (Int32.ofInt x2)), (3, .int (Int32.ofInt x3))] → f_X12_mend_u40 Q K104 N σ x1 x2 x3 → ml_V p l e rm_X12_mend s m args below meth c (MQ below (ml_Qi I32 base D cA n Q) args s 0 0 (ml_A base)) base D cA 0 0 n n σ (F0 m 40 ls []) := by
  intro N
  induction N with
  | zero => intro σ x1 x2 x3 h_x1 h_x2 h_x3 ls hl hw; exact False.elim hw
  | succ N ih =>
    intro σ x1 x2 x3 h_x1 h_x2 h_x3 ls hl hw
    unfold f_X12_mend_u40 at hw
    refine ml_iload_n (pc := 40) X hl 3 rfl rfl dX12_mend_40 ?_
    refine ml_iload_n (pc := 41) X hl 2 rfl rfl dX12_mend_41 ?_
    refine ml_icmp_ge (pc := 42) (tgt := 104) X h_x3 h_x2 dX12_mend_42 (by decide) (fun c1 => ?_) (fun c1 => ?_)
    · have hw := hw.1 c1
      exact hK104 σ x2 h_x2 _ (lv_sub hl [0, 2] rfl) hw
    · have hw := hw.2 c1
      refine ml_aload_n (pc := 45) X hl 0 rfl rfl dX12_mend_45 ?_
      refine gf_X12_125 (pc := 46) X (ml_c215 hn) dX12_mend_46 ?_
      refine ml_iload_n (pc := 49) X hl 3 rfl rfl dX12_mend_49 ?_
      refine ml_aload_n (pc := 50) X hl 0 rfl rfl dX12_mend_50 ?_
      refine gf_X12_21 (pc := 51) X (ml_c215 hn) dX12_mend_51 ?_
      refine ml_bipush (pc := 54) X dX12_mend_54 (by decide) ?_
      refine ml_iload_n (pc := 56) X hl 1 rfl rfl dX12_mend_56 ?_
      obtain ⟨v2, hw⟩ := hw
      refine ml_imul (pc := 57) X dX12_mend_57 ?_
      refine ml_iconst (pc := 58) X dX12_mend_58 ?_
      refine ml_iload_n (pc := 59) X hl 3 rfl rfl dX12_mend_59 ?_
      obtain ⟨v3, hw⟩ := hw
      refine ml_imul (pc := 60) X dX12_mend_60 ?_
      obtain ⟨v4, hw⟩ := hw
      refine ml_iadd (pc := 61) X dX12_mend_61 ?_
      obtain ⟨a5, b5, hw⟩ := hw
      refine ml_bald (pc := 62) (N := 1600) X (ml_c218 hn) a5 b5 dX12_mend_62 (fun r5 => ?_)
      have hw := hw r5
      refine ml_bipush (pc := 63) X dX12_mend_63 (by decide) ?_
      refine ml_icmp_ne (pc := 65) (tgt := 72) X r5.i ⟨by decide, by decide⟩ dX12_mend_65 (by decide) (fun c6 => ?_) (fun c6 => ?_)
      · have hw := hw.1 c6
        refine ml_iconst (pc := 72) X dX12_mend_72 ?_
        exact u_X12_mend_73 X hn ih σ x1 x2 x3 x3 0 h_x1 h_x2 h_x3 h_x3 ⟨by decide, by decide⟩ _ (lv_sub hl [0, 1, 2, 3] rfl) hw
      · have hw := hw.2 c6
        refine ml_iconst (pc := 68) X dX12_mend_68 ?_
        refine ml_goto (pc := 69) (tgt := 73) X dX12_mend_69 (by decide) ?_
        exact u_X12_mend_73 X hn ih σ x1 x2 x3 x3 1 h_x1 h_x2 h_x3 h_x3 ⟨by decide, by decide⟩ _ (lv_sub hl [0, 1, 2, 3] rfl) hw
set_option maxRecDepth 100000 in
set_option maxHeartbeats 4000000 in
theorem u_X12_mend_147 {p : Program} {e : Env} {s : State} {m : MethodId} {args : Array Value} {below : List Frame} {meth : Method} {c : Code} {base : Nat} {D : va_G} {cA : Nat → ClassId} {n : Nat} {l : Launch} {Q : Int → ml_St → Prop} {K110 : ml_St → Int → Int → Int → Prop} (X : ml_X p s m c meth args D cA cX12_mend 5 RX12 (some .int)) (hn : 256 ≤ n) (hK110 : ∀ (σ : ml_St) (x2 : Int) (x3 : Int) (x4 : Int) (h_x2 : I32 x2) (h_x3 : I32 x3) (h_x4 : I32 x4) (ls : Array Slot), lv_has ls 5 [(0, .ref (base + (215 : Int).toNat)), (2, .int (Int32.ofInt x2)), (3, .int (Int32.ofInt x3)), (4, .int (Int32.ofInt x4))] → K110 σ x2 x3 x4 → ml_V p l e rm_X12_mend s m args below meth c (MQ below (ml_Qi I32 base D cA n Q) args s 0 0 (ml_A base)) base D cA 0 0 n n σ (F0 m 110 ls [])) (σ : ml_St) (x2 : Int) (x3 : Int) (x4 : Int) (h_x2 : I32 x2) (h_x3 : I32 x3) (h_x4 : I32 x4) (ls : Array Slot) (hl : lv_has ls 5 [(0, .ref (base + (215 : Int).toNat)), (2, .int (Int32.ofInt x2)), (3, .int (Int32.ofInt x3)), (4, .int (Int32.ofInt x4))]) (hw : f_X12_mend_u147 Q K110 σ x2 x3 x4) : ml_V p l e rm_X12_mend s m args below meth c (MQ below (ml_Qi I32 base D cA n Q) args s 0 0 (ml_A base)) base D cA 0 0 n n σ (F0 m 147 ls []) := by
  unfold f_X12_mend_u147 at hw
  obtain ⟨v1, hw⟩ := hw
  obtain ⟨y1, e1⟩ : ∃ y : Int, y = x4 + 1 := ⟨_, rfl⟩
  have hw := hw y1 e1
  rw [← e1] at v1
  refine ml_iinc (pc := 147) X e1 hl 3 rfl (by decide) (lst' := [(4, .int (Int32.ofInt y1)), (0, .ref (base + (215 : Int).toNat)), (2, .int (Int32.ofInt x2)), (3, .int (Int32.ofInt x3))]) rfl dX12_mend_147 (fun ls hl => ?_)
  refine ml_goto (pc := 150) (tgt := 110) X dX12_mend_150 (by decide) ?_
  exact hK110 σ x2 x3 y1 h_x2 h_x3 v1 _ (lv_sub hl [1, 2, 3, 0] rfl) hw
set_option maxRecDepth 100000 in
set_option maxHeartbeats 4000000 in
theorem u_X12_mend_134 {p : Program} {e : Env} {s : State} {m : MethodId} {args : Array Value} {below : List Frame} {meth : Method} {c : Code} {base : Nat} {D : va_G} {cA : Nat → ClassId} {n : Nat} {l : Launch} {Q : Int → ml_St → Prop} {K110 : ml_St → Int → Int → Int → Prop} (X : ml_X p s m c meth args D cA cX12_mend 5 RX12 (some .int)) (hn : 256 ≤ n) (hK110 : ∀ (σ : ml_St) (x2 : Int) (x3 : Int) (x4 : Int) (h_x2 : I32 x2) (h_x3 : I32 x3) (h_x4 : I32 x4) (ls : Array Slot), lv_has ls 5 [(0, .ref (base + (215 : Int).toNat)), (2, .int (Int32.ofInt x2)), (3, .int (Int32.ofInt x3)), (4, .int (Int32.ofInt x4))] → K110 σ x2 x3 x4 → ml_V p l e rm_X12_mend s m args below meth c (MQ below (ml_Qi I32 base D cA n Q) args s 0 0 (ml_A base)) base D cA 0 0 n n σ (F0 m 110 ls [])) (σ : ml_St) (x2 : Int) (x3 : Int) (x4 : Int) (h_x2 : I32 x2) (h_x3 : I32 x3) (h_x4 : I32 x4) (ls : Array Slot) (hl : lv_has ls 5 [(0, .ref (base + (215 : Int).toNat)), (2, .int (Int32.ofInt x2)), (3, .int (Int32.ofInt x3)), (4, .int (Int32.ofInt x4))]) (hw : f_X12_mend_u134 Q K110 σ x2 x3 x4) : ml_V p l e rm_X12_mend s m args below meth c (MQ below (ml_Qi I32 base D cA n Q) args s 0 0 (ml_A base)) base D cA 0 0 n n σ (F0 m 134 ls []) := by
  unfold f_X12_mend_u134 at hw
  refine ml_aload_n (pc := 134) X hl 0 rfl rfl dX12_mend_134 ?_
  refine ml_iload_n (pc := 135) X hl 1 rfl rfl dX12_mend_135 ?_
  refine ml_iload (pc := 136) X hl 3 rfl dX12_mend_136 ?_
  exact hw.elim
set_option maxRecDepth 100000 in
set_option maxHeartbeats 4000000 in
theorem u_X12_mend_110 {p : Program} {e : Env} {s : State} {m : MethodId} {args : Array Value} {below : List Frame} {meth : Method} {c : Code} {base : Nat} {D : va_G} {cA : Nat → ClassId} {n : Nat} {l : Launch} {Q : Int → ml_St → Prop} {K153 : ml_St → Int → Prop} (X : ml_X p s m c meth args D cA cX12_mend 5 RX12 (some .int)) (hn : 256 ≤ n) (hK153 : ∀ (σ : ml_St) (x3 : Int) (h_x3 : I32 x3) (ls : Array Slot), lv_has ls 5 [(3, .int (Int32.ofInt x3))] → K153 σ x3 → ml_V p l e rm_X12_mend s m args below meth c (MQ below (ml_Qi I32 base D cA n Q) args s 0 0 (ml_A base)) base D cA 0 0 n n σ (F0 m 153 ls [])) : ∀ (N : Nat) (σ : ml_St) (x2 : Int) (x3 : Int) (x4 : Int) (h_x2 : I32 x2) (h_x3 : I32 x3) (h_x4 : I32 x4) (ls : Array Slot), lv_has ls 5 [(0, .ref (base + (215 : Int).toNat)), (2, .int (Int32.ofInt x2)), (3, .int (Int32.ofInt x3)), (4, .int (Int32.ofInt x4))] → f_X12_mend_u110 Q K153 N σ x2 x3 x4 → ml_V p l e rm_X12_mend s m args below meth c (MQ below (ml_Qi I32 base D cA n Q) args s 0 0 (ml_A base)) base D cA 0 0 n n σ (F0 m 110 ls []) := by
  intro N
  induction N with
  | zero => intro σ x2 x3 x4 h_x2 h_x3 h_x4 ls hl hw; exact False.elim hw
  | succ N ih =>
    intro σ x2 x3 x4 h_x2 h_x3 h_x4 ls hl hw
    unfold f_X12_mend_u110 at hw
    refine ml_iload (pc := 110) X hl 3 rfl dX12_mend_110 ?_
    refine ml_iconst (pc := 112) X dX12_mend_112 ?_
    refine ml_iload_n (pc := 113) X hl 1 rfl rfl dX12_mend_113 ?_
    refine ml_ishl (pc := 114) X dX12_mend_114 ?_
    refine ml_icmp_ge (pc := 115) (tgt := 153) X h_x4 (b_shl_r _ _) dX12_mend_115 (by decide) (fun c1 => ?_) (fun c1 => ?_)
    · have hw := hw.1 c1
      exact hK153 σ x3 h_x3 _ (lv_sub hl [2] rfl) hw
    · have hw := hw.2 c1
      refine ml_iload_n (pc := 118) X hl 2 rfl rfl dX12_mend_118 ?_
      refine ml_if_lt (pc := 119) (tgt := 134) X h_x3 dX12_mend_119 (by decide) (fun c2 => ?_) (fun c2 => ?_)
      · have hw := hw.1 c2
        exact u_X12_mend_134 X hn ih σ x2 x3 x4 h_x2 h_x3 h_x4 _ (lv_sub hl [0, 1, 2, 3] rfl) hw
      · have hw := hw.2 c2
        refine ml_iload (pc := 122) X hl 3 rfl dX12_mend_122 ?_
        exact hw.elim
set_option maxRecDepth 100000 in
set_option maxHeartbeats 4000000 in
theorem u_X12_mend_153 {p : Program} {e : Env} {s : State} {m : MethodId} {args : Array Value} {below : List Frame} {meth : Method} {c : Code} {base : Nat} {D : va_G} {cA : Nat → ClassId} {n : Nat} {l : Launch} {Q : Int → ml_St → Prop} (X : ml_X p s m c meth args D cA cX12_mend 5 RX12 (some .int)) (hn : 256 ≤ n) (σ : ml_St) (x3 : Int) (h_x3 : I32 x3) (ls : Array Slot) (hl : lv_has ls 5 [(3, .int (Int32.ofInt x3))]) (hw : f_X12_mend_u153 Q σ x3) : ml_V p l e rm_X12_mend s m args below meth c (MQ below (ml_Qi I32 base D cA n Q) args s 0 0 (ml_A base)) base D cA 0 0 n n σ (F0 m 153 ls []) := by
  unfold f_X12_mend_u153 at hw
  refine ml_iload_n (pc := 153) X hl 0 rfl rfl dX12_mend_153 ?_
  exact ml_iret (pc := 154) X h_x3 hw dX12_mend_154
set_option maxRecDepth 100000 in
set_option maxHeartbeats 4000000 in
theorem u_X12_mend_104 {p : Program} {e : Env} {s : State} {m : MethodId} {args : Array Value} {below : List Frame} {meth : Method} {c : Code} {base : Nat} {D : va_G} {cA : Nat → ClassId} {n : Nat} {l : Launch} {Q : Int → ml_St → Prop} (X : ml_X p s m c meth args D cA cX12_mend 5 RX12 (some .int)) (hn : 256 ≤ n) (σ : ml_St) (x2 : Int) (h_x2 : I32 x2) (ls : Array Slot) (hl : lv_has ls 5 [(0, .ref (base + (215 : Int).toNat)), (2, .int (Int32.ofInt x2))]) (hw : f_X12_mend_u104 Q σ x2) : ml_V p l e rm_X12_mend s m args below meth c (MQ below (ml_Qi I32 base D cA n Q) args s 0 0 (ml_A base)) base D cA 0 0 n n σ (F0 m 104 ls []) := by
  unfold f_X12_mend_u104 at hw
  refine ml_bipush (pc := 104) X dX12_mend_104 (by decide) ?_
  refine ml_istore_n (pc := 106) X rfl hl (by decide) (lst' := [(3, .int (Int32.ofInt (-2))), (0, .ref (base + (215 : Int).toNat)), (2, .int (Int32.ofInt x2))]) rfl dX12_mend_106 (fun ls hl => ?_)
  refine ml_iconst (pc := 107) X dX12_mend_107 ?_
  refine ml_istore (pc := 108) X hl (by decide) (lst' := [(4, .int (Int32.ofInt 0)), (3, .int (Int32.ofInt (-2))), (0, .ref (base + (215 : Int).toNat)), (2, .int (Int32.ofInt x2))]) rfl dX12_mend_108 (fun ls hl => ?_)
  obtain ⟨N0, hw⟩ := hw
  exact u_X12_mend_110 X hn (fun σ x3 h_x3 ls hl hw => u_X12_mend_153 X hn σ x3 h_x3 ls hl hw) N0 σ x2 (-2) 0 h_x2 ⟨by decide, by decide⟩ ⟨by decide, by decide⟩ _ (lv_sub hl [2, 3, 1, 0] rfl) hw
set_option maxRecDepth 100000 in
set_option maxHeartbeats 4000000 in
theorem u_X12_mend_0 {p : Program} {e : Env} {s : State} {m : MethodId} {args : Array Value} {below : List Frame} {meth : Method} {c : Code} {base : Nat} {D : va_G} {cA : Nat → ClassId} {n : Nat} {l : Launch} {Q : Int → ml_St → Prop} (X : ml_X p s m c meth args D cA cX12_mend 5 RX12 (some .int)) (hn : 256 ≤ n) (σ : ml_St) (x1 : Int) (h_x1 : I32 x1) (ls : Array Slot) (hl : lv_has ls 5 [(0, .ref (base + (215 : Int).toNat)), (1, .int (Int32.ofInt x1))]) (hw : f_X12_mend_u0 Q σ x1) : ml_V p l e rm_X12_mend s m args below meth c (MQ below (ml_Qi I32 base D cA n Q) args s 0 0 (ml_A base)) base D cA 0 0 n n σ (F0 m 0 ls []) := by
  unfold f_X12_mend_u0 at hw
  refine ml_aload_n (pc := 0) X hl 0 rfl rfl dX12_mend_0 ?_
  refine ml_iload_n (pc := 1) X hl 1 rfl rfl dX12_mend_1 ?_
  refine ml_callzV (pc := 2) (rest := []) X [.int (Int32.ofInt x1)] (by decide) rfl (ml_c215 hn) (c_X12_isWord l base D cA n hn σ x1 h_x1 _ hw) cv_X12_287 ⟨rfl, rfl⟩ ⟨by decide, by decide⟩ rfl rfl hl (Nat.le_of_ble_eq_true rfl) ⟨Nat.zero_le _, Nat.zero_le _⟩ dX12_mend_2 (fun r1 σ1 t1 hw => ?_)
  have hw := hw t1
  refine ml_if_eq (pc := 5) (tgt := 27) X t1.i dX12_mend_5 (by decide) (fun c2 => ?_) (fun c2 => ?_)
  · have hw := hw.1 c2
    exact u_X12_mend_27 X hn σ1   _ (lv_sub hl [] rfl) hw
  · have hw := hw.2 c2
    refine ml_aload_n (pc := 8) X hl 0 rfl rfl dX12_mend_8 ?_
    refine ml_iload_n (pc := 9) X hl 1 rfl rfl dX12_mend_9 ?_
    exact hw.elim
set_option maxRecDepth 100000 in
theorem c_X12_mend (l : Launch) (base : Nat) (D : va_G) (cA : Nat → ClassId) (n : Nat) (hn : 256 ≤ n) (σ : ml_St) (x1 : Int) (h_x1 : I32 x1) (Q : Int → ml_St → Prop) (hw : f_X12_mend σ x1 Q) : Met l yX12_mend (Cond.code yX12_mend cX12_mend 5 (some .int) :: ml_T) rm_X12_mend (va_Pc [.ref (base + (215 : Int).toNat), .int (Int32.ofInt x1)] (ml_U base D cA n σ)) (ml_Qi I32 base D cA n Q) 0 0 (ml_A base) := by
  refine Met.ofW (cc := cX12_mend) (maxL := 5) (ret := (some .int)) (by decide) rfl ?_
  intro p e s m args below meth c s₁ B hml hv
  obtain ⟨rfl, hP, hK, hok, hro⟩ := hv
  have X : ml_X p s m c meth _ D cA cX12_mend 5 RX12 (some .int) := ⟨B.exec, B.bytes, hml, findClass_of_methodNamed B.named, fun w hw => atoms_spec (ws := Cond.code yX12_mend cX12_mend 5 (some .int) :: ml_T) B.pre w (List.mem_cons_of_mem _ hw), hK, B.notSynchronized, B.returns⟩
  have hl := lv_entry [.ref (base + (215 : Int).toNat), .int (Int32.ofInt x1)] (n := 5) (Nat.le_of_ble_eq_true rfl)
  rw [lg_entry_eq]
  generalize (lg_sl [.ref (base + (215 : Int).toNat), .int (Int32.ofInt x1)] ++ List.replicate (5 - (lg_sl [.ref (base + (215 : Int).toNat), .int (Int32.ofInt x1)]).length) Slot.unset).toArray = ls at hl ⊢
  have hl : lv_has ls 5 [(0, .ref (base + (215 : Int).toNat)), (1, .int (Int32.ofInt x1))] := hl
  unfold f_X12_mend at hw
  exact u_X12_mend_0 X hn σ x1 h_x1 _ (lv_sub hl [0, 1] rfl) hw s.heap [] hP va_S.rf hok hro
theorem dX12_back_0 : decode cX12_back 0 = .ok (.iload_n 1, 1) := by decide +kernel
theorem dX12_back_1 : decode cX12_back 1 = .ok (.i2l, 1) := by decide +kernel
theorem dX12_back_2 : decode cX12_back 2 = .ok (.lconst 1, 1) := by decide +kernel
theorem dX12_back_3 : decode cX12_back 3 = .ok (.ldc2_w 413, 3) := by decide +kernel
theorem dX12_back_6 : decode cX12_back 6 = .ok (.invokestatic 143, 3) := by decide +kernel
theorem dX12_back_9 : decode cX12_back 9 = .ok (.ifCond .eq 13, 3) := by decide +kernel
theorem dX12_back_12 : decode cX12_back 12 = .ok (.iconst 4, 1) := by decide +kernel
theorem dX12_back_13 : decode cX12_back 13 = .ok (.iload_n 1, 1) := by decide +kernel
theorem dX12_back_14 : decode cX12_back 14 = .ok (.imul, 1) := by decide +kernel
theorem dX12_back_15 : decode cX12_back 15 = .ok (.aload_n 0, 1) := by decide +kernel
theorem dX12_back_16 : decode cX12_back 16 = .ok (.getfield 155, 3) := by decide +kernel
theorem dX12_back_19 : decode cX12_back 19 = .ok (.if_icmp .le 5, 3) := by decide +kernel
theorem dX12_back_22 : decode cX12_back 22 = .ok (.iconst (-1), 1) := by decide +kernel
theorem dX12_back_23 : decode cX12_back 23 = .ok (.ireturn, 1) := by decide +kernel
theorem dX12_back_24 : decode cX12_back 24 = .ok (.aload_n 0, 1) := by decide +kernel
theorem dX12_back_25 : decode cX12_back 25 = .ok (.iconst 0, 1) := by decide +kernel
theorem dX12_back_26 : decode cX12_back 26 = .ok (.putfield 155, 3) := by decide +kernel
theorem dX12_back_29 : decode cX12_back 29 = .ok (.iconst 0, 1) := by decide +kernel
theorem dX12_back_30 : decode cX12_back 30 = .ok (.istore_n 2, 1) := by decide +kernel
theorem dX12_back_31 : decode cX12_back 31 = .ok (.iconst 0, 1) := by decide +kernel
theorem dX12_back_32 : decode cX12_back 32 = .ok (.istore_n 3, 1) := by decide +kernel
theorem dX12_back_33 : decode cX12_back 33 = .ok (.iload_n 3, 1) := by decide +kernel
theorem dX12_back_34 : decode cX12_back 34 = .ok (.aload_n 0, 1) := by decide +kernel
theorem dX12_back_35 : decode cX12_back 35 = .ok (.getfield 140, 3) := by decide +kernel
theorem dX12_back_38 : decode cX12_back 38 = .ok (.if_icmp .ge 115, 3) := by decide +kernel
theorem dX12_back_41 : decode cX12_back 41 = .ok (.aload_n 0, 1) := by decide +kernel
theorem dX12_back_42 : decode cX12_back 42 = .ok (.iload_n 3, 1) := by decide +kernel
theorem dX12_back_43 : decode cX12_back 43 = .ok (.invokevirtual 262, 3) := by decide +kernel
theorem dX12_back_46 : decode cX12_back 46 = .ok (.ifCond .eq 6, 3) := by decide +kernel
theorem dX12_back_49 : decode cX12_back 49 = .ok (.goto 98, 3) := by decide +kernel
theorem dX12_back_52 : decode cX12_back 52 = .ok (.iconst 1, 1) := by decide +kernel
theorem dX12_back_53 : decode cX12_back 53 = .ok (.istore 4, 2) := by decide +kernel
theorem dX12_back_55 : decode cX12_back 55 = .ok (.aload_n 0, 1) := by decide +kernel
theorem dX12_back_56 : decode cX12_back 56 = .ok (.iload_n 3, 1) := by decide +kernel
theorem dX12_back_57 : decode cX12_back 57 = .ok (.bipush 60, 2) := by decide +kernel
theorem dX12_back_59 : decode cX12_back 59 = .ok (.invokevirtual 242, 3) := by decide +kernel
theorem dX12_back_62 : decode cX12_back 62 = .ok (.iconst 0, 1) := by decide +kernel
theorem dX12_back_63 : decode cX12_back 63 = .ok (.istore 5, 2) := by decide +kernel
theorem dX12_back_65 : decode cX12_back 65 = .ok (.iload 5, 2) := by decide +kernel
theorem dX12_back_67 : decode cX12_back 67 = .ok (.iload_n 1, 1) := by decide +kernel
theorem dX12_back_68 : decode cX12_back 68 = .ok (.if_icmp .ge 64, 3) := by decide +kernel
theorem dX12_back_71 : decode cX12_back 71 = .ok (.iload 4, 2) := by decide +kernel
theorem dX12_back_73 : decode cX12_back 73 = .ok (.ifCond .eq 33, 3) := by decide +kernel
theorem dX12_back_76 : decode cX12_back 76 = .ok (.aload_n 0, 1) := by decide +kernel
theorem dX12_back_77 : decode cX12_back 77 = .ok (.getfield 55, 3) := by decide +kernel
theorem dX12_back_80 : decode cX12_back 80 = .ok (.bipush 60, 2) := by decide +kernel
theorem dX12_back_82 : decode cX12_back 82 = .ok (.laload, 1) := by decide +kernel
theorem dX12_back_83 : decode cX12_back 83 = .ok (.aload_n 0, 1) := by decide +kernel
theorem dX12_back_84 : decode cX12_back 84 = .ok (.bipush 60, 2) := by decide +kernel
theorem dX12_back_86 : decode cX12_back 86 = .ok (.invokevirtual 302, 3) := by decide +kernel
theorem dX12_back_89 : decode cX12_back 89 = .ok (.i2l, 1) := by decide +kernel
theorem dX12_back_90 : decode cX12_back 90 = .ok (.ladd, 1) := by decide +kernel
theorem dX12_back_91 : decode cX12_back 91 = .ok (.aload_n 0, 1) := by decide +kernel
theorem dX12_back_92 : decode cX12_back 92 = .ok (.iload 5, 2) := by decide +kernel
theorem dX12_back_94 : decode cX12_back 94 = .ok (.invokevirtual 415, 3) := by decide +kernel
theorem dX12_back_97 : decode cX12_back 97 = .ok (.i2l, 1) := by decide +kernel
theorem dX12_back_98 : decode cX12_back 98 = .ok (.lcmp, 1) := by decide +kernel
theorem dX12_back_99 : decode cX12_back 99 = .ok (.ifCond .ne 7, 3) := by decide +kernel
theorem dX12_back_102 : decode cX12_back 102 = .ok (.iconst 1, 1) := by decide +kernel
theorem dX12_back_103 : decode cX12_back 103 = .ok (.goto 4, 3) := by decide +kernel
theorem dX12_back_106 : decode cX12_back 106 = .ok (.iconst 0, 1) := by decide +kernel
theorem dX12_back_107 : decode cX12_back 107 = .ok (.istore 4, 2) := by decide +kernel
theorem dX12_back_109 : decode cX12_back 109 = .ok (.aload_n 0, 1) := by decide +kernel
theorem dX12_back_110 : decode cX12_back 110 = .ok (.bipush 60, 2) := by decide +kernel
theorem dX12_back_112 : decode cX12_back 112 = .ok (.iload_n 3, 1) := by decide +kernel
theorem dX12_back_113 : decode cX12_back 113 = .ok (.bipush 62, 2) := by decide +kernel
theorem dX12_back_115 : decode cX12_back 115 = .ok (.invokevirtual 245, 3) := by decide +kernel
theorem dX12_back_118 : decode cX12_back 118 = .ok (.aload_n 0, 1) := by decide +kernel
theorem dX12_back_119 : decode cX12_back 119 = .ok (.bipush 62, 2) := by decide +kernel
theorem dX12_back_121 : decode cX12_back 121 = .ok (.bipush 60, 2) := by decide +kernel
theorem dX12_back_123 : decode cX12_back 123 = .ok (.invokevirtual 242, 3) := by decide +kernel
theorem dX12_back_126 : decode cX12_back 126 = .ok (.iinc 5 1, 3) := by decide +kernel
theorem dX12_back_129 : decode cX12_back 129 = .ok (.goto (-64), 3) := by decide +kernel
theorem dX12_back_132 : decode cX12_back 132 = .ok (.iload_n 2, 1) := by decide +kernel
theorem dX12_back_133 : decode cX12_back 133 = .ok (.iload 4, 2) := by decide +kernel
theorem dX12_back_135 : decode cX12_back 135 = .ok (.ifCond .eq 9, 3) := by decide +kernel
theorem dX12_back_138 : decode cX12_back 138 = .ok (.iconst 1, 1) := by decide +kernel
theorem dX12_back_139 : decode cX12_back 139 = .ok (.iload_n 3, 1) := by decide +kernel
theorem dX12_back_140 : decode cX12_back 140 = .ok (.ishl, 1) := by decide +kernel
theorem dX12_back_141 : decode cX12_back 141 = .ok (.goto 4, 3) := by decide +kernel
theorem dX12_back_144 : decode cX12_back 144 = .ok (.iconst 0, 1) := by decide +kernel
theorem dX12_back_145 : decode cX12_back 145 = .ok (.ior, 1) := by decide +kernel
theorem dX12_back_146 : decode cX12_back 146 = .ok (.istore_n 2, 1) := by decide +kernel
theorem dX12_back_147 : decode cX12_back 147 = .ok (.iinc 3 1, 3) := by decide +kernel
theorem dX12_back_150 : decode cX12_back 150 = .ok (.goto (-117), 3) := by decide +kernel
theorem dX12_back_153 : decode cX12_back 153 = .ok (.iload_n 2, 1) := by decide +kernel
theorem dX12_back_154 : decode cX12_back 154 = .ok (.ireturn, 1) := by decide +kernel
def f_X12_back_u22 (Q : Int → ml_St → Prop) (σ : ml_St) : Prop :=
Q (-1) σ
def f_X12_back_u107 (Q : Int → ml_St → Prop) (K65 : ml_St → Int → Int → Int → Int → Int → Prop) (σ : ml_St) (x1 : Int) (x2 : Int) (x3 : Int) (x5 : Int) (s0 : Int) : Prop :=
False
def f_X12_back_u106 (Q : Int → ml_St → Prop) (K65 : ml_St → Int → Int → Int → Int → Int → Prop) (σ : ml_St) (x1 : Int) (x2 : Int) (x3 : Int) (x5 : Int) : Prop :=
f_X12_back_u107 Q K65 σ x1 x2 x3 x5 0
def f_X12_back_u65 (Q : Int → ml_St → Prop) (K132 : ml_St → Int → Int → Int → Int → Prop) : Nat → ml_St → Int → Int → Int → Int → Int → Prop
| 0, _, _, _, _, _, _ => False
| N + 1, σ, x1, x2, x3, x4, x5 =>
(x1 ≤ x5 →
K132 σ x1 x2 x3 x4) ∧
(¬ (x1 ≤ x5) →
(x4 = 0 →
f_X12_back_u106 Q (f_X12_back_u65 Q K132 N) σ x1 x2 x3 x5) ∧
(x4 ≠ 0 →
(0 : Int) ≤ 60 ∧ (60 : Int) < 64 ∧
∀ _ : I64 (σ 229 60),
False))
def f_X12_back_u147 (Q : Int → ml_St → Prop) (K33 : ml_St → Int → Int → Int → Prop) (σ : ml_St) (x1 : Int) (x2 : Int) (x3 : Int) : Prop :=
I32 (x3 + 1) ∧
∀ y1 : Int, y1 = x3 + 1 →
K33 σ x1 x2 y1
def f_X12_back_u145 (Q : Int → ml_St → Prop) (K33 : ml_St → Int → Int → Int → Prop) (σ : ml_St) (x1 : Int) (x3 : Int) (s0 : Int) (s1 : Int) : Prop :=
∀ y1 : Int, y1 = b_or s0 s1 →
f_X12_back_u147 Q K33 σ x1 y1 x3
def f_X12_back_u132 (Q : Int → ml_St → Prop) (K33 : ml_St → Int → Int → Int → Prop) (σ : ml_St) (x1 : Int) (x2 : Int) (x3 : Int) (x4 : Int) : Prop :=
(x4 = 0 →
f_X12_back_u145 Q K33 σ x1 x3 x2 0) ∧
(x4 ≠ 0 →
f_X12_back_u145 Q K33 σ x1 x3 x2 (b_shl 1 x3))
def f_X12_back_u33 (Q : Int → ml_St → Prop) (K153 : ml_St → Int → Prop) : Nat → ml_St → Int → Int → Int → Prop
| 0, _, _, _, _ => False
| N + 1, σ, x1, x2, x3 =>
∀ _ : I32 (σ 215 3),
((σ 215 3) ≤ x3 →
K153 σ x2) ∧
(¬ ((σ 215 3) ≤ x3) →
False)
def f_X12_back_u153 (Q : Int → ml_St → Prop) (σ : ml_St) (x2 : Int) : Prop :=
Q x2 σ
def f_X12_back_u0 (Q : Int → ml_St → Prop) (σ : ml_St) (x1 : Int) : Prop :=
f_X12_lies σ x1 1 8 (fun r1 σ1 => ∀ _ : ml_B r1,
(r1 = 0 →
f_X12_back_u22 Q σ1) ∧
(r1 ≠ 0 →
I32 (4 * x1) ∧
∀ _ : I32 (σ1 215 1),
(((4 * x1) : Int) ≤ (σ1 215 1) →
∀ σ6, σ6 = ml_up σ1 215 1 0 →
∃ N1, f_X12_back_u33 Q (f_X12_back_u153 Q) N1 σ6 x1 0 0) ∧
(¬ (((4 * x1) : Int) ≤ (σ1 215 1)) →
f_X12_back_u22 Q σ1)))
def f_X12_back (σ : ml_St) (x1 : Int) (Q : Int → ml_St → Prop) : Prop := f_X12_back_u0 Q σ x1
def rm_X12_back : Room := { frames := 1, cells := 0, slots := 0, locals := 25 }
set_option maxRecDepth 100000 in
set_option maxHeartbeats 4000000 in
theorem u_X12_back_22 {p : Program} {e : Env} {s : State} {m : MethodId} {args : Array Value} {below : List Frame} {meth : Method} {c : Code} {base : Nat} {D : va_G} {cA : Nat → ClassId} {n : Nat} {l : Launch} {Q : Int → ml_St → Prop} (X : ml_X p s m c meth args D cA cX12_back 6 RX12 (some .int)) (hn : 256 ≤ n) (σ : ml_St) (ls : Array Slot) (hl : lv_has ls 6 []) (hw : f_X12_back_u22 Q σ) : ml_V p l e rm_X12_back s m args below meth c (MQ below (ml_Qi I32 base D cA n Q) args s 0 0 (ml_A base)) base D cA 0 0 n n σ (F0 m 22 ls []) := by
  unfold f_X12_back_u22 at hw
  refine ml_iconst (pc := 22) X dX12_back_22 ?_
  exact ml_iret (pc := 23) X ⟨by decide, by decide⟩ hw dX12_back_23
set_option maxRecDepth 100000 in
set_option maxHeartbeats 4000000 in
theorem u_X12_back_107 {p : Program} {e : Env} {s : State} {m : MethodId} {args : Array Value} {below : List Frame} {meth : Method} {c : Code} {base : Nat} {D : va_G} {cA : Nat → ClassId} {n : Nat} {l : Launch} {Q : Int → ml_St → Prop} {K65 : ml_St → Int → Int → Int → Int → Int → Prop} (X : ml_X p s m c meth args D cA cX12_back 6 RX12 (some .int)) (hn : 256 ≤ n) (hK65 : ∀ (σ : ml_St) (x1 : Int) (x2 : Int) (x3 : Int) (x4 : Int) (x5 : Int) (h_x1 : I32 x1) (h_x2 : I32 x2) (h_x3 : I32 x3) (h_x4 : ml_B x4) (h_x5 : I32 x5) (ls : Array Slot), lv_has ls 6 [(0, .ref (base + (215 : Int).toNat)), (1, .int (Int32.ofInt x1)), (2, .int (Int32.ofInt x2)), (3, .int (Int32.ofInt x3)), (4, .int (Int32.ofInt x4)), (5, .int (Int32.ofInt x5))] → K65 σ x1 x2 x3 x4 x5 → ml_V p l e rm_X12_back s m args below meth c (MQ below (ml_Qi I32 base D cA n Q) args s 0 0 (ml_A base)) base D cA 0 0 n n σ (F0 m 65 ls [])) (σ : ml_St) (x1 : Int) (x2 : Int) (x3 : Int) (x5 : Int) (s0 : Int) (h_x1 : I32 x1) (h_x2 : I32 x2) (h_x3 : I32 x3) (h_x5 : I32 x5) (h_s0 : ml_B s0) (ls : Array Slot) (hl : lv_has ls 6 [(0, .ref (base + (215 : Int).toNat)), (1, .int (Int32.ofInt x1)), (2, .int (Int32.ofInt x2)), (3, .int (Int32.ofInt x3)), (5, .int (Int32.ofInt x5))]) (hw : f_X12_back_u107 Q K65 σ x1 x2 x3 x5 s0) : ml_V p l e rm_X12_back s m args below meth c (MQ below (ml_Qi I32 base D cA n Q) args s 0 0 (ml_A base)) base D cA 0 0 n n σ (F0 m 107 ls [.int (Int32.ofInt s0)]) := by
  unfold f_X12_back_u107 at hw
  refine ml_istore (pc := 107) X hl (by decide) (lst' := [(4, .int (Int32.ofInt s0)), (0, .ref (base + (215 : Int).toNat)), (1, .int (Int32.ofInt x1)), (2, .int (Int32.ofInt x2)), (3, .int (Int32.ofInt x3)), (5, .int (Int32.ofInt x5))]) rfl dX12_back_107 (fun ls hl => ?_)
  refine ml_aload_n (pc := 109) X hl 1 rfl rfl dX12_back_109 ?_
  refine ml_bipush (pc := 110) X dX12_back_110 (by decide) ?_
  refine ml_iload_n (pc := 112) X hl 4 rfl rfl dX12_back_112 ?_
  refine ml_bipush (pc := 113) X dX12_back_113 (by decide) ?_
  exact hw.elim
set_option maxRecDepth 100000 in
set_option maxHeartbeats 4000000 in
theorem u_X12_back_106 {p : Program} {e : Env} {s : State} {m : MethodId} {args : Array Value} {below : List Frame} {meth : Method} {c : Code} {base : Nat} {D : va_G} {cA : Nat → ClassId} {n : Nat} {l : Launch} {Q : Int → ml_St → Prop} {K65 : ml_St → Int → Int → Int → Int → Int → Prop} (X : ml_X p s m c meth args D cA cX12_back 6 RX12 (some .int)) (hn : 256 ≤ n) (hK65 : ∀ (σ : ml_St) (x1 : Int) (x2 : Int) (x3 : Int) (x4 : Int) (x5 : Int) (h_x1 : I32 x1) (h_x2 : I32 x2) (h_x3 : I32 x3) (h_x4 : ml_B x4) (h_x5 : I32 x5) (ls : Array Slot), lv_has ls 6 [(0, .ref (base + (215 : Int).toNat)), (1, .int (Int32.ofInt x1)), (2, .int (Int32.ofInt x2)), (3, .int (Int32.ofInt x3)), (4, .int (Int32.ofInt x4)), (5, .int (Int32.ofInt x5))] → K65 σ x1 x2 x3 x4 x5 → ml_V p l e rm_X12_back s m args below meth c (MQ below (ml_Qi I32 base D cA n Q) args s 0 0 (ml_A base)) base D cA 0 0 n n σ (F0 m 65 ls [])) (σ : ml_St) (x1 : Int) (x2 : Int) (x3 : Int) (x5 : Int) (h_x1 : I32 x1) (h_x2 : I32 x2) (h_x3 : I32 x3) (h_x5 : I32 x5) (ls : Array Slot) (hl : lv_has ls 6 [(0, .ref (base + (215 : Int).toNat)), (1, .int (Int32.ofInt x1)), (2, .int (Int32.ofInt x2)), (3, .int (Int32.ofInt x3)), (5, .int (Int32.ofInt x5))]) (hw : f_X12_back_u106 Q K65 σ x1 x2 x3 x5) : ml_V p l e rm_X12_back s m args below meth c (MQ below (ml_Qi I32 base D cA n Q) args s 0 0 (ml_A base)) base D cA 0 0 n n σ (F0 m 106 ls []) := by
  unfold f_X12_back_u106 at hw
  refine ml_iconst (pc := 106) X dX12_back_106 ?_
  exact u_X12_back_107 X hn hK65 σ x1 x2 x3 x5 0 h_x1 h_x2 h_x3 h_x5 ⟨by decide, by decide⟩ _ (lv_sub hl [0, 1, 2, 3, 4] rfl) hw
set_option maxRecDepth 100000 in
set_option maxHeartbeats 4000000 in
theorem u_X12_back_65 {p : Program} {e : Env} {s : State} {m : MethodId} {args : Array Value} {below : List Frame} {meth : Method} {c : Code} {base : Nat} {D : va_G} {cA : Nat → ClassId} {n : Nat} {l : Launch} {Q : Int → ml_St → Prop} {K132 : ml_St → Int → Int → Int → Int → Prop} (X : ml_X p s m c meth args D cA cX12_back 6 RX12 (some .int)) (hn : 256 ≤ n) (hK132 : ∀ (σ : ml_St) (x1 : Int) (x2 : Int) (x3 : Int) (x4 : Int) (h_x1 : I32 x1) (h_x2 : I32 x2) (h_x3 : I32 x3) (h_x4 : ml_B x4) (ls : Array Slot), lv_has ls 6 [(0, .ref (base + (215 : Int).toNat)), (1, .int (Int32.ofInt x1)), (2, .int (Int32.ofInt x2)), (3, .int (Int32.ofInt x3)), (4, .int (Int32.ofInt x4))] → K132 σ x1 x2 x3 x4 → ml_V p l e rm_X12_back s m args below meth c (MQ below (ml_Qi I32 base D cA n Q) args s 0 0 (ml_A base)) base D cA 0 0 n n σ (F0 m 132 ls [])) : ∀ (N : Nat) (σ : ml_St) (x1 : Int) (x2 : Int) (x3 : Int) (x4 : Int) (x5 : Int) (h_x1 : I32 x1) (h_x2 : I32 x2) (h_x3 : I32 x3) (h_x4 : ml_B x4) (h_x5 : I32 x5) (ls : Array Slot), lv_has ls 6 [(0, .ref (base + (215 : Int).toNat)), (1, .int (Int32.ofInt x1)), (2, .int (Int32.ofInt x2)), (3, .int (Int32.ofInt x3)), (4, .int (Int32.ofInt x4)), (5, .int (Int32.ofInt x5))] → f_X12_back_u65 Q K132 N σ x1 x2 x3 x4 x5 → ml_V p l e rm_X12_back s m args below meth c (MQ below (ml_Qi I32 base D cA n Q) args s 0 0 (ml_A base)) base D cA 0 0 n n σ (F0 m 65 ls []) := by
  intro N
  induction N with
  | zero => intro σ x1 x2 x3 x4 x5 h_x1 h_x2 h_x3 h_x4 h_x5 ls hl hw; exact False.elim hw
  | succ N ih =>
    intro σ x1 x2 x3 x4 x5 h_x1 h_x2 h_x3 h_x4 h_x5 ls hl hw
    unfold f_X12_back_u65 at hw
    refine ml_iload (pc := 65) X hl 5 rfl dX12_back_65 ?_
    refine ml_iload_n (pc := 67) X hl 1 rfl rfl dX12_back_67 ?_
    refine ml_icmp_ge (pc := 68) (tgt := 132) X h_x5 h_x1 dX12_back_68 (by decide) (fun c1 => ?_) (fun c1 => ?_)
    · have hw := hw.1 c1
      exact hK132 σ x1 x2 x3 x4 h_x1 h_x2 h_x3 h_x4 _ (lv_sub hl [0, 1, 2, 3, 4] rfl) hw
    · have hw := hw.2 c1
      refine ml_iload (pc := 71) X hl 4 rfl dX12_back_71 ?_
      refine ml_if_eq (pc := 73) (tgt := 106) X h_x4.i dX12_back_73 (by decide) (fun c2 => ?_) (fun c2 => ?_)
      · have hw := hw.1 c2
        exact u_X12_back_106 X hn ih σ x1 x2 x3 x5 h_x1 h_x2 h_x3 h_x5 _ (lv_sub hl [0, 1, 2, 3, 5] rfl) hw
      · have hw := hw.2 c2
        refine ml_aload_n (pc := 76) X hl 0 rfl rfl dX12_back_76 ?_
        refine gf_X12_55 (pc := 77) X (ml_c215 hn) dX12_back_77 ?_
        refine ml_bipush (pc := 80) X dX12_back_80 (by decide) ?_
        obtain ⟨a3, b3, hw⟩ := hw
        refine ml_lald (pc := 82) (N := 64) X (ml_c229 hn) a3 b3 dX12_back_82 (fun r3 => ?_)
        have hw := hw r3
        refine ml_aload_n (pc := 83) X hl 0 rfl rfl dX12_back_83 ?_
        refine ml_bipush (pc := 84) X dX12_back_84 (by decide) ?_
        exact hw.elim
set_option maxRecDepth 100000 in
set_option maxHeartbeats 4000000 in
theorem u_X12_back_147 {p : Program} {e : Env} {s : State} {m : MethodId} {args : Array Value} {below : List Frame} {meth : Method} {c : Code} {base : Nat} {D : va_G} {cA : Nat → ClassId} {n : Nat} {l : Launch} {Q : Int → ml_St → Prop} {K33 : ml_St → Int → Int → Int → Prop} (X : ml_X p s m c meth args D cA cX12_back 6 RX12 (some .int)) (hn : 256 ≤ n) (hK33 : ∀ (σ : ml_St) (x1 : Int) (x2 : Int) (x3 : Int) (h_x1 : I32 x1) (h_x2 : I32 x2) (h_x3 : I32 x3) (ls : Array Slot), lv_has ls 6 [(0, .ref (base + (215 : Int).toNat)), (1, .int (Int32.ofInt x1)), (2, .int (Int32.ofInt x2)), (3, .int (Int32.ofInt x3))] → K33 σ x1 x2 x3 → ml_V p l e rm_X12_back s m args below meth c (MQ below (ml_Qi I32 base D cA n Q) args s 0 0 (ml_A base)) base D cA 0 0 n n σ (F0 m 33 ls [])) (σ : ml_St) (x1 : Int) (x2 : Int) (x3 : Int) (h_x1 : I32 x1) (h_x2 : I32 x2) (h_x3 : I32 x3) (ls : Array Slot) (hl : lv_has ls 6 [(0, .ref (base + (215 : Int).toNat)), (1, .int (Int32.ofInt x1)), (2, .int (Int32.ofInt x2)), (3, .int (Int32.ofInt x3))]) (hw : f_X12_back_u147 Q K33 σ x1 x2 x3) : ml_V p l e rm_X12_back s m args below meth c (MQ below (ml_Qi I32 base D cA n Q) args s 0 0 (ml_A base)) base D cA 0 0 n n σ (F0 m 147 ls []) := by
  unfold f_X12_back_u147 at hw
  obtain ⟨v1, hw⟩ := hw
  obtain ⟨y1, e1⟩ : ∃ y : Int, y = x3 + 1 := ⟨_, rfl⟩
  have hw := hw y1 e1
  rw [← e1] at v1
  refine ml_iinc (pc := 147) X e1 hl 3 rfl (by decide) (lst' := [(3, .int (Int32.ofInt y1)), (0, .ref (base + (215 : Int).toNat)), (1, .int (Int32.ofInt x1)), (2, .int (Int32.ofInt x2))]) rfl dX12_back_147 (fun ls hl => ?_)
  refine ml_goto (pc := 150) (tgt := 33) X dX12_back_150 (by decide) ?_
  exact hK33 σ x1 x2 y1 h_x1 h_x2 v1 _ (lv_sub hl [1, 2, 3, 0] rfl) hw
set_option maxRecDepth 100000 in
set_option maxHeartbeats 4000000 in
theorem u_X12_back_145 {p : Program} {e : Env} {s : State} {m : MethodId} {args : Array Value} {below : List Frame} {meth : Method} {c : Code} {base : Nat} {D : va_G} {cA : Nat → ClassId} {n : Nat} {l : Launch} {Q : Int → ml_St → Prop} {K33 : ml_St → Int → Int → Int → Prop} (X : ml_X p s m c meth args D cA cX12_back 6 RX12 (some .int)) (hn : 256 ≤ n) (hK33 : ∀ (σ : ml_St) (x1 : Int) (x2 : Int) (x3 : Int) (h_x1 : I32 x1) (h_x2 : I32 x2) (h_x3 : I32 x3) (ls : Array Slot), lv_has ls 6 [(0, .ref (base + (215 : Int).toNat)), (1, .int (Int32.ofInt x1)), (2, .int (Int32.ofInt x2)), (3, .int (Int32.ofInt x3))] → K33 σ x1 x2 x3 → ml_V p l e rm_X12_back s m args below meth c (MQ below (ml_Qi I32 base D cA n Q) args s 0 0 (ml_A base)) base D cA 0 0 n n σ (F0 m 33 ls [])) (σ : ml_St) (x1 : Int) (x3 : Int) (s0 : Int) (s1 : Int) (h_x1 : I32 x1) (h_x3 : I32 x3) (h_s0 : I32 s0) (h_s1 : I32 s1) (ls : Array Slot) (hl : lv_has ls 6 [(0, .ref (base + (215 : Int).toNat)), (1, .int (Int32.ofInt x1)), (3, .int (Int32.ofInt x3))]) (hw : f_X12_back_u145 Q K33 σ x1 x3 s0 s1) : ml_V p l e rm_X12_back s m args below meth c (MQ below (ml_Qi I32 base D cA n Q) args s 0 0 (ml_A base)) base D cA 0 0 n n σ (F0 m 145 ls [.int (Int32.ofInt s1), .int (Int32.ofInt s0)]) := by
  unfold f_X12_back_u145 at hw
  refine ml_ior (pc := 145) X dX12_back_145 ?_
  refine ml_topI (pc := 146) (fun y1 e1 => ?_)
  have hw := hw y1 e1
  have q1 : I32 y1 := by rw [e1]; exact (b_or_r _ _)
  refine ml_istore_n (pc := 146) X rfl hl (by decide) (lst' := [(2, .int (Int32.ofInt y1)), (0, .ref (base + (215 : Int).toNat)), (1, .int (Int32.ofInt x1)), (3, .int (Int32.ofInt x3))]) rfl dX12_back_146 (fun ls hl => ?_)
  exact u_X12_back_147 X hn hK33 σ x1 y1 x3 h_x1 q1 h_x3 _ (lv_sub hl [1, 2, 0, 3] rfl) hw
set_option maxRecDepth 100000 in
set_option maxHeartbeats 4000000 in
theorem u_X12_back_132 {p : Program} {e : Env} {s : State} {m : MethodId} {args : Array Value} {below : List Frame} {meth : Method} {c : Code} {base : Nat} {D : va_G} {cA : Nat → ClassId} {n : Nat} {l : Launch} {Q : Int → ml_St → Prop} {K33 : ml_St → Int → Int → Int → Prop} (X : ml_X p s m c meth args D cA cX12_back 6 RX12 (some .int)) (hn : 256 ≤ n) (hK33 : ∀ (σ : ml_St) (x1 : Int) (x2 : Int) (x3 : Int) (h_x1 : I32 x1) (h_x2 : I32 x2) (h_x3 : I32 x3) (ls : Array Slot), lv_has ls 6 [(0, .ref (base + (215 : Int).toNat)), (1, .int (Int32.ofInt x1)), (2, .int (Int32.ofInt x2)), (3, .int (Int32.ofInt x3))] → K33 σ x1 x2 x3 → ml_V p l e rm_X12_back s m args below meth c (MQ below (ml_Qi I32 base D cA n Q) args s 0 0 (ml_A base)) base D cA 0 0 n n σ (F0 m 33 ls [])) (σ : ml_St) (x1 : Int) (x2 : Int) (x3 : Int) (x4 : Int) (h_x1 : I32 x1) (h_x2 : I32 x2) (h_x3 : I32 x3) (h_x4 : ml_B x4) (ls : Array Slot) (hl : lv_has ls 6 [(0, .ref (base + (215 : Int).toNat)), (1, .int (Int32.ofInt x1)), (2, .int (Int32.ofInt x2)), (3, .int (Int32.ofInt x3)), (4, .int (Int32.ofInt x4))]) (hw : f_X12_back_u132 Q K33 σ x1 x2 x3 x4) : ml_V p l e rm_X12_back s m args below meth c (MQ below (ml_Qi I32 base D cA n Q) args s 0 0 (ml_A base)) base D cA 0 0 n n σ (F0 m 132 ls []) := by
  unfold f_X12_back_u132 at hw
  refine ml_iload_n (pc := 132) X hl 2 rfl rfl dX12_back_132 ?_
  refine ml_iload (pc := 133) X hl 4 rfl dX12_back_133 ?_
  refine ml_if_eq (pc := 135) (tgt := 144) X h_x4.i dX12_back_135 (by decide) (fun c1 => ?_) (fun c1 => ?_)
  · have hw := hw.1 c1
    refine ml_iconst (pc := 144) X dX12_back_144 ?_
    exact u_X12_back_145 X hn hK33 σ x1 x3 x2 0 h_x1 h_x3 h_x2 ⟨by decide, by decide⟩ _ (lv_sub hl [0, 1, 3] rfl) hw
  · have hw := hw.2 c1
    refine ml_iconst (pc := 138) X dX12_back_138 ?_
    refine ml_iload_n (pc := 139) X hl 3 rfl rfl dX12_back_139 ?_
    refine ml_ishl (pc := 140) X dX12_back_140 ?_
    refine ml_goto (pc := 141) (tgt := 145) X dX12_back_141 (by decide) ?_
    exact u_X12_back_145 X hn hK33 σ x1 x3 x2 (b_shl 1 x3) h_x1 h_x3 h_x2 (b_shl_r _ _) _ (lv_sub hl [0, 1, 3] rfl) hw
set_option maxRecDepth 100000 in
set_option maxHeartbeats 4000000 in
theorem u_X12_back_33 {p : Program} {e : Env} {s : State} {m : MethodId} {args : Array Value} {below : List Frame} {meth : Method} {c : Code} {base : Nat} {D : va_G} {cA : Nat → ClassId} {n : Nat} {l : Launch} {Q : Int → ml_St → Prop} {K153 : ml_St → Int → Prop} (X : ml_X p s m c meth args D cA cX12_back 6 RX12 (some .int)) (hn : 256 ≤ n) (hK153 : ∀ (σ : ml_St) (x2 : Int) (h_x2 : I32 x2) (ls : Array Slot), lv_has ls 6 [(2, .int (Int32.ofInt x2))] → K153 σ x2 → ml_V p l e rm_X12_back s m args below meth c (MQ below (ml_Qi I32 base D cA n Q) args s 0 0 (ml_A base)) base D cA 0 0 n n σ (F0 m 153 ls [])) : ∀ (N : Nat) (σ : ml_St) (x1 : Int) (x2 : Int) (x3 : Int) (h_x1 : I32 x1) (h_x2 : I32 x2) (h_x3 : I32 x3) (ls : Array Slot), lv_has ls 6 [(0, .ref (base + (215 : Int).toNat)), (1, .int (Int32.ofInt x1)), (2, .int (Int32.ofInt x2)), (3, .int (Int32.ofInt x3))] → f_X12_back_u33 Q K153 N σ x1 x2 x3 → ml_V p l e rm_X12_back s m args below meth c (MQ below (ml_Qi I32 base D cA n Q) args s 0 0 (ml_A base)) base D cA 0 0 n n σ (F0 m 33 ls []) := by
  intro N
  induction N with
  | zero => intro σ x1 x2 x3 h_x1 h_x2 h_x3 ls hl hw; exact False.elim hw
  | succ N ih =>
    intro σ x1 x2 x3 h_x1 h_x2 h_x3 ls hl hw
    unfold f_X12_back_u33 at hw
    refine ml_iload_n (pc := 33) X hl 3 rfl rfl dX12_back_33 ?_
    refine ml_aload_n (pc := 34) X hl 0 rfl rfl dX12_back_34 ?_
    refine gf_X12_140 (pc := 35) X (ml_c215 hn) dX12_back_35 (fun r1 => ?_)
    have hw := hw r1
    refine ml_icmp_ge (pc := 38) (tgt := 153) X h_x3 r1 dX12_back_38 (by decide) (fun c2 => ?_) (fun c2 => ?_)
    · have hw := hw.1 c2
      exact hK153 σ x2 h_x2 _ (lv_sub hl [2] rfl) hw
    · have hw := hw.2 c2
      refine ml_aload_n (pc := 41) X hl 0 rfl rfl dX12_back_41 ?_
      refine ml_iload_n (pc := 42) X hl 3 rfl rfl dX12_back_42 ?_
      exact hw.elim
set_option maxRecDepth 100000 in
set_option maxHeartbeats 4000000 in
theorem u_X12_back_153 {p : Program} {e : Env} {s : State} {m : MethodId} {args : Array Value} {below : List Frame} {meth : Method} {c : Code} {base : Nat} {D : va_G} {cA : Nat → ClassId} {n : Nat} {l : Launch} {Q : Int → ml_St → Prop} (X : ml_X p s m c meth args D cA cX12_back 6 RX12 (some .int)) (hn : 256 ≤ n) (σ : ml_St) (x2 : Int) (h_x2 : I32 x2) (ls : Array Slot) (hl : lv_has ls 6 [(2, .int (Int32.ofInt x2))]) (hw : f_X12_back_u153 Q σ x2) : ml_V p l e rm_X12_back s m args below meth c (MQ below (ml_Qi I32 base D cA n Q) args s 0 0 (ml_A base)) base D cA 0 0 n n σ (F0 m 153 ls []) := by
  unfold f_X12_back_u153 at hw
  refine ml_iload_n (pc := 153) X hl 0 rfl rfl dX12_back_153 ?_
  exact ml_iret (pc := 154) X h_x2 hw dX12_back_154
set_option maxRecDepth 100000 in
set_option maxHeartbeats 4000000 in
theorem u_X12_back_0 {p : Program} {e : Env} {s : State} {m : MethodId} {args : Array Value} {below : List Frame} {meth : Method} {c : Code} {base : Nat} {D : va_G} {cA : Nat → ClassId} {n : Nat} {l : Launch} {Q : Int → ml_St → Prop} (X : ml_X p s m c meth args D cA cX12_back 6 RX12 (some .int)) (hn : 256 ≤ n) (σ : ml_St) (x1 : Int) (h_x1 : I32 x1) (ls : Array Slot) (hl : lv_has ls 6 [(0, .ref (base + (215 : Int).toNat)), (1, .int (Int32.ofInt x1))]) (hw : f_X12_back_u0 Q σ x1) : ml_V p l e rm_X12_back s m args below meth c (MQ below (ml_Qi I32 base D cA n Q) args s 0 0 (ml_A base)) base D cA 0 0 n n σ (F0 m 0 ls []) := by
  unfold f_X12_back_u0 at hw
  refine ml_iload_n (pc := 0) X hl 1 rfl rfl dX12_back_0 ?_
  refine ml_i2l (pc := 1) X h_x1 dX12_back_1 ?_
  refine ml_lconst1 (pc := 2) X dX12_back_2 ?_
  refine ml_ldc2 (pc := 3) (v := 8) X dX12_back_3 tc_6_226 ?_
  refine ml_callzS (pc := 6) (rest := []) X [.long (Int64.ofInt x1), .long (Int64.ofInt 1), .long (Int64.ofInt 8)] (c_X12_lies l base D cA n hn σ x1 1 8 (h_x1).l ⟨by decide, by decide⟩ ⟨by decide, by decide⟩ _ hw) cv_X12_143 ⟨rfl, rfl⟩ ⟨by decide, by decide⟩ rfl rfl hl (Nat.le_of_ble_eq_true rfl) ⟨Nat.zero_le _, Nat.zero_le _⟩ dX12_back_6 (fun r1 σ1 t1 hw => ?_)
  have hw := hw t1
  refine ml_if_eq (pc := 9) (tgt := 22) X t1.i dX12_back_9 (by decide) (fun c2 => ?_) (fun c2 => ?_)
  · have hw := hw.1 c2
    exact u_X12_back_22 X hn σ1   _ (lv_sub hl [] rfl) hw
  · have hw := hw.2 c2
    refine ml_iconst (pc := 12) X dX12_back_12 ?_
    refine ml_iload_n (pc := 13) X hl 1 rfl rfl dX12_back_13 ?_
    obtain ⟨v3, hw⟩ := hw
    refine ml_imul (pc := 14) X dX12_back_14 ?_
    refine ml_aload_n (pc := 15) X hl 0 rfl rfl dX12_back_15 ?_
    refine gf_X12_155 (pc := 16) X (ml_c215 hn) dX12_back_16 (fun r4 => ?_)
    have hw := hw r4
    refine ml_icmp_le (pc := 19) (tgt := 24) X v3 r4 dX12_back_19 (by decide) (fun c5 => ?_) (fun c5 => ?_)
    · have hw := hw.1 c5
      refine ml_aload_n (pc := 24) X hl 0 rfl rfl dX12_back_24 ?_
      refine ml_iconst (pc := 25) X dX12_back_25 ?_
      refine pf_X12_155 (pc := 26) X (ml_c215 hn) ⟨by decide, by decide⟩ dX12_back_26 (fun σ6 g6 => ?_)
      have hw := hw σ6 g6
      refine ml_iconst (pc := 29) X dX12_back_29 ?_
      refine ml_istore_n (pc := 30) X rfl hl (by decide) (lst' := [(2, .int (Int32.ofInt 0)), (0, .ref (base + (215 : Int).toNat)), (1, .int (Int32.ofInt x1))]) rfl dX12_back_30 (fun ls hl => ?_)
      refine ml_iconst (pc := 31) X dX12_back_31 ?_
      refine ml_istore_n (pc := 32) X rfl hl (by decide) (lst' := [(3, .int (Int32.ofInt 0)), (2, .int (Int32.ofInt 0)), (0, .ref (base + (215 : Int).toNat)), (1, .int (Int32.ofInt x1))]) rfl dX12_back_32 (fun ls hl => ?_)
      obtain ⟨N0, hw⟩ := hw
      exact u_X12_back_33 X hn (fun σ x2 h_x2 ls hl hw => u_X12_back_153 X hn σ x2 h_x2 ls hl hw) N0 σ6 x1 0 0 h_x1 ⟨by decide, by decide⟩ ⟨by decide, by decide⟩ _ (lv_sub hl [2, 3, 1, 0] rfl) hw
    · have hw := hw.2 c5
      exact u_X12_back_22 X hn σ1   _ (lv_sub hl [] rfl) hw
set_option maxRecDepth 100000 in
theorem c_X12_back (l : Launch) (base : Nat) (D : va_G) (cA : Nat → ClassId) (n : Nat) (hn : 256 ≤ n) (σ : ml_St) (x1 : Int) (h_x1 : I32 x1) (Q : Int → ml_St → Prop) (hw : f_X12_back σ x1 Q) : Met l yX12_back (Cond.code yX12_back cX12_back 6 (some .int) :: ml_T) rm_X12_back (va_Pc [.ref (base + (215 : Int).toNat), .int (Int32.ofInt x1)] (ml_U base D cA n σ)) (ml_Qi I32 base D cA n Q) 0 0 (ml_A base) := by
  refine Met.ofW (cc := cX12_back) (maxL := 6) (ret := (some .int)) (by decide) rfl ?_
  intro p e s m args below meth c s₁ B hml hv
  obtain ⟨rfl, hP, hK, hok, hro⟩ := hv
  have X : ml_X p s m c meth _ D cA cX12_back 6 RX12 (some .int) := ⟨B.exec, B.bytes, hml, findClass_of_methodNamed B.named, fun w hw => atoms_spec (ws := Cond.code yX12_back cX12_back 6 (some .int) :: ml_T) B.pre w (List.mem_cons_of_mem _ hw), hK, B.notSynchronized, B.returns⟩
  have hl := lv_entry [.ref (base + (215 : Int).toNat), .int (Int32.ofInt x1)] (n := 6) (Nat.le_of_ble_eq_true rfl)
  rw [lg_entry_eq]
  generalize (lg_sl [.ref (base + (215 : Int).toNat), .int (Int32.ofInt x1)] ++ List.replicate (6 - (lg_sl [.ref (base + (215 : Int).toNat), .int (Int32.ofInt x1)]).length) Slot.unset).toArray = ls at hl ⊢
  have hl : lv_has ls 6 [(0, .ref (base + (215 : Int).toNat)), (1, .int (Int32.ofInt x1))] := hl
  unfold f_X12_back at hw
  exact u_X12_back_0 X hn σ x1 h_x1 _ (lv_sub hl [0, 1] rfl) hw s.heap [] hP va_S.rf hok hro
theorem dX12_walk_0 : decode cX12_walk 0 = .ok (.aload_n 0, 1) := by decide +kernel
theorem dX12_walk_1 : decode cX12_walk 1 = .ok (.iload_n 1, 1) := by decide +kernel
theorem dX12_walk_2 : decode cX12_walk 2 = .ok (.invokevirtual 287, 3) := by decide +kernel
theorem dX12_walk_5 : decode cX12_walk 5 = .ok (.ifCond .eq 28, 3) := by decide +kernel
theorem dX12_walk_8 : decode cX12_walk 8 = .ok (.aload_n 0, 1) := by decide +kernel
theorem dX12_walk_9 : decode cX12_walk 9 = .ok (.iload_n 1, 1) := by decide +kernel
theorem dX12_walk_10 : decode cX12_walk 10 = .ok (.invokevirtual 217, 3) := by decide +kernel
theorem dX12_walk_13 : decode cX12_walk 13 = .ok (.ldc2_w 427, 3) := by decide +kernel
theorem dX12_walk_16 : decode cX12_walk 16 = .ok (.lcmp, 1) := by decide +kernel
theorem dX12_walk_17 : decode cX12_walk 17 = .ok (.ifCond .gt 16, 3) := by decide +kernel
theorem dX12_walk_20 : decode cX12_walk 20 = .ok (.aload_n 0, 1) := by decide +kernel
theorem dX12_walk_21 : decode cX12_walk 21 = .ok (.iload_n 2, 1) := by decide +kernel
theorem dX12_walk_22 : decode cX12_walk 22 = .ok (.invokevirtual 295, 3) := by decide +kernel
theorem dX12_walk_25 : decode cX12_walk 25 = .ok (.ifCond .eq 8, 3) := by decide +kernel
theorem dX12_walk_28 : decode cX12_walk 28 = .ok (.iload_n 3, 1) := by decide +kernel
theorem dX12_walk_29 : decode cX12_walk 29 = .ok (.iconst (-1), 1) := by decide +kernel
theorem dX12_walk_30 : decode cX12_walk 30 = .ok (.if_icmp .ge 5, 3) := by decide +kernel
theorem dX12_walk_33 : decode cX12_walk 33 = .ok (.iconst (-1), 1) := by decide +kernel
theorem dX12_walk_34 : decode cX12_walk 34 = .ok (.ireturn, 1) := by decide +kernel
theorem dX12_walk_35 : decode cX12_walk 35 = .ok (.iconst 0, 1) := by decide +kernel
theorem dX12_walk_36 : decode cX12_walk 36 = .ok (.istore 4, 2) := by decide +kernel
theorem dX12_walk_38 : decode cX12_walk 38 = .ok (.iload 4, 2) := by decide +kernel
theorem dX12_walk_40 : decode cX12_walk 40 = .ok (.iload_n 1, 1) := by decide +kernel
theorem dX12_walk_41 : decode cX12_walk 41 = .ok (.if_icmp .gt 15, 3) := by decide +kernel
theorem dX12_walk_44 : decode cX12_walk 44 = .ok (.aload_n 0, 1) := by decide +kernel
theorem dX12_walk_45 : decode cX12_walk 45 = .ok (.iload 4, 2) := by decide +kernel
theorem dX12_walk_47 : decode cX12_walk 47 = .ok (.invokevirtual 429, 3) := by decide +kernel
theorem dX12_walk_50 : decode cX12_walk 50 = .ok (.iinc 4 1, 3) := by decide +kernel
theorem dX12_walk_53 : decode cX12_walk 53 = .ok (.goto (-15), 3) := by decide +kernel
theorem dX12_walk_56 : decode cX12_walk 56 = .ok (.aload_n 0, 1) := by decide +kernel
theorem dX12_walk_57 : decode cX12_walk 57 = .ok (.getfield 134, 3) := by decide +kernel
theorem dX12_walk_60 : decode cX12_walk 60 = .ok (.iload_n 1, 1) := by decide +kernel
theorem dX12_walk_61 : decode cX12_walk 61 = .ok (.iaload, 1) := by decide +kernel
theorem dX12_walk_62 : decode cX12_walk 62 = .ok (.istore 4, 2) := by decide +kernel
theorem dX12_walk_64 : decode cX12_walk 64 = .ok (.iload_n 2, 1) := by decide +kernel
theorem dX12_walk_65 : decode cX12_walk 65 = .ok (.aload_n 0, 1) := by decide +kernel
theorem dX12_walk_66 : decode cX12_walk 66 = .ok (.getfield 13, 3) := by decide +kernel
theorem dX12_walk_69 : decode cX12_walk 69 = .ok (.if_icmp .ge 7, 3) := by decide +kernel
theorem dX12_walk_72 : decode cX12_walk 72 = .ok (.iconst 1, 1) := by decide +kernel
theorem dX12_walk_73 : decode cX12_walk 73 = .ok (.goto 4, 3) := by decide +kernel
theorem dX12_walk_76 : decode cX12_walk 76 = .ok (.iconst 0, 1) := by decide +kernel
theorem dX12_walk_77 : decode cX12_walk 77 = .ok (.istore 5, 2) := by decide +kernel
theorem dX12_walk_79 : decode cX12_walk 79 = .ok (.iload_n 2, 1) := by decide +kernel
theorem dX12_walk_80 : decode cX12_walk 80 = .ok (.aload_n 0, 1) := by decide +kernel
theorem dX12_walk_81 : decode cX12_walk 81 = .ok (.getfield 13, 3) := by decide +kernel
theorem dX12_walk_84 : decode cX12_walk 84 = .ok (.if_icmp .ge 7, 3) := by decide +kernel
theorem dX12_walk_87 : decode cX12_walk 87 = .ok (.iload_n 2, 1) := by decide +kernel
theorem dX12_walk_88 : decode cX12_walk 88 = .ok (.goto 9, 3) := by decide +kernel
theorem dX12_walk_91 : decode cX12_walk 91 = .ok (.iload_n 2, 1) := by decide +kernel
theorem dX12_walk_92 : decode cX12_walk 92 = .ok (.aload_n 0, 1) := by decide +kernel
theorem dX12_walk_93 : decode cX12_walk 93 = .ok (.getfield 13, 3) := by decide +kernel
theorem dX12_walk_96 : decode cX12_walk 96 = .ok (.isub, 1) := by decide +kernel
theorem dX12_walk_97 : decode cX12_walk 97 = .ok (.istore 6, 2) := by decide +kernel
theorem dX12_walk_99 : decode cX12_walk 99 = .ok (.iload_n 2, 1) := by decide +kernel
theorem dX12_walk_100 : decode cX12_walk 100 = .ok (.aload_n 0, 1) := by decide +kernel
theorem dX12_walk_101 : decode cX12_walk 101 = .ok (.getfield 13, 3) := by decide +kernel
theorem dX12_walk_104 : decode cX12_walk 104 = .ok (.if_icmp .ge 7, 3) := by decide +kernel
theorem dX12_walk_107 : decode cX12_walk 107 = .ok (.iconst 0, 1) := by decide +kernel
theorem dX12_walk_108 : decode cX12_walk 108 = .ok (.goto 7, 3) := by decide +kernel
theorem dX12_walk_111 : decode cX12_walk 111 = .ok (.iload 4, 2) := by decide +kernel
theorem dX12_walk_113 : decode cX12_walk 113 = .ok (.iconst 1, 1) := by decide +kernel
theorem dX12_walk_114 : decode cX12_walk 114 = .ok (.isub, 1) := by decide +kernel
theorem dX12_walk_115 : decode cX12_walk 115 = .ok (.istore 7, 2) := by decide +kernel
theorem dX12_walk_117 : decode cX12_walk 117 = .ok (.iconst 0, 1) := by decide +kernel
theorem dX12_walk_118 : decode cX12_walk 118 = .ok (.istore 8, 2) := by decide +kernel
theorem dX12_walk_120 : decode cX12_walk 120 = .ok (.iload 7, 2) := by decide +kernel
theorem dX12_walk_122 : decode cX12_walk 122 = .ok (.ifCond .lt 120, 3) := by decide +kernel
theorem dX12_walk_125 : decode cX12_walk 125 = .ok (.iload 7, 2) := by decide +kernel
theorem dX12_walk_127 : decode cX12_walk 127 = .ok (.iload 4, 2) := by decide +kernel
theorem dX12_walk_129 : decode cX12_walk 129 = .ok (.if_icmp .ge 113, 3) := by decide +kernel
theorem dX12_walk_132 : decode cX12_walk 132 = .ok (.aload_n 0, 1) := by decide +kernel
theorem dX12_walk_133 : decode cX12_walk 133 = .ok (.getfield 131, 3) := by decide +kernel
theorem dX12_walk_136 : decode cX12_walk 136 = .ok (.sipush 2000, 3) := by decide +kernel
theorem dX12_walk_139 : decode cX12_walk 139 = .ok (.iload_n 1, 1) := by decide +kernel
theorem dX12_walk_140 : decode cX12_walk 140 = .ok (.imul, 1) := by decide +kernel
theorem dX12_walk_141 : decode cX12_walk 141 = .ok (.iload 7, 2) := by decide +kernel
theorem dX12_walk_143 : decode cX12_walk 143 = .ok (.iadd, 1) := by decide +kernel
theorem dX12_walk_144 : decode cX12_walk 144 = .ok (.baload, 1) := by decide +kernel
theorem dX12_walk_145 : decode cX12_walk 145 = .ok (.istore 9, 2) := by decide +kernel
theorem dX12_walk_147 : decode cX12_walk 147 = .ok (.iload 9, 2) := by decide +kernel
theorem dX12_walk_149 : decode cX12_walk 149 = .ok (.iconst 2, 1) := by decide +kernel
theorem dX12_walk_150 : decode cX12_walk 150 = .ok (.idiv, 1) := by decide +kernel
theorem dX12_walk_151 : decode cX12_walk 151 = .ok (.istore 10, 2) := by decide +kernel
theorem dX12_walk_153 : decode cX12_walk 153 = .ok (.iload 6, 2) := by decide +kernel
theorem dX12_walk_155 : decode cX12_walk 155 = .ok (.iload 10, 2) := by decide +kernel
theorem dX12_walk_157 : decode cX12_walk 157 = .ok (.if_icmp .eq 12, 3) := by decide +kernel
theorem dX12_walk_160 : decode cX12_walk 160 = .ok (.iload 6, 2) := by decide +kernel
theorem dX12_walk_162 : decode cX12_walk 162 = .ok (.iload 10, 2) := by decide +kernel
theorem dX12_walk_164 : decode cX12_walk 164 = .ok (.iconst 1, 1) := by decide +kernel
theorem dX12_walk_165 : decode cX12_walk 165 = .ok (.iadd, 1) := by decide +kernel
theorem dX12_walk_166 : decode cX12_walk 166 = .ok (.if_icmp .ne 58, 3) := by decide +kernel
theorem dX12_walk_169 : decode cX12_walk 169 = .ok (.iload 8, 2) := by decide +kernel
theorem dX12_walk_171 : decode cX12_walk 171 = .ok (.iload_n 3, 1) := by decide +kernel
theorem dX12_walk_172 : decode cX12_walk 172 = .ok (.if_icmp .ne 6, 3) := by decide +kernel
theorem dX12_walk_175 : decode cX12_walk 175 = .ok (.iload 7, 2) := by decide +kernel
theorem dX12_walk_177 : decode cX12_walk 177 = .ok (.ireturn, 1) := by decide +kernel
theorem dX12_walk_178 : decode cX12_walk 178 = .ok (.iinc 8 1, 3) := by decide +kernel
theorem dX12_walk_181 : decode cX12_walk 181 = .ok (.iload 6, 2) := by decide +kernel
theorem dX12_walk_183 : decode cX12_walk 183 = .ok (.iload 10, 2) := by decide +kernel
theorem dX12_walk_185 : decode cX12_walk 185 = .ok (.if_icmp .ne 10, 3) := by decide +kernel
theorem dX12_walk_188 : decode cX12_walk 188 = .ok (.iload 10, 2) := by decide +kernel
theorem dX12_walk_190 : decode cX12_walk 190 = .ok (.iconst 1, 1) := by decide +kernel
theorem dX12_walk_191 : decode cX12_walk 191 = .ok (.iadd, 1) := by decide +kernel
theorem dX12_walk_192 : decode cX12_walk 192 = .ok (.goto 5, 3) := by decide +kernel
theorem dX12_walk_195 : decode cX12_walk 195 = .ok (.iload 10, 2) := by decide +kernel
theorem dX12_walk_197 : decode cX12_walk 197 = .ok (.istore 6, 2) := by decide +kernel
theorem dX12_walk_199 : decode cX12_walk 199 = .ok (.iload 9, 2) := by decide +kernel
theorem dX12_walk_201 : decode cX12_walk 201 = .ok (.iconst 2, 1) := by decide +kernel
theorem dX12_walk_202 : decode cX12_walk 202 = .ok (.irem, 1) := by decide +kernel
theorem dX12_walk_203 : decode cX12_walk 203 = .ok (.iconst 1, 1) := by decide +kernel
theorem dX12_walk_204 : decode cX12_walk 204 = .ok (.if_icmp .ne 7, 3) := by decide +kernel
theorem dX12_walk_207 : decode cX12_walk 207 = .ok (.iconst 1, 1) := by decide +kernel
theorem dX12_walk_208 : decode cX12_walk 208 = .ok (.goto 4, 3) := by decide +kernel
theorem dX12_walk_211 : decode cX12_walk 211 = .ok (.iconst 0, 1) := by decide +kernel
theorem dX12_walk_212 : decode cX12_walk 212 = .ok (.iload 5, 2) := by decide +kernel
theorem dX12_walk_214 : decode cX12_walk 214 = .ok (.if_icmp .ne 7, 3) := by decide +kernel
theorem dX12_walk_217 : decode cX12_walk 217 = .ok (.iconst 1, 1) := by decide +kernel
theorem dX12_walk_218 : decode cX12_walk 218 = .ok (.goto 4, 3) := by decide +kernel
theorem dX12_walk_221 : decode cX12_walk 221 = .ok (.iconst 0, 1) := by decide +kernel
theorem dX12_walk_222 : decode cX12_walk 222 = .ok (.istore 5, 2) := by decide +kernel
theorem dX12_walk_224 : decode cX12_walk 224 = .ok (.iload 7, 2) := by decide +kernel
theorem dX12_walk_226 : decode cX12_walk 226 = .ok (.iload 5, 2) := by decide +kernel
theorem dX12_walk_228 : decode cX12_walk 228 = .ok (.ifCond .eq 7, 3) := by decide +kernel
theorem dX12_walk_231 : decode cX12_walk 231 = .ok (.iconst 1, 1) := by decide +kernel
theorem dX12_walk_232 : decode cX12_walk 232 = .ok (.goto 4, 3) := by decide +kernel
theorem dX12_walk_235 : decode cX12_walk 235 = .ok (.iconst (-1), 1) := by decide +kernel
theorem dX12_walk_236 : decode cX12_walk 236 = .ok (.iadd, 1) := by decide +kernel
theorem dX12_walk_237 : decode cX12_walk 237 = .ok (.istore 7, 2) := by decide +kernel
theorem dX12_walk_239 : decode cX12_walk 239 = .ok (.goto (-119), 3) := by decide +kernel
theorem dX12_walk_242 : decode cX12_walk 242 = .ok (.iload_n 3, 1) := by decide +kernel
theorem dX12_walk_243 : decode cX12_walk 243 = .ok (.iconst (-1), 1) := by decide +kernel
theorem dX12_walk_244 : decode cX12_walk 244 = .ok (.if_icmp .ne 23, 3) := by decide +kernel
theorem dX12_walk_247 : decode cX12_walk 247 = .ok (.iload 5, 2) := by decide +kernel
theorem dX12_walk_249 : decode cX12_walk 249 = .ok (.ifCond .eq 13, 3) := by decide +kernel
theorem dX12_walk_252 : decode cX12_walk 252 = .ok (.aload_n 0, 1) := by decide +kernel
theorem dX12_walk_253 : decode cX12_walk 253 = .ok (.getfield 13, 3) := by decide +kernel
theorem dX12_walk_256 : decode cX12_walk 256 = .ok (.iload 6, 2) := by decide +kernel
theorem dX12_walk_258 : decode cX12_walk 258 = .ok (.iadd, 1) := by decide +kernel
theorem dX12_walk_259 : decode cX12_walk 259 = .ok (.goto 9, 3) := by decide +kernel
theorem dX12_walk_262 : decode cX12_walk 262 = .ok (.iload 6, 2) := by decide +kernel
theorem dX12_walk_264 : decode cX12_walk 264 = .ok (.goto 4, 3) := by decide +kernel
theorem dX12_walk_267 : decode cX12_walk 267 = .ok (.iconst (-1), 1) := by decide +kernel
theorem dX12_walk_268 : decode cX12_walk 268 = .ok (.ireturn, 1) := by decide +kernel
def f_X12_walk_u33 (Q : Int → ml_St → Prop) (σ : ml_St) : Prop :=
Q (-1) σ
def f_X12_walk_u38 (Q : Int → ml_St → Prop) (K56 : ml_St → Int → Int → Int → Prop) : Nat → ml_St → Int → Int → Int → Int → Prop
| 0, _, _, _, _, _ => False
| N + 1, σ, x1, x2, x3, x4 =>
(x1 < x4 →
K56 σ x1 x2 x3) ∧
(¬ (x1 < x4) →
False)
def f_X12_walk_u236 (Q : Int → ml_St → Prop) (K120 : ml_St → Int → Int → Int → Int → Int → Int → Int → Prop) (σ : ml_St) (x1 : Int) (x3 : Int) (x4 : Int) (x5 : Int) (x6 : Int) (x8 : Int) (s0 : Int) (s1 : Int) : Prop :=
I32 (s0 + s1) ∧
∀ y2 : Int, y2 = s0 + s1 →
K120 σ x1 x3 x4 x5 x6 y2 x8
def f_X12_walk_u224 (Q : Int → ml_St → Prop) (K120 : ml_St → Int → Int → Int → Int → Int → Int → Int → Prop) (σ : ml_St) (x1 : Int) (x3 : Int) (x4 : Int) (x5 : Int) (x6 : Int) (x7 : Int) (x8 : Int) : Prop :=
(x5 = 0 →
f_X12_walk_u236 Q K120 σ x1 x3 x4 x5 x6 x8 x7 (-1)) ∧
(x5 ≠ 0 →
f_X12_walk_u236 Q K120 σ x1 x3 x4 x5 x6 x8 x7 1)
def f_X12_walk_u222 (Q : Int → ml_St → Prop) (K120 : ml_St → Int → Int → Int → Int → Int → Int → Int → Prop) (σ : ml_St) (x1 : Int) (x3 : Int) (x4 : Int) (x6 : Int) (x7 : Int) (x8 : Int) (s0 : Int) : Prop :=
f_X12_walk_u224 Q K120 σ x1 x3 x4 s0 x6 x7 x8
def f_X12_walk_u212 (Q : Int → ml_St → Prop) (K120 : ml_St → Int → Int → Int → Int → Int → Int → Int → Prop) (σ : ml_St) (x1 : Int) (x3 : Int) (x4 : Int) (x5 : Int) (x6 : Int) (x7 : Int) (x8 : Int) (s0 : Int) : Prop :=
(s0 ≠ x5 →
f_X12_walk_u222 Q K120 σ x1 x3 x4 x6 x7 x8 0) ∧
(s0 = x5 →
f_X12_walk_u222 Q K120 σ x1 x3 x4 x6 x7 x8 1)
def f_X12_walk_u197 (Q : Int → ml_St → Prop) (K120 : ml_St → Int → Int → Int → Int → Int → Int → Int → Prop) (σ : ml_St) (x1 : Int) (x3 : Int) (x4 : Int) (x5 : Int) (x7 : Int) (x8 : Int) (x9 : Int) (s0 : Int) : Prop :=
(2 : Int) ≠ 0 ∧ I32 (Int.tmod x9 2) ∧
(((Int.tmod x9 2) : Int) ≠ 1 →
f_X12_walk_u212 Q K120 σ x1 x3 x4 x5 s0 x7 x8 0) ∧
((Int.tmod x9 2) = 1 →
f_X12_walk_u212 Q K120 σ x1 x3 x4 x5 s0 x7 x8 1)
def f_X12_walk_u169 (Q : Int → ml_St → Prop) (K120 : ml_St → Int → Int → Int → Int → Int → Int → Int → Prop) (K175 : ml_St → Int → Prop) (σ : ml_St) (x1 : Int) (x3 : Int) (x4 : Int) (x5 : Int) (x6 : Int) (x7 : Int) (x8 : Int) (x9 : Int) (x10 : Int) : Prop :=
(x8 ≠ x3 →
I32 (x8 + 1) ∧
∀ y2 : Int, y2 = x8 + 1 →
(x6 ≠ x10 →
f_X12_walk_u197 Q K120 σ x1 x3 x4 x5 x7 y2 x9 x10) ∧
(x6 = x10 →
I32 (x10 + 1) ∧
f_X12_walk_u197 Q K120 σ x1 x3 x4 x5 x7 y2 x9 (x10 + 1))) ∧
(x8 = x3 →
K175 σ x7)
def f_X12_walk_u120 (Q : Int → ml_St → Prop) (K175 : ml_St → Int → Prop) (K242 : ml_St → Int → Int → Int → Prop) : Nat → ml_St → Int → Int → Int → Int → Int → Int → Int → Prop
| 0, _, _, _, _, _, _, _, _ => False
| N + 1, σ, x1, x3, x4, x5, x6, x7, x8 =>
(x7 < 0 →
K242 σ x3 x5 x6) ∧
(¬ (x7 < 0) →
(x4 ≤ x7 →
K242 σ x3 x5 x6) ∧
(¬ (x4 ≤ x7) →
I32 (2000 * x1) ∧
I32 ((2000 * x1) + x7) ∧
(0 : Int) ≤ ((2000 * x1) + x7) ∧ (((2000 * x1) + x7) : Int) < 32000 ∧
∀ _ : ml_I8 (σ 254 ((2000 * x1) + x7)),
∀ y6 : Int, y6 = σ 254 ((2000 * x1) + x7) →
(2 : Int) ≠ 0 ∧ I32 (Int.tdiv y6 2) ∧
∀ y8 : Int, y8 = Int.tdiv y6 2 →
(x6 = y8 →
f_X12_walk_u169 Q (f_X12_walk_u120 Q K175 K242 N) K175 σ x1 x3 x4 x5 x6 x7 x8 y6 y8) ∧
(x6 ≠ y8 →
I32 (y8 + 1) ∧
(x6 ≠ (y8 + 1) →
f_X12_walk_u224 Q (f_X12_walk_u120 Q K175 K242 N) σ x1 x3 x4 x5 x6 x7 x8) ∧
(x6 = (y8 + 1) →
f_X12_walk_u169 Q (f_X12_walk_u120 Q K175 K242 N) K175 σ x1 x3 x4 x5 x6 x7 x8 y6 y8))))
def f_X12_walk_u175 (Q : Int → ml_St → Prop) (σ : ml_St) (x7 : Int) : Prop :=
Q x7 σ
def f_X12_walk_u268 (Q : Int → ml_St → Prop) (σ : ml_St) (s0 : Int) : Prop :=
Q s0 σ
def f_X12_walk_u242 (Q : Int → ml_St → Prop) (σ : ml_St) (x3 : Int) (x5 : Int) (x6 : Int) : Prop :=
(x3 ≠ (-1) →
f_X12_walk_u268 Q σ (-1)) ∧
(x3 = (-1) →
(x5 = 0 →
f_X12_walk_u268 Q σ x6) ∧
(x5 ≠ 0 →
∀ _ : I32 (σ 215 2),
I32 ((σ 215 2) + x6) ∧
f_X12_walk_u268 Q σ ((σ 215 2) + x6)))
def f_X12_walk_u115 (Q : Int → ml_St → Prop) (σ : ml_St) (x1 : Int) (x3 : Int) (x4 : Int) (x5 : Int) (x6 : Int) (s0 : Int) : Prop :=
∃ N1, f_X12_walk_u120 Q (f_X12_walk_u175 Q) (f_X12_walk_u242 Q) N1 σ x1 x3 x4 x5 x6 s0 0
def f_X12_walk_u97 (Q : Int → ml_St → Prop) (σ : ml_St) (x1 : Int) (x2 : Int) (x3 : Int) (x4 : Int) (x5 : Int) (s0 : Int) : Prop :=
∀ _ : I32 (σ 215 2),
((σ 215 2) ≤ x2 →
I32 (x4 - 1) ∧
f_X12_walk_u115 Q σ x1 x3 x4 x5 s0 (x4 - 1)) ∧
(¬ ((σ 215 2) ≤ x2) →
f_X12_walk_u115 Q σ x1 x3 x4 x5 s0 0)
def f_X12_walk_u77 (Q : Int → ml_St → Prop) (σ : ml_St) (x1 : Int) (x2 : Int) (x3 : Int) (x4 : Int) (s0 : Int) : Prop :=
∀ _ : I32 (σ 215 2),
((σ 215 2) ≤ x2 →
∀ _ : I32 (σ 215 2),
I32 (x2 - (σ 215 2)) ∧
f_X12_walk_u97 Q σ x1 x2 x3 x4 s0 (x2 - (σ 215 2))) ∧
(¬ ((σ 215 2) ≤ x2) →
f_X12_walk_u97 Q σ x1 x2 x3 x4 s0 x2)
def f_X12_walk_u56 (Q : Int → ml_St → Prop) (σ : ml_St) (x1 : Int) (x2 : Int) (x3 : Int) : Prop :=
(0 : Int) ≤ x1 ∧ (x1 : Int) < 16 ∧
∀ _ : I32 (σ 255 x1),
∀ y2 : Int, y2 = σ 255 x1 →
∀ _ : I32 (σ 215 2),
((σ 215 2) ≤ x2 →
f_X12_walk_u77 Q σ x1 x2 x3 y2 0) ∧
(¬ ((σ 215 2) ≤ x2) →
f_X12_walk_u77 Q σ x1 x2 x3 y2 1)
def f_X12_walk_u0 (Q : Int → ml_St → Prop) (σ : ml_St) (x1 : Int) (x2 : Int) (x3 : Int) : Prop :=
f_X12_isWord σ x1 (fun r1 σ1 => ∀ _ : ml_B r1,
(r1 = 0 →
f_X12_walk_u33 Q σ1) ∧
(r1 ≠ 0 →
False))
def f_X12_walk (σ : ml_St) (x1 : Int) (x2 : Int) (x3 : Int) (Q : Int → ml_St → Prop) : Prop := f_X12_walk_u0 Q σ x1 x2 x3
def rm_X12_walk : Room := { frames := 2, cells := 0, slots := 0, locals := 46 }
set_option maxRecDepth 100000 in
set_option maxHeartbeats 4000000 in
theorem u_X12_walk_33 {p : Program} {e : Env} {s : State} {m : MethodId} {args : Array Value} {below : List Frame} {meth : Method} {c : Code} {base : Nat} {D : va_G} {cA : Nat → ClassId} {n : Nat} {l : Launch} {Q : Int → ml_St → Prop} (X : ml_X p s m c meth args D cA cX12_walk 11 RX12 (some .int)) (hn : 256 ≤ n) (σ : ml_St) (ls : Array Slot) (hl : lv_has ls 11 []) (hw : f_X12_walk_u33 Q σ) : ml_V p l e rm_X12_walk s m args below meth c (MQ below (ml_Qi I32 base D cA n Q) args s 0 0 (ml_A base)) base D cA 0 0 n n σ (F0 m 33 ls []) := by
  unfold f_X12_walk_u33 at hw
  refine ml_iconst (pc := 33) X dX12_walk_33 ?_
  exact ml_iret (pc := 34) X ⟨by decide, by decide⟩ hw dX12_walk_34
set_option maxRecDepth 100000 in
set_option maxHeartbeats 4000000 in
theorem u_X12_walk_38 {p : Program} {e : Env} {s : State} {m : MethodId} {args : Array Value} {below : List Frame} {meth : Method} {c : Code} {base : Nat} {D : va_G} {cA : Nat → ClassId} {n : Nat} {l : Launch} {Q : Int → ml_St → Prop} {K56 : ml_St → Int → Int → Int → Prop} (X : ml_X p s m c meth args D cA cX12_walk 11 RX12 (some .int)) (hn : 256 ≤ n) (hK56 : ∀ (σ : ml_St) (x1 : Int) (x2 : Int) (x3 : Int) (h_x1 : I32 x1) (h_x2 : I32 x2) (h_x3 : I32 x3) (ls : Array Slot), lv_has ls 11 [(0, .ref (base + (215 : Int).toNat)), (1, .int (Int32.ofInt x1)), (2, .int (Int32.ofInt x2)), (3, .int (Int32.ofInt x3))] → K56 σ x1 x2 x3 → ml_V p l e rm_X12_walk s m args below meth c (MQ below (ml_Qi I32 base D cA n Q) args s 0 0 (ml_A base)) base D cA 0 0 n n σ (F0 m 56 ls [])) : ∀ (N : Nat) (σ : ml_St) (x1 : Int) (x2 : Int) (x3 : Int) (x4 : Int) (h_x1 : I32 x1) (h_x2 : I32 x2) (h_x3 : I32 x3) (h_x4 : I32 x4) (ls : Array Slot), lv_has ls 11 [(0, .ref (base + (215 : Int).toNat)), (1, .int (Int32.ofInt x1)), (2, .int (Int32.ofInt x2)), (3, .int (Int32.ofInt x3)), (4, .int (Int32.ofInt x4))] → f_X12_walk_u38 Q K56 N σ x1 x2 x3 x4 → ml_V p l e rm_X12_walk s m args below meth c (MQ below (ml_Qi I32 base D cA n Q) args s 0 0 (ml_A base)) base D cA 0 0 n n σ (F0 m 38 ls []) := by
  intro N
  induction N with
  | zero => intro σ x1 x2 x3 x4 h_x1 h_x2 h_x3 h_x4 ls hl hw; exact False.elim hw
  | succ N ih =>
    intro σ x1 x2 x3 x4 h_x1 h_x2 h_x3 h_x4 ls hl hw
    unfold f_X12_walk_u38 at hw
    refine ml_iload (pc := 38) X hl 4 rfl dX12_walk_38 ?_
    refine ml_iload_n (pc := 40) X hl 1 rfl rfl dX12_walk_40 ?_
    refine ml_icmp_gt (pc := 41) (tgt := 56) X h_x4 h_x1 dX12_walk_41 (by decide) (fun c1 => ?_) (fun c1 => ?_)
    · have hw := hw.1 c1
      exact hK56 σ x1 x2 x3 h_x1 h_x2 h_x3 _ (lv_sub hl [0, 1, 2, 3] rfl) hw
    · have hw := hw.2 c1
      refine ml_aload_n (pc := 44) X hl 0 rfl rfl dX12_walk_44 ?_
      refine ml_iload (pc := 45) X hl 4 rfl dX12_walk_45 ?_
      exact hw.elim
set_option maxRecDepth 100000 in
set_option maxHeartbeats 4000000 in
theorem u_X12_walk_236 {p : Program} {e : Env} {s : State} {m : MethodId} {args : Array Value} {below : List Frame} {meth : Method} {c : Code} {base : Nat} {D : va_G} {cA : Nat → ClassId} {n : Nat} {l : Launch} {Q : Int → ml_St → Prop} {K120 : ml_St → Int → Int → Int → Int → Int → Int → Int → Prop} (X : ml_X p s m c meth args D cA cX12_walk 11 RX12 (some .int)) (hn : 256 ≤ n) (hK120 : ∀ (σ : ml_St) (x1 : Int) (x3 : Int) (x4 : Int) (x5 : Int) (x6 : Int) (x7 : Int) (x8 : Int) (h_x1 : I32 x1) (h_x3 : I32 x3) (h_x4 : I32 x4) (h_x5 : ml_B x5) (h_x6 : I32 x6) (h_x7 : I32 x7) (h_x8 : I32 x8) (ls : Array Slot), lv_has ls 11 [(0, .ref (base + (215 : Int).toNat)), (1, .int (Int32.ofInt x1)), (3, .int (Int32.ofInt x3)), (4, .int (Int32.ofInt x4)), (5, .int (Int32.ofInt x5)), (6, .int (Int32.ofInt x6)), (7, .int (Int32.ofInt x7)), (8, .int (Int32.ofInt x8))] → K120 σ x1 x3 x4 x5 x6 x7 x8 → ml_V p l e rm_X12_walk s m args below meth c (MQ below (ml_Qi I32 base D cA n Q) args s 0 0 (ml_A base)) base D cA 0 0 n n σ (F0 m 120 ls [])) (σ : ml_St) (x1 : Int) (x3 : Int) (x4 : Int) (x5 : Int) (x6 : Int) (x8 : Int) (s0 : Int) (s1 : Int) (h_x1 : I32 x1) (h_x3 : I32 x3) (h_x4 : I32 x4) (h_x5 : ml_B x5) (h_x6 : I32 x6) (h_x8 : I32 x8) (h_s0 : I32 s0) (h_s1 : I32 s1) (ls : Array Slot) (hl : lv_has ls 11 [(0, .ref (base + (215 : Int).toNat)), (1, .int (Int32.ofInt x1)), (3, .int (Int32.ofInt x3)), (4, .int (Int32.ofInt x4)), (5, .int (Int32.ofInt x5)), (6, .int (Int32.ofInt x6)), (8, .int (Int32.ofInt x8))]) (hw : f_X12_walk_u236 Q K120 σ x1 x3 x4 x5 x6 x8 s0 s1) : ml_V p l e rm_X12_walk s m args below meth c (MQ below (ml_Qi I32 base D cA n Q) args s 0 0 (ml_A base)) base D cA 0 0 n n σ (F0 m 236 ls [.int (Int32.ofInt s1), .int (Int32.ofInt s0)]) := by
  unfold f_X12_walk_u236 at hw
  obtain ⟨v1, hw⟩ := hw
  refine ml_iadd (pc := 236) X dX12_walk_236 ?_
  refine ml_topI (pc := 237) (fun y2 e2 => ?_)
  have hw := hw y2 e2
  have q2 : I32 y2 := by rw [e2]; exact v1
  refine ml_istore (pc := 237) X hl (by decide) (lst' := [(7, .int (Int32.ofInt y2)), (0, .ref (base + (215 : Int).toNat)), (1, .int (Int32.ofInt x1)), (3, .int (Int32.ofInt x3)), (4, .int (Int32.ofInt x4)), (5, .int (Int32.ofInt x5)), (6, .int (Int32.ofInt x6)), (8, .int (Int32.ofInt x8))]) rfl dX12_walk_237 (fun ls hl => ?_)
  refine ml_goto (pc := 239) (tgt := 120) X dX12_walk_239 (by decide) ?_
  exact hK120 σ x1 x3 x4 x5 x6 y2 x8 h_x1 h_x3 h_x4 h_x5 h_x6 q2 h_x8 _ (lv_sub hl [1, 2, 3, 4, 5, 6, 0, 7] rfl) hw
set_option maxRecDepth 100000 in
set_option maxHeartbeats 4000000 in
theorem u_X12_walk_224 {p : Program} {e : Env} {s : State} {m : MethodId} {args : Array Value} {below : List Frame} {meth : Method} {c : Code} {base : Nat} {D : va_G} {cA : Nat → ClassId} {n : Nat} {l : Launch} {Q : Int → ml_St → Prop} {K120 : ml_St → Int → Int → Int → Int → Int → Int → Int → Prop} (X : ml_X p s m c meth args D cA cX12_walk 11 RX12 (some .int)) (hn : 256 ≤ n) (hK120 : ∀ (σ : ml_St) (x1 : Int) (x3 : Int) (x4 : Int) (x5 : Int) (x6 : Int) (x7 : Int) (x8 : Int) (h_x1 : I32 x1) (h_x3 : I32 x3) (h_x4 : I32 x4) (h_x5 : ml_B x5) (h_x6 : I32 x6) (h_x7 : I32 x7) (h_x8 : I32 x8) (ls : Array Slot), lv_has ls 11 [(0, .ref (base + (215 : Int).toNat)), (1, .int (Int32.ofInt x1)), (3, .int (Int32.ofInt x3)), (4, .int (Int32.ofInt x4)), (5, .int (Int32.ofInt x5)), (6, .int (Int32.ofInt x6)), (7, .int (Int32.ofInt x7)), (8, .int (Int32.ofInt x8))] → K120 σ x1 x3 x4 x5 x6 x7 x8 → ml_V p l e rm_X12_walk s m args below meth c (MQ below (ml_Qi I32 base D cA n Q) args s 0 0 (ml_A base)) base D cA 0 0 n n σ (F0 m 120 ls [])) (σ : ml_St) (x1 : Int) (x3 : Int) (x4 : Int) (x5 : Int) (x6 : Int) (x7 : Int) (x8 : Int) (h_x1 : I32 x1) (h_x3 : I32 x3) (h_x4 : I32 x4) (h_x5 : ml_B x5) (h_x6 : I32 x6) (h_x7 : I32 x7) (h_x8 : I32 x8) (ls : Array Slot) (hl : lv_has ls 11 [(0, .ref (base + (215 : Int).toNat)), (1, .int (Int32.ofInt x1)), (3, .int (Int32.ofInt x3)), (4, .int (Int32.ofInt x4)), (5, .int (Int32.ofInt x5)), (6, .int (Int32.ofInt x6)), (7, .int (Int32.ofInt x7)), (8, .int (Int32.ofInt x8))]) (hw : f_X12_walk_u224 Q K120 σ x1 x3 x4 x5 x6 x7 x8) : ml_V p l e rm_X12_walk s m args below meth c (MQ below (ml_Qi I32 base D cA n Q) args s 0 0 (ml_A base)) base D cA 0 0 n n σ (F0 m 224 ls []) := by
  unfold f_X12_walk_u224 at hw
  refine ml_iload (pc := 224) X hl 6 rfl dX12_walk_224 ?_
  refine ml_iload (pc := 226) X hl 4 rfl dX12_walk_226 ?_
  refine ml_if_eq (pc := 228) (tgt := 235) X h_x5.i dX12_walk_228 (by decide) (fun c1 => ?_) (fun c1 => ?_)
  · have hw := hw.1 c1
    refine ml_iconst (pc := 235) X dX12_walk_235 ?_
    exact u_X12_walk_236 X hn hK120 σ x1 x3 x4 x5 x6 x8 x7 (-1) h_x1 h_x3 h_x4 h_x5 h_x6 h_x8 h_x7 ⟨by decide, by decide⟩ _ (lv_sub hl [0, 1, 2, 3, 4, 5, 7] rfl) hw
  · have hw := hw.2 c1
    refine ml_iconst (pc := 231) X dX12_walk_231 ?_
    refine ml_goto (pc := 232) (tgt := 236) X dX12_walk_232 (by decide) ?_
    exact u_X12_walk_236 X hn hK120 σ x1 x3 x4 x5 x6 x8 x7 1 h_x1 h_x3 h_x4 h_x5 h_x6 h_x8 h_x7 ⟨by decide, by decide⟩ _ (lv_sub hl [0, 1, 2, 3, 4, 5, 7] rfl) hw
set_option maxRecDepth 100000 in
set_option maxHeartbeats 4000000 in
theorem u_X12_walk_222 {p : Program} {e : Env} {s : State} {m : MethodId} {args : Array Value} {below : List Frame} {meth : Method} {c : Code} {base : Nat} {D : va_G} {cA : Nat → ClassId} {n : Nat} {l : Launch} {Q : Int → ml_St → Prop} {K120 : ml_St → Int → Int → Int → Int → Int → Int → Int → Prop} (X : ml_X p s m c meth args D cA cX12_walk 11 RX12 (some .int)) (hn : 256 ≤ n) (hK120 : ∀ (σ : ml_St) (x1 : Int) (x3 : Int) (x4 : Int) (x5 : Int) (x6 : Int) (x7 : Int) (x8 : Int) (h_x1 : I32 x1) (h_x3 : I32 x3) (h_x4 : I32 x4) (h_x5 : ml_B x5) (h_x6 : I32 x6) (h_x7 : I32 x7) (h_x8 : I32 x8) (ls : Array Slot), lv_has ls 11 [(0, .ref (base + (215 : Int).toNat)), (1, .int (Int32.ofInt x1)), (3, .int (Int32.ofInt x3)), (4, .int (Int32.ofInt x4)), (5, .int (Int32.ofInt x5)), (6, .int (Int32.ofInt x6)), (7, .int (Int32.ofInt x7)), (8, .int (Int32.ofInt x8))] → K120 σ x1 x3 x4 x5 x6 x7 x8 → ml_V p l e rm_X12_walk s m args below meth c (MQ below (ml_Qi I32 base D cA n Q) args s 0 0 (ml_A base)) base D cA 0 0 n n σ (F0 m 120 ls [])) (σ : ml_St) (x1 : Int) (x3 : Int) (x4 : Int) (x6 : Int) (x7 : Int) (x8 : Int) (s0 : Int) (h_x1 : I32 x1) (h_x3 : I32 x3) (h_x4 : I32 x4) (h_x6 : I32 x6) (h_x7 : I32 x7) (h_x8 : I32 x8) (h_s0 : ml_B s0) (ls : Array Slot) (hl : lv_has ls 11 [(0, .ref (base + (215 : Int).toNat)), (1, .int (Int32.ofInt x1)), (3, .int (Int32.ofInt x3)), (4, .int (Int32.ofInt x4)), (6, .int (Int32.ofInt x6)), (7, .int (Int32.ofInt x7)), (8, .int (Int32.ofInt x8))]) (hw : f_X12_walk_u222 Q K120 σ x1 x3 x4 x6 x7 x8 s0) : ml_V p l e rm_X12_walk s m args below meth c (MQ below (ml_Qi I32 base D cA n Q) args s 0 0 (ml_A base)) base D cA 0 0 n n σ (F0 m 222 ls [.int (Int32.ofInt s0)]) := by
  unfold f_X12_walk_u222 at hw
  refine ml_istore (pc := 222) X hl (by decide) (lst' := [(5, .int (Int32.ofInt s0)), (0, .ref (base + (215 : Int).toNat)), (1, .int (Int32.ofInt x1)), (3, .int (Int32.ofInt x3)), (4, .int (Int32.ofInt x4)), (6, .int (Int32.ofInt x6)), (7, .int (Int32.ofInt x7)), (8, .int (Int32.ofInt x8))]) rfl dX12_walk_222 (fun ls hl => ?_)
  exact u_X12_walk_224 X hn hK120 σ x1 x3 x4 s0 x6 x7 x8 h_x1 h_x3 h_x4 h_s0 h_x6 h_x7 h_x8 _ (lv_sub hl [1, 2, 3, 4, 0, 5, 6, 7] rfl) hw
set_option maxRecDepth 100000 in
set_option maxHeartbeats 4000000 in
theorem u_X12_walk_212 {p : Program} {e : Env} {s : State} {m : MethodId} {args : Array Value} {below : List Frame} {meth : Method} {c : Code} {base : Nat} {D : va_G} {cA : Nat → ClassId} {n : Nat} {l : Launch} {Q : Int → ml_St → Prop} {K120 : ml_St → Int → Int → Int → Int → Int → Int → Int → Prop} (X : ml_X p s m c meth args D cA cX12_walk 11 RX12 (some .int)) (hn : 256 ≤ n) (hK120 : ∀ (σ : ml_St) (x1 : Int) (x3 : Int) (x4 : Int) (x5 : Int) (x6 : Int) (x7 : Int) (x8 : Int) (h_x1 : I32 x1) (h_x3 : I32 x3) (h_x4 : I32 x4) (h_x5 : ml_B x5) (h_x6 : I32 x6) (h_x7 : I32 x7) (h_x8 : I32 x8) (ls : Array Slot), lv_has ls 11 [(0, .ref (base + (215 : Int).toNat)), (1, .int (Int32.ofInt x1)), (3, .int (Int32.ofInt x3)), (4, .int (Int32.ofInt x4)), (5, .int (Int32.ofInt x5)), (6, .int (Int32.ofInt x6)), (7, .int (Int32.ofInt x7)), (8, .int (Int32.ofInt x8))] → K120 σ x1 x3 x4 x5 x6 x7 x8 → ml_V p l e rm_X12_walk s m args below meth c (MQ below (ml_Qi I32 base D cA n Q) args s 0 0 (ml_A base)) base D cA 0 0 n n σ (F0 m 120 ls [])) (σ : ml_St) (x1 : Int) (x3 : Int) (x4 : Int) (x5 : Int) (x6 : Int) (x7 : Int) (x8 : Int) (s0 : Int) (h_x1 : I32 x1) (h_x3 : I32 x3) (h_x4 : I32 x4) (h_x5 : ml_B x5) (h_x6 : I32 x6) (h_x7 : I32 x7) (h_x8 : I32 x8) (h_s0 : ml_B s0) (ls : Array Slot) (hl : lv_has ls 11 [(0, .ref (base + (215 : Int).toNat)), (1, .int (Int32.ofInt x1)), (3, .int (Int32.ofInt x3)), (4, .int (Int32.ofInt x4)), (5, .int (Int32.ofInt x5)), (6, .int (Int32.ofInt x6)), (7, .int (Int32.ofInt x7)), (8, .int (Int32.ofInt x8))]) (hw : f_X12_walk_u212 Q K120 σ x1 x3 x4 x5 x6 x7 x8 s0) : ml_V p l e rm_X12_walk s m args below meth c (MQ below (ml_Qi I32 base D cA n Q) args s 0 0 (ml_A base)) base D cA 0 0 n n σ (F0 m 212 ls [.int (Int32.ofInt s0)]) := by
  unfold f_X12_walk_u212 at hw
  refine ml_iload (pc := 212) X hl 4 rfl dX12_walk_212 ?_
  refine ml_icmp_ne (pc := 214) (tgt := 221) X h_s0.i h_x5.i dX12_walk_214 (by decide) (fun c1 => ?_) (fun c1 => ?_)
  · have hw := hw.1 c1
    refine ml_iconst (pc := 221) X dX12_walk_221 ?_
    exact u_X12_walk_222 X hn hK120 σ x1 x3 x4 x6 x7 x8 0 h_x1 h_x3 h_x4 h_x6 h_x7 h_x8 ⟨by decide, by decide⟩ _ (lv_sub hl [0, 1, 2, 3, 5, 6, 7] rfl) hw
  · have hw := hw.2 c1
    refine ml_iconst (pc := 217) X dX12_walk_217 ?_
    refine ml_goto (pc := 218) (tgt := 222) X dX12_walk_218 (by decide) ?_
    exact u_X12_walk_222 X hn hK120 σ x1 x3 x4 x6 x7 x8 1 h_x1 h_x3 h_x4 h_x6 h_x7 h_x8 ⟨by decide, by decide⟩ _ (lv_sub hl [0, 1, 2, 3, 5, 6, 7] rfl) hw
set_option maxRecDepth 100000 in
set_option maxHeartbeats 4000000 in
theorem u_X12_walk_197 {p : Program} {e : Env} {s : State} {m : MethodId} {args : Array Value} {below : List Frame} {meth : Method} {c : Code} {base : Nat} {D : va_G} {cA : Nat → ClassId} {n : Nat} {l : Launch} {Q : Int → ml_St → Prop} {K120 : ml_St → Int → Int → Int → Int → Int → Int → Int → Prop} (X : ml_X p s m c meth args D cA cX12_walk 11 RX12 (some .int)) (hn : 256 ≤ n) (hK120 : ∀ (σ : ml_St) (x1 : Int) (x3 : Int) (x4 : Int) (x5 : Int) (x6 : Int) (x7 : Int) (x8 : Int) (h_x1 : I32 x1) (h_x3 : I32 x3) (h_x4 : I32 x4) (h_x5 : ml_B x5) (h_x6 : I32 x6) (h_x7 : I32 x7) (h_x8 : I32 x8) (ls : Array Slot), lv_has ls 11 [(0, .ref (base + (215 : Int).toNat)), (1, .int (Int32.ofInt x1)), (3, .int (Int32.ofInt x3)), (4, .int (Int32.ofInt x4)), (5, .int (Int32.ofInt x5)), (6, .int (Int32.ofInt x6)), (7, .int (Int32.ofInt x7)), (8, .int (Int32.ofInt x8))] → K120 σ x1 x3 x4 x5 x6 x7 x8 → ml_V p l e rm_X12_walk s m args below meth c (MQ below (ml_Qi I32 base D cA n Q) args s 0 0 (ml_A base)) base D cA 0 0 n n σ (F0 m 120 ls [])) (σ : ml_St) (x1 : Int) (x3 : Int) (x4 : Int) (x5 : Int) (x7 : Int) (x8 : Int) (x9 : Int) (s0 : Int) (h_x1 : I32 x1) (h_x3 : I32 x3) (h_x4 : I32 x4) (h_x5 : ml_B x5) (h_x7 : I32 x7) (h_x8 : I32 x8) (h_x9 : ml_I8 x9) (h_s0 : I32 s0) (ls : Array Slot) (hl : lv_has ls 11 [(0, .ref (base + (215 : Int).toNat)), (1, .int (Int32.ofInt x1)), (3, .int (Int32.ofInt x3)), (4, .int (Int32.ofInt x4)), (5, .int (Int32.ofInt x5)), (7, .int (Int32.ofInt x7)), (8, .int (Int32.ofInt x8)), (9, .int (Int32.ofInt x9))]) (hw : f_X12_walk_u197 Q K120 σ x1 x3 x4 x5 x7 x8 x9 s0) : ml_V p l e rm_X12_walk s m args below meth c (MQ below (ml_Qi I32 base D cA n Q) args s 0 0 (ml_A base)) base D cA 0 0 n n σ (F0 m 197 ls [.int (Int32.ofInt s0)]) := by
  unfold f_X12_walk_u197 at hw
  refine ml_istore (pc := 197) X hl (by decide) (lst' := [(6, .int (Int32.ofInt s0)), (0, .ref (base + (215 : Int).toNat)), (1, .int (Int32.ofInt x1)), (3, .int (Int32.ofInt x3)), (4, .int (Int32.ofInt x4)), (5, .int (Int32.ofInt x5)), (7, .int (Int32.ofInt x7)), (8, .int (Int32.ofInt x8)), (9, .int (Int32.ofInt x9))]) rfl dX12_walk_197 (fun ls hl => ?_)
  refine ml_iload (pc := 199) X hl 8 rfl dX12_walk_199 ?_
  refine ml_iconst (pc := 201) X dX12_walk_201 ?_
  obtain ⟨z1, v1, hw⟩ := hw
  refine ml_irem (pc := 202) X h_x9.i ⟨by decide, by decide⟩ z1 dX12_walk_202 ?_
  refine ml_iconst (pc := 203) X dX12_walk_203 ?_
  refine ml_icmp_ne (pc := 204) (tgt := 211) X v1 ⟨by decide, by decide⟩ dX12_walk_204 (by decide) (fun c2 => ?_) (fun c2 => ?_)
  · have hw := hw.1 c2
    refine ml_iconst (pc := 211) X dX12_walk_211 ?_
    exact u_X12_walk_212 X hn hK120 σ x1 x3 x4 x5 s0 x7 x8 0 h_x1 h_x3 h_x4 h_x5 h_s0 h_x7 h_x8 ⟨by decide, by decide⟩ _ (lv_sub hl [1, 2, 3, 4, 5, 0, 6, 7] rfl) hw
  · have hw := hw.2 c2
    refine ml_iconst (pc := 207) X dX12_walk_207 ?_
    refine ml_goto (pc := 208) (tgt := 212) X dX12_walk_208 (by decide) ?_
    exact u_X12_walk_212 X hn hK120 σ x1 x3 x4 x5 s0 x7 x8 1 h_x1 h_x3 h_x4 h_x5 h_s0 h_x7 h_x8 ⟨by decide, by decide⟩ _ (lv_sub hl [1, 2, 3, 4, 5, 0, 6, 7] rfl) hw
set_option maxRecDepth 100000 in
set_option maxHeartbeats 4000000 in
theorem u_X12_walk_169 {p : Program} {e : Env} {s : State} {m : MethodId} {args : Array Value} {below : List Frame} {meth : Method} {c : Code} {base : Nat} {D : va_G} {cA : Nat → ClassId} {n : Nat} {l : Launch} {Q : Int → ml_St → Prop} {K120 : ml_St → Int → Int → Int → Int → Int → Int → Int → Prop} {K175 : ml_St → Int → Prop} (X : ml_X p s m c meth args D cA cX12_walk 11 RX12 (some .int)) (hn : 256 ≤ n) (hK120 : ∀ (σ : ml_St) (x1 : Int) (x3 : Int) (x4 : Int) (x5 : Int) (x6 : Int) (x7 : Int) (x8 : Int) (h_x1 : I32 x1) (h_x3 : I32 x3) (h_x4 : I32 x4) (h_x5 : ml_B x5) (h_x6 : I32 x6) (h_x7 : I32 x7) (h_x8 : I32 x8) (ls : Array Slot), lv_has ls 11 [(0, .ref (base + (215 : Int).toNat)), (1, .int (Int32.ofInt x1)), (3, .int (Int32.ofInt x3)), (4, .int (Int32.ofInt x4)), (5, .int (Int32.ofInt x5)), (6, .int (Int32.ofInt x6)), (7, .int (Int32.ofInt x7)), (8, .int (Int32.ofInt x8))] → K120 σ x1 x3 x4 x5 x6 x7 x8 → ml_V p l e rm_X12_walk s m args below meth c (MQ below (ml_Qi I32 base D cA n Q) args s 0 0 (ml_A base)) base D cA 0 0 n n σ (F0 m 120 ls [])) (hK175 : ∀ (σ : ml_St) (x7 : Int) (h_x7 : I32 x7) (ls : Array Slot), lv_has ls 11 [(7, .int (Int32.ofInt x7))] → K175 σ x7 → ml_V p l e rm_X12_walk s m args below meth c (MQ below (ml_Qi I32 base D cA n Q) args s 0 0 (ml_A base)) base D cA 0 0 n n σ (F0 m 175 ls [])) (σ : ml_St) (x1 : Int) (x3 : Int) (x4 : Int) (x5 : Int) (x6 : Int) (x7 : Int) (x8 : Int) (x9 : Int) (x10 : Int) (h_x1 : I32 x1) (h_x3 : I32 x3) (h_x4 : I32 x4) (h_x5 : ml_B x5) (h_x6 : I32 x6) (h_x7 : I32 x7) (h_x8 : I32 x8) (h_x9 : ml_I8 x9) (h_x10 : I32 x10) (ls : Array Slot) (hl : lv_has ls 11 [(0, .ref (base + (215 : Int).toNat)), (1, .int (Int32.ofInt x1)), (3, .int (Int32.ofInt x3)), (4, .int (Int32.ofInt x4)), (5, .int (Int32.ofInt x5)), (6, .int (Int32.ofInt x6)), (7, .int (Int32.ofInt x7)), (8, .int (Int32.ofInt x8)), (9, .int (Int32.ofInt x9)), (10, .int (Int32.ofInt x10))]) (hw : f_X12_walk_u169 Q K120 K175 σ x1 x3 x4 x5 x6 x7 x8 x9 x10) : ml_V p l e rm_X12_walk s m args below meth c (MQ below (ml_Qi I32 base D cA n Q) args s 0 0 (ml_A base)) base D cA 0 0 n n σ (F0 m 169 ls []) := by
  unfold f_X12_walk_u169 at hw
  refine ml_iload (pc := 169) X hl 7 rfl dX12_walk_169 ?_
  refine ml_iload_n (pc := 171) X hl 2 rfl rfl dX12_walk_171 ?_
  refine ml_icmp_ne (pc := 172) (tgt := 178) X h_x8 h_x3 dX12_walk_172 (by decide) (fun c1 => ?_) (fun c1 => ?_)
  · have hw := hw.1 c1
    obtain ⟨v2, hw⟩ := hw
    obtain ⟨y2, e2⟩ : ∃ y : Int, y = x8 + 1 := ⟨_, rfl⟩
    have hw := hw y2 e2
    rw [← e2] at v2
    refine ml_iinc (pc := 178) X e2 hl 7 rfl (by decide) (lst' := [(8, .int (Int32.ofInt y2)), (0, .ref (base + (215 : Int).toNat)), (1, .int (Int32.ofInt x1)), (3, .int (Int32.ofInt x3)), (4, .int (Int32.ofInt x4)), (5, .int (Int32.ofInt x5)), (6, .int (Int32.ofInt x6)), (7, .int (Int32.ofInt x7)), (9, .int (Int32.ofInt x9)), (10, .int (Int32.ofInt x10))]) rfl dX12_walk_178 (fun ls hl => ?_)
    refine ml_iload (pc := 181) X hl 6 rfl dX12_walk_181 ?_
    refine ml_iload (pc := 183) X hl 9 rfl dX12_walk_183 ?_
    refine ml_icmp_ne (pc := 185) (tgt := 195) X h_x6 h_x10 dX12_walk_185 (by decide) (fun c3 => ?_) (fun c3 => ?_)
    · have hw := hw.1 c3
      refine ml_iload (pc := 195) X hl 9 rfl dX12_walk_195 ?_
      exact u_X12_walk_197 X hn hK120 σ x1 x3 x4 x5 x7 y2 x9 x10 h_x1 h_x3 h_x4 h_x5 h_x7 v2 h_x9 h_x10 _ (lv_sub hl [1, 2, 3, 4, 5, 7, 0, 8] rfl) hw
    · have hw := hw.2 c3
      refine ml_iload (pc := 188) X hl 9 rfl dX12_walk_188 ?_
      refine ml_iconst (pc := 190) X dX12_walk_190 ?_
      obtain ⟨v4, hw⟩ := hw
      refine ml_iadd (pc := 191) X dX12_walk_191 ?_
      refine ml_goto (pc := 192) (tgt := 197) X dX12_walk_192 (by decide) ?_
      exact u_X12_walk_197 X hn hK120 σ x1 x3 x4 x5 x7 y2 x9 (x10 + 1) h_x1 h_x3 h_x4 h_x5 h_x7 v2 h_x9 v4 _ (lv_sub hl [1, 2, 3, 4, 5, 7, 0, 8] rfl) hw
  · have hw := hw.2 c1
    exact hK175 σ x7 h_x7 _ (lv_sub hl [6] rfl) hw
set_option maxRecDepth 100000 in
set_option maxHeartbeats 4000000 in
theorem u_X12_walk_120 {p : Program} {e : Env} {s : State} {m : MethodId} {args : Array Value} {below : List Frame} {meth : Method} {c : Code} {base : Nat} {D : va_G} {cA : Nat → ClassId} {n : Nat} {l : Launch} {Q : Int → ml_St → Prop} {K175 : ml_St → Int → Prop} {K242 : ml_St → Int → Int → Int → Prop} (X : ml_X p s m c meth args D cA cX12_walk 11 RX12 (some .int)) (hn : 256 ≤ n) (hK175 : ∀ (σ : ml_St) (x7 : Int) (h_x7 : I32 x7) (ls : Array Slot), lv_has ls 11 [(7, .int (Int32.ofInt x7))] → K175 σ x7 → ml_V p l e rm_X12_walk s m args below meth c (MQ below (ml_Qi I32 base D cA n Q) args s 0 0 (ml_A base)) base D cA 0 0 n n σ (F0 m 175 ls [])) (hK242 : ∀ (σ : ml_St) (x3 : Int) (x5 : Int) (x6 : Int) (h_x3 : I32 x3) (h_x5 : ml_B x5) (h_x6 : I32 x6) (ls : Array Slot), lv_has ls 11 [(0, .ref (base + (215 : Int).toNat)), (3, .int (Int32.ofInt x3)), (5, .int (Int32.ofInt x5)), (6, .int (Int32.ofInt x6))] → K242 σ x3 x5 x6 → ml_V p l e rm_X12_walk s m args below meth c (MQ below (ml_Qi I32 base D cA n Q) args s 0 0 (ml_A base)) base D cA 0 0 n n σ (F0 m 242 ls [])) : ∀ (N : Nat) (σ : ml_St) (x1 : Int) (x3 : Int) (x4 : Int) (x5 : Int) (x6 : Int) (x7 : Int) (x8 : Int) (h_x1 : I32 x1) (h_x3 : I32 x3) (h_x4 : I32 x4) (h_x5 : ml_B x5) (h_x6 : I32 x6) (h_x7 : I32 x7) (h_x8 : I32 x8) (ls : Array Slot), lv_has ls 11 [(0, .ref (base + (215 : Int).toNat)), (1, .int (Int32.ofInt x1)), (3, .int (Int32.ofInt x3)), (4, .int (Int32.ofInt x4)), (5, .int (Int32.ofInt x5)), (6, .int (Int32.ofInt x6)), (7, .int (Int32.ofInt x7)), (8, .int (Int32.ofInt x8))] → f_X12_walk_u120 Q K175 K242 N σ x1 x3 x4 x5 x6 x7 x8 → ml_V p l e rm_X12_walk s m args below meth c (MQ below (ml_Qi I32 base D cA n Q) args s 0 0 (ml_A base)) base D cA 0 0 n n σ (F0 m 120 ls []) := by
  intro N
  induction N with
  | zero => intro σ x1 x3 x4 x5 x6 x7 x8 h_x1 h_x3 h_x4 h_x5 h_x6 h_x7 h_x8 ls hl hw; exact False.elim hw
  | succ N ih =>
    intro σ x1 x3 x4 x5 x6 x7 x8 h_x1 h_x3 h_x4 h_x5 h_x6 h_x7 h_x8 ls hl hw
    unfold f_X12_walk_u120 at hw
    refine ml_iload (pc := 120) X hl 6 rfl dX12_walk_120 ?_
    refine ml_if_lt (pc := 122) (tgt := 242) X h_x7 dX12_walk_122 (by decide) (fun c1 => ?_) (fun c1 => ?_)
    · have hw := hw.1 c1
      exact hK242 σ x3 x5 x6 h_x3 h_x5 h_x6 _ (lv_sub hl [0, 2, 4, 5] rfl) hw
    · have hw := hw.2 c1
      refine ml_iload (pc := 125) X hl 6 rfl dX12_walk_125 ?_
      refine ml_iload (pc := 127) X hl 3 rfl dX12_walk_127 ?_
      refine ml_icmp_ge (pc := 129) (tgt := 242) X h_x7 h_x4 dX12_walk_129 (by decide) (fun c2 => ?_) (fun c2 => ?_)
      · have hw := hw.1 c2
        exact hK242 σ x3 x5 x6 h_x3 h_x5 h_x6 _ (lv_sub hl [0, 2, 4, 5] rfl) hw
      · have hw := hw.2 c2
        refine ml_aload_n (pc := 132) X hl 0 rfl rfl dX12_walk_132 ?_
        refine gf_X12_131 (pc := 133) X (ml_c215 hn) dX12_walk_133 ?_
        refine ml_sipush (pc := 136) X dX12_walk_136 (by decide) ?_
        refine ml_iload_n (pc := 139) X hl 1 rfl rfl dX12_walk_139 ?_
        obtain ⟨v3, hw⟩ := hw
        refine ml_imul (pc := 140) X dX12_walk_140 ?_
        refine ml_iload (pc := 141) X hl 6 rfl dX12_walk_141 ?_
        obtain ⟨v4, hw⟩ := hw
        refine ml_iadd (pc := 143) X dX12_walk_143 ?_
        obtain ⟨a5, b5, hw⟩ := hw
        refine ml_bald (pc := 144) (N := 32000) X (ml_c254 hn) a5 b5 dX12_walk_144 (fun r5 => ?_)
        have hw := hw r5
        refine ml_topI (pc := 145) (fun y6 e6 => ?_)
        have hw := hw y6 e6
        have q6 : ml_I8 y6 := by rw [e6]; exact r5
        refine ml_istore (pc := 145) X hl (by decide) (lst' := [(9, .int (Int32.ofInt y6)), (0, .ref (base + (215 : Int).toNat)), (1, .int (Int32.ofInt x1)), (3, .int (Int32.ofInt x3)), (4, .int (Int32.ofInt x4)), (5, .int (Int32.ofInt x5)), (6, .int (Int32.ofInt x6)), (7, .int (Int32.ofInt x7)), (8, .int (Int32.ofInt x8))]) rfl dX12_walk_145 (fun ls hl => ?_)
        refine ml_iload (pc := 147) X hl 0 rfl dX12_walk_147 ?_
        refine ml_iconst (pc := 149) X dX12_walk_149 ?_
        obtain ⟨z7, v7, hw⟩ := hw
        refine ml_idiv (pc := 150) X q6.i ⟨by decide, by decide⟩ z7 dX12_walk_150 ?_
        refine ml_topI (pc := 151) (fun y8 e8 => ?_)
        have hw := hw y8 e8
        have q8 : I32 y8 := by rw [e8]; exact v7
        refine ml_istore (pc := 151) X hl (by decide) (lst' := [(10, .int (Int32.ofInt y8)), (9, .int (Int32.ofInt y6)), (0, .ref (base + (215 : Int).toNat)), (1, .int (Int32.ofInt x1)), (3, .int (Int32.ofInt x3)), (4, .int (Int32.ofInt x4)), (5, .int (Int32.ofInt x5)), (6, .int (Int32.ofInt x6)), (7, .int (Int32.ofInt x7)), (8, .int (Int32.ofInt x8))]) rfl dX12_walk_151 (fun ls hl => ?_)
        refine ml_iload (pc := 153) X hl 7 rfl dX12_walk_153 ?_
        refine ml_iload (pc := 155) X hl 0 rfl dX12_walk_155 ?_
        refine ml_icmp_eq (pc := 157) (tgt := 169) X h_x6 q8 dX12_walk_157 (by decide) (fun c9 => ?_) (fun c9 => ?_)
        · have hw := hw.1 c9
          exact u_X12_walk_169 X hn ih hK175 σ x1 x3 x4 x5 x6 x7 x8 y6 y8 h_x1 h_x3 h_x4 h_x5 h_x6 h_x7 h_x8 q6 q8 _ (lv_sub hl [2, 3, 4, 5, 6, 7, 8, 9, 1, 0] rfl) hw
        · have hw := hw.2 c9
          refine ml_iload (pc := 160) X hl 7 rfl dX12_walk_160 ?_
          refine ml_iload (pc := 162) X hl 0 rfl dX12_walk_162 ?_
          refine ml_iconst (pc := 164) X dX12_walk_164 ?_
          obtain ⟨v10, hw⟩ := hw
          refine ml_iadd (pc := 165) X dX12_walk_165 ?_
          refine ml_icmp_ne (pc := 166) (tgt := 224) X h_x6 v10 dX12_walk_166 (by decide) (fun c11 => ?_) (fun c11 => ?_)
          · have hw := hw.1 c11
            exact u_X12_walk_224 X hn ih σ x1 x3 x4 x5 x6 x7 x8 h_x1 h_x3 h_x4 h_x5 h_x6 h_x7 h_x8 _ (lv_sub hl [2, 3, 4, 5, 6, 7, 8, 9] rfl) hw
          · have hw := hw.2 c11
            exact u_X12_walk_169 X hn ih hK175 σ x1 x3 x4 x5 x6 x7 x8 y6 y8 h_x1 h_x3 h_x4 h_x5 h_x6 h_x7 h_x8 q6 q8 _ (lv_sub hl [2, 3, 4, 5, 6, 7, 8, 9, 1, 0] rfl) hw
set_option maxRecDepth 100000 in
set_option maxHeartbeats 4000000 in
theorem u_X12_walk_175 {p : Program} {e : Env} {s : State} {m : MethodId} {args : Array Value} {below : List Frame} {meth : Method} {c : Code} {base : Nat} {D : va_G} {cA : Nat → ClassId} {n : Nat} {l : Launch} {Q : Int → ml_St → Prop} (X : ml_X p s m c meth args D cA cX12_walk 11 RX12 (some .int)) (hn : 256 ≤ n) (σ : ml_St) (x7 : Int) (h_x7 : I32 x7) (ls : Array Slot) (hl : lv_has ls 11 [(7, .int (Int32.ofInt x7))]) (hw : f_X12_walk_u175 Q σ x7) : ml_V p l e rm_X12_walk s m args below meth c (MQ below (ml_Qi I32 base D cA n Q) args s 0 0 (ml_A base)) base D cA 0 0 n n σ (F0 m 175 ls []) := by
  unfold f_X12_walk_u175 at hw
  refine ml_iload (pc := 175) X hl 0 rfl dX12_walk_175 ?_
  exact ml_iret (pc := 177) X h_x7 hw dX12_walk_177
set_option maxRecDepth 100000 in
set_option maxHeartbeats 4000000 in
theorem u_X12_walk_268 {p : Program} {e : Env} {s : State} {m : MethodId} {args : Array Value} {below : List Frame} {meth : Method} {c : Code} {base : Nat} {D : va_G} {cA : Nat → ClassId} {n : Nat} {l : Launch} {Q : Int → ml_St → Prop} (X : ml_X p s m c meth args D cA cX12_walk 11 RX12 (some .int)) (hn : 256 ≤ n) (σ : ml_St) (s0 : Int) (h_s0 : I32 s0) (ls : Array Slot) (hl : lv_has ls 11 []) (hw : f_X12_walk_u268 Q σ s0) : ml_V p l e rm_X12_walk s m args below meth c (MQ below (ml_Qi I32 base D cA n Q) args s 0 0 (ml_A base)) base D cA 0 0 n n σ (F0 m 268 ls [.int (Int32.ofInt s0)]) := by
  unfold f_X12_walk_u268 at hw
  exact ml_iret (pc := 268) X h_s0 hw dX12_walk_268
set_option maxRecDepth 100000 in
set_option maxHeartbeats 4000000 in
theorem u_X12_walk_242 {p : Program} {e : Env} {s : State} {m : MethodId} {args : Array Value} {below : List Frame} {meth : Method} {c : Code} {base : Nat} {D : va_G} {cA : Nat → ClassId} {n : Nat} {l : Launch} {Q : Int → ml_St → Prop} (X : ml_X p s m c meth args D cA cX12_walk 11 RX12 (some .int)) (hn : 256 ≤ n) (σ : ml_St) (x3 : Int) (x5 : Int) (x6 : Int) (h_x3 : I32 x3) (h_x5 : ml_B x5) (h_x6 : I32 x6) (ls : Array Slot) (hl : lv_has ls 11 [(0, .ref (base + (215 : Int).toNat)), (3, .int (Int32.ofInt x3)), (5, .int (Int32.ofInt x5)), (6, .int (Int32.ofInt x6))]) (hw : f_X12_walk_u242 Q σ x3 x5 x6) : ml_V p l e rm_X12_walk s m args below meth c (MQ below (ml_Qi I32 base D cA n Q) args s 0 0 (ml_A base)) base D cA 0 0 n n σ (F0 m 242 ls []) := by
  unfold f_X12_walk_u242 at hw
  refine ml_iload_n (pc := 242) X hl 1 rfl rfl dX12_walk_242 ?_
  refine ml_iconst (pc := 243) X dX12_walk_243 ?_
  refine ml_icmp_ne (pc := 244) (tgt := 267) X h_x3 ⟨by decide, by decide⟩ dX12_walk_244 (by decide) (fun c1 => ?_) (fun c1 => ?_)
  · have hw := hw.1 c1
    refine ml_iconst (pc := 267) X dX12_walk_267 ?_
    exact u_X12_walk_268 X hn σ (-1) ⟨by decide, by decide⟩ _ (lv_sub hl [] rfl) hw
  · have hw := hw.2 c1
    refine ml_iload (pc := 247) X hl 2 rfl dX12_walk_247 ?_
    refine ml_if_eq (pc := 249) (tgt := 262) X h_x5.i dX12_walk_249 (by decide) (fun c2 => ?_) (fun c2 => ?_)
    · have hw := hw.1 c2
      refine ml_iload (pc := 262) X hl 3 rfl dX12_walk_262 ?_
      refine ml_goto (pc := 264) (tgt := 268) X dX12_walk_264 (by decide) ?_
      exact u_X12_walk_268 X hn σ x6 h_x6 _ (lv_sub hl [] rfl) hw
    · have hw := hw.2 c2
      refine ml_aload_n (pc := 252) X hl 0 rfl rfl dX12_walk_252 ?_
      refine gf_X12_13 (pc := 253) X (ml_c215 hn) dX12_walk_253 (fun r3 => ?_)
      have hw := hw r3
      refine ml_iload (pc := 256) X hl 3 rfl dX12_walk_256 ?_
      obtain ⟨v4, hw⟩ := hw
      refine ml_iadd (pc := 258) X dX12_walk_258 ?_
      refine ml_goto (pc := 259) (tgt := 268) X dX12_walk_259 (by decide) ?_
      exact u_X12_walk_268 X hn σ ((σ 215 2) + x6) v4 _ (lv_sub hl [] rfl) hw
set_option maxRecDepth 100000 in
set_option maxHeartbeats 4000000 in
theorem u_X12_walk_115 {p : Program} {e : Env} {s : State} {m : MethodId} {args : Array Value} {below : List Frame} {meth : Method} {c : Code} {base : Nat} {D : va_G} {cA : Nat → ClassId} {n : Nat} {l : Launch} {Q : Int → ml_St → Prop} (X : ml_X p s m c meth args D cA cX12_walk 11 RX12 (some .int)) (hn : 256 ≤ n) (σ : ml_St) (x1 : Int) (x3 : Int) (x4 : Int) (x5 : Int) (x6 : Int) (s0 : Int) (h_x1 : I32 x1) (h_x3 : I32 x3) (h_x4 : I32 x4) (h_x5 : ml_B x5) (h_x6 : I32 x6) (h_s0 : I32 s0) (ls : Array Slot) (hl : lv_has ls 11 [(0, .ref (base + (215 : Int).toNat)), (1, .int (Int32.ofInt x1)), (3, .int (Int32.ofInt x3)), (4, .int (Int32.ofInt x4)), (5, .int (Int32.ofInt x5)), (6, .int (Int32.ofInt x6))]) (hw : f_X12_walk_u115 Q σ x1 x3 x4 x5 x6 s0) : ml_V p l e rm_X12_walk s m args below meth c (MQ below (ml_Qi I32 base D cA n Q) args s 0 0 (ml_A base)) base D cA 0 0 n n σ (F0 m 115 ls [.int (Int32.ofInt s0)]) := by
  unfold f_X12_walk_u115 at hw
  refine ml_istore (pc := 115) X hl (by decide) (lst' := [(7, .int (Int32.ofInt s0)), (0, .ref (base + (215 : Int).toNat)), (1, .int (Int32.ofInt x1)), (3, .int (Int32.ofInt x3)), (4, .int (Int32.ofInt x4)), (5, .int (Int32.ofInt x5)), (6, .int (Int32.ofInt x6))]) rfl dX12_walk_115 (fun ls hl => ?_)
  refine ml_iconst (pc := 117) X dX12_walk_117 ?_
  refine ml_istore (pc := 118) X hl (by decide) (lst' := [(8, .int (Int32.ofInt 0)), (7, .int (Int32.ofInt s0)), (0, .ref (base + (215 : Int).toNat)), (1, .int (Int32.ofInt x1)), (3, .int (Int32.ofInt x3)), (4, .int (Int32.ofInt x4)), (5, .int (Int32.ofInt x5)), (6, .int (Int32.ofInt x6))]) rfl dX12_walk_118 (fun ls hl => ?_)
  obtain ⟨N0, hw⟩ := hw
  exact u_X12_walk_120 X hn (fun σ x7 h_x7 ls hl hw => u_X12_walk_175 X hn σ x7 h_x7 ls hl hw) (fun σ x3 x5 x6 h_x3 h_x5 h_x6 ls hl hw => u_X12_walk_242 X hn σ x3 x5 x6 h_x3 h_x5 h_x6 ls hl hw) N0 σ x1 x3 x4 x5 x6 s0 0 h_x1 h_x3 h_x4 h_x5 h_x6 h_s0 ⟨by decide, by decide⟩ _ (lv_sub hl [2, 3, 4, 5, 6, 7, 1, 0] rfl) hw
set_option maxRecDepth 100000 in
set_option maxHeartbeats 4000000 in
theorem u_X12_walk_97 {p : Program} {e : Env} {s : State} {m : MethodId} {args : Array Value} {below : List Frame} {meth : Method} {c : Code} {base : Nat} {D : va_G} {cA : Nat → ClassId} {n : Nat} {l : Launch} {Q : Int → ml_St → Prop} (X : ml_X p s m c meth args D cA cX12_walk 11 RX12 (some .int)) (hn : 256 ≤ n) (σ : ml_St) (x1 : Int) (x2 : Int) (x3 : Int) (x4 : Int) (x5 : Int) (s0 : Int) (h_x1 : I32 x1) (h_x2 : I32 x2) (h_x3 : I32 x3) (h_x4 : I32 x4) (h_x5 : ml_B x5) (h_s0 : I32 s0) (ls : Array Slot) (hl : lv_has ls 11 [(0, .ref (base + (215 : Int).toNat)), (1, .int (Int32.ofInt x1)), (2, .int (Int32.ofInt x2)), (3, .int (Int32.ofInt x3)), (4, .int (Int32.ofInt x4)), (5, .int (Int32.ofInt x5))]) (hw : f_X12_walk_u97 Q σ x1 x2 x3 x4 x5 s0) : ml_V p l e rm_X12_walk s m args below meth c (MQ below (ml_Qi I32 base D cA n Q) args s 0 0 (ml_A base)) base D cA 0 0 n n σ (F0 m 97 ls [.int (Int32.ofInt s0)]) := by
  unfold f_X12_walk_u97 at hw
  refine ml_istore (pc := 97) X hl (by decide) (lst' := [(6, .int (Int32.ofInt s0)), (0, .ref (base + (215 : Int).toNat)), (1, .int (Int32.ofInt x1)), (2, .int (Int32.ofInt x2)), (3, .int (Int32.ofInt x3)), (4, .int (Int32.ofInt x4)), (5, .int (Int32.ofInt x5))]) rfl dX12_walk_97 (fun ls hl => ?_)
  refine ml_iload_n (pc := 99) X hl 3 rfl rfl dX12_walk_99 ?_
  refine ml_aload_n (pc := 100) X hl 1 rfl rfl dX12_walk_100 ?_
  refine gf_X12_13 (pc := 101) X (ml_c215 hn) dX12_walk_101 (fun r1 => ?_)
  have hw := hw r1
  refine ml_icmp_ge (pc := 104) (tgt := 111) X h_x2 r1 dX12_walk_104 (by decide) (fun c2 => ?_) (fun c2 => ?_)
  · have hw := hw.1 c2
    refine ml_iload (pc := 111) X hl 5 rfl dX12_walk_111 ?_
    refine ml_iconst (pc := 113) X dX12_walk_113 ?_
    obtain ⟨v3, hw⟩ := hw
    refine ml_isub (pc := 114) X dX12_walk_114 ?_
    exact u_X12_walk_115 X hn σ x1 x3 x4 x5 s0 (x4 - 1) h_x1 h_x3 h_x4 h_x5 h_s0 v3 _ (lv_sub hl [1, 2, 4, 5, 6, 0] rfl) hw
  · have hw := hw.2 c2
    refine ml_iconst (pc := 107) X dX12_walk_107 ?_
    refine ml_goto (pc := 108) (tgt := 115) X dX12_walk_108 (by decide) ?_
    exact u_X12_walk_115 X hn σ x1 x3 x4 x5 s0 0 h_x1 h_x3 h_x4 h_x5 h_s0 ⟨by decide, by decide⟩ _ (lv_sub hl [1, 2, 4, 5, 6, 0] rfl) hw
set_option maxRecDepth 100000 in
set_option maxHeartbeats 4000000 in
theorem u_X12_walk_77 {p : Program} {e : Env} {s : State} {m : MethodId} {args : Array Value} {below : List Frame} {meth : Method} {c : Code} {base : Nat} {D : va_G} {cA : Nat → ClassId} {n : Nat} {l : Launch} {Q : Int → ml_St → Prop} (X : ml_X p s m c meth args D cA cX12_walk 11 RX12 (some .int)) (hn : 256 ≤ n) (σ : ml_St) (x1 : Int) (x2 : Int) (x3 : Int) (x4 : Int) (s0 : Int) (h_x1 : I32 x1) (h_x2 : I32 x2) (h_x3 : I32 x3) (h_x4 : I32 x4) (h_s0 : ml_B s0) (ls : Array Slot) (hl : lv_has ls 11 [(0, .ref (base + (215 : Int).toNat)), (1, .int (Int32.ofInt x1)), (2, .int (Int32.ofInt x2)), (3, .int (Int32.ofInt x3)), (4, .int (Int32.ofInt x4))]) (hw : f_X12_walk_u77 Q σ x1 x2 x3 x4 s0) : ml_V p l e rm_X12_walk s m args below meth c (MQ below (ml_Qi I32 base D cA n Q) args s 0 0 (ml_A base)) base D cA 0 0 n n σ (F0 m 77 ls [.int (Int32.ofInt s0)]) := by
  unfold f_X12_walk_u77 at hw
  refine ml_istore (pc := 77) X hl (by decide) (lst' := [(5, .int (Int32.ofInt s0)), (0, .ref (base + (215 : Int).toNat)), (1, .int (Int32.ofInt x1)), (2, .int (Int32.ofInt x2)), (3, .int (Int32.ofInt x3)), (4, .int (Int32.ofInt x4))]) rfl dX12_walk_77 (fun ls hl => ?_)
  refine ml_iload_n (pc := 79) X hl 3 rfl rfl dX12_walk_79 ?_
  refine ml_aload_n (pc := 80) X hl 1 rfl rfl dX12_walk_80 ?_
  refine gf_X12_13 (pc := 81) X (ml_c215 hn) dX12_walk_81 (fun r1 => ?_)
  have hw := hw r1
  refine ml_icmp_ge (pc := 84) (tgt := 91) X h_x2 r1 dX12_walk_84 (by decide) (fun c2 => ?_) (fun c2 => ?_)
  · have hw := hw.1 c2
    refine ml_iload_n (pc := 91) X hl 3 rfl rfl dX12_walk_91 ?_
    refine ml_aload_n (pc := 92) X hl 1 rfl rfl dX12_walk_92 ?_
    refine gf_X12_13 (pc := 93) X (ml_c215 hn) dX12_walk_93 (fun r3 => ?_)
    have hw := hw r3
    obtain ⟨v4, hw⟩ := hw
    refine ml_isub (pc := 96) X dX12_walk_96 ?_
    exact u_X12_walk_97 X hn σ x1 x2 x3 x4 s0 (x2 - (σ 215 2)) h_x1 h_x2 h_x3 h_x4 h_s0 v4 _ (lv_sub hl [1, 2, 3, 4, 5, 0] rfl) hw
  · have hw := hw.2 c2
    refine ml_iload_n (pc := 87) X hl 3 rfl rfl dX12_walk_87 ?_
    refine ml_goto (pc := 88) (tgt := 97) X dX12_walk_88 (by decide) ?_
    exact u_X12_walk_97 X hn σ x1 x2 x3 x4 s0 x2 h_x1 h_x2 h_x3 h_x4 h_s0 h_x2 _ (lv_sub hl [1, 2, 3, 4, 5, 0] rfl) hw
set_option maxRecDepth 100000 in
set_option maxHeartbeats 4000000 in
theorem u_X12_walk_56 {p : Program} {e : Env} {s : State} {m : MethodId} {args : Array Value} {below : List Frame} {meth : Method} {c : Code} {base : Nat} {D : va_G} {cA : Nat → ClassId} {n : Nat} {l : Launch} {Q : Int → ml_St → Prop} (X : ml_X p s m c meth args D cA cX12_walk 11 RX12 (some .int)) (hn : 256 ≤ n) (σ : ml_St) (x1 : Int) (x2 : Int) (x3 : Int) (h_x1 : I32 x1) (h_x2 : I32 x2) (h_x3 : I32 x3) (ls : Array Slot) (hl : lv_has ls 11 [(0, .ref (base + (215 : Int).toNat)), (1, .int (Int32.ofInt x1)), (2, .int (Int32.ofInt x2)), (3, .int (Int32.ofInt x3))]) (hw : f_X12_walk_u56 Q σ x1 x2 x3) : ml_V p l e rm_X12_walk s m args below meth c (MQ below (ml_Qi I32 base D cA n Q) args s 0 0 (ml_A base)) base D cA 0 0 n n σ (F0 m 56 ls []) := by
  unfold f_X12_walk_u56 at hw
  refine ml_aload_n (pc := 56) X hl 0 rfl rfl dX12_walk_56 ?_
  refine gf_X12_134 (pc := 57) X (ml_c215 hn) dX12_walk_57 ?_
  refine ml_iload_n (pc := 60) X hl 1 rfl rfl dX12_walk_60 ?_
  obtain ⟨a1, b1, hw⟩ := hw
  refine ml_iald (pc := 61) (N := 16) X (ml_c255 hn) a1 b1 dX12_walk_61 (fun r1 => ?_)
  have hw := hw r1
  refine ml_topI (pc := 62) (fun y2 e2 => ?_)
  have hw := hw y2 e2
  have q2 : I32 y2 := by rw [e2]; exact r1
  refine ml_istore (pc := 62) X hl (by decide) (lst' := [(4, .int (Int32.ofInt y2)), (0, .ref (base + (215 : Int).toNat)), (1, .int (Int32.ofInt x1)), (2, .int (Int32.ofInt x2)), (3, .int (Int32.ofInt x3))]) rfl dX12_walk_62 (fun ls hl => ?_)
  refine ml_iload_n (pc := 64) X hl 3 rfl rfl dX12_walk_64 ?_
  refine ml_aload_n (pc := 65) X hl 1 rfl rfl dX12_walk_65 ?_
  refine gf_X12_13 (pc := 66) X (ml_c215 hn) dX12_walk_66 (fun r3 => ?_)
  have hw := hw r3
  refine ml_icmp_ge (pc := 69) (tgt := 76) X h_x2 r3 dX12_walk_69 (by decide) (fun c4 => ?_) (fun c4 => ?_)
  · have hw := hw.1 c4
    refine ml_iconst (pc := 76) X dX12_walk_76 ?_
    exact u_X12_walk_77 X hn σ x1 x2 x3 y2 0 h_x1 h_x2 h_x3 q2 ⟨by decide, by decide⟩ _ (lv_sub hl [1, 2, 3, 4, 0] rfl) hw
  · have hw := hw.2 c4
    refine ml_iconst (pc := 72) X dX12_walk_72 ?_
    refine ml_goto (pc := 73) (tgt := 77) X dX12_walk_73 (by decide) ?_
    exact u_X12_walk_77 X hn σ x1 x2 x3 y2 1 h_x1 h_x2 h_x3 q2 ⟨by decide, by decide⟩ _ (lv_sub hl [1, 2, 3, 4, 0] rfl) hw
set_option maxRecDepth 100000 in
set_option maxHeartbeats 4000000 in
theorem u_X12_walk_0 {p : Program} {e : Env} {s : State} {m : MethodId} {args : Array Value} {below : List Frame} {meth : Method} {c : Code} {base : Nat} {D : va_G} {cA : Nat → ClassId} {n : Nat} {l : Launch} {Q : Int → ml_St → Prop} (X : ml_X p s m c meth args D cA cX12_walk 11 RX12 (some .int)) (hn : 256 ≤ n) (σ : ml_St) (x1 : Int) (x2 : Int) (x3 : Int) (h_x1 : I32 x1) (h_x2 : I32 x2) (h_x3 : I32 x3) (ls : Array Slot) (hl : lv_has ls 11 [(0, .ref (base + (215 : Int).toNat)), (1, .int (Int32.ofInt x1)), (2, .int (Int32.ofInt x2)), (3, .int (Int32.ofInt x3))]) (hw : f_X12_walk_u0 Q σ x1 x2 x3) : ml_V p l e rm_X12_walk s m args below meth c (MQ below (ml_Qi I32 base D cA n Q) args s 0 0 (ml_A base)) base D cA 0 0 n n σ (F0 m 0 ls []) := by
  unfold f_X12_walk_u0 at hw
  refine ml_aload_n (pc := 0) X hl 0 rfl rfl dX12_walk_0 ?_
  refine ml_iload_n (pc := 1) X hl 1 rfl rfl dX12_walk_1 ?_
  refine ml_callzV (pc := 2) (rest := []) X [.int (Int32.ofInt x1)] (by decide) rfl (ml_c215 hn) (c_X12_isWord l base D cA n hn σ x1 h_x1 _ hw) cv_X12_287 ⟨rfl, rfl⟩ ⟨by decide, by decide⟩ rfl rfl hl (Nat.le_of_ble_eq_true rfl) ⟨Nat.zero_le _, Nat.zero_le _⟩ dX12_walk_2 (fun r1 σ1 t1 hw => ?_)
  have hw := hw t1
  refine ml_if_eq (pc := 5) (tgt := 33) X t1.i dX12_walk_5 (by decide) (fun c2 => ?_) (fun c2 => ?_)
  · have hw := hw.1 c2
    exact u_X12_walk_33 X hn σ1   _ (lv_sub hl [] rfl) hw
  · have hw := hw.2 c2
    refine ml_aload_n (pc := 8) X hl 0 rfl rfl dX12_walk_8 ?_
    refine ml_iload_n (pc := 9) X hl 1 rfl rfl dX12_walk_9 ?_
    exact hw.elim
set_option maxRecDepth 100000 in
theorem c_X12_walk (l : Launch) (base : Nat) (D : va_G) (cA : Nat → ClassId) (n : Nat) (hn : 256 ≤ n) (σ : ml_St) (x1 : Int) (x2 : Int) (x3 : Int) (h_x1 : I32 x1) (h_x2 : I32 x2) (h_x3 : I32 x3) (Q : Int → ml_St → Prop) (hw : f_X12_walk σ x1 x2 x3 Q) : Met l yX12_walk (Cond.code yX12_walk cX12_walk 11 (some .int) :: ml_T) rm_X12_walk (va_Pc [.ref (base + (215 : Int).toNat), .int (Int32.ofInt x1), .int (Int32.ofInt x2), .int (Int32.ofInt x3)] (ml_U base D cA n σ)) (ml_Qi I32 base D cA n Q) 0 0 (ml_A base) := by
  refine Met.ofW (cc := cX12_walk) (maxL := 11) (ret := (some .int)) (by decide) rfl ?_
  intro p e s m args below meth c s₁ B hml hv
  obtain ⟨rfl, hP, hK, hok, hro⟩ := hv
  have X : ml_X p s m c meth _ D cA cX12_walk 11 RX12 (some .int) := ⟨B.exec, B.bytes, hml, findClass_of_methodNamed B.named, fun w hw => atoms_spec (ws := Cond.code yX12_walk cX12_walk 11 (some .int) :: ml_T) B.pre w (List.mem_cons_of_mem _ hw), hK, B.notSynchronized, B.returns⟩
  have hl := lv_entry [.ref (base + (215 : Int).toNat), .int (Int32.ofInt x1), .int (Int32.ofInt x2), .int (Int32.ofInt x3)] (n := 11) (Nat.le_of_ble_eq_true rfl)
  rw [lg_entry_eq]
  generalize (lg_sl [.ref (base + (215 : Int).toNat), .int (Int32.ofInt x1), .int (Int32.ofInt x2), .int (Int32.ofInt x3)] ++ List.replicate (11 - (lg_sl [.ref (base + (215 : Int).toNat), .int (Int32.ofInt x1), .int (Int32.ofInt x2), .int (Int32.ofInt x3)]).length) Slot.unset).toArray = ls at hl ⊢
  have hl : lv_has ls 11 [(0, .ref (base + (215 : Int).toNat)), (1, .int (Int32.ofInt x1)), (2, .int (Int32.ofInt x2)), (3, .int (Int32.ofInt x3))] := hl
  unfold f_X12_walk at hw
  exact u_X12_walk_0 X hn σ x1 x2 x3 h_x1 h_x2 h_x3 _ (lv_sub hl [0, 1, 2, 3] rfl) hw s.heap [] hP va_S.rf hok hro
theorem dX12_check_0 : decode cX12_check 0 = .ok (.aload_n 0, 1) := by decide +kernel
theorem dX12_check_1 : decode cX12_check 1 = .ok (.iload_n 1, 1) := by decide +kernel
theorem dX12_check_2 : decode cX12_check 2 = .ok (.invokevirtual 292, 3) := by decide +kernel
theorem dX12_check_5 : decode cX12_check 5 = .ok (.ifCond .eq 16, 3) := by decide +kernel
theorem dX12_check_8 : decode cX12_check 8 = .ok (.aload_n 0, 1) := by decide +kernel
theorem dX12_check_9 : decode cX12_check 9 = .ok (.getfield 155, 3) := by decide +kernel
theorem dX12_check_12 : decode cX12_check 12 = .ok (.iconst 2, 1) := by decide +kernel
theorem dX12_check_13 : decode cX12_check 13 = .ok (.aload_n 0, 1) := by decide +kernel
theorem dX12_check_14 : decode cX12_check 14 = .ok (.getfield 13, 3) := by decide +kernel
theorem dX12_check_17 : decode cX12_check 17 = .ok (.imul, 1) := by decide +kernel
theorem dX12_check_18 : decode cX12_check 18 = .ok (.if_icmp .ge 6, 3) := by decide +kernel
theorem dX12_check_21 : decode cX12_check 21 = .ok (.bipush (-2), 2) := by decide +kernel
theorem dX12_check_23 : decode cX12_check 23 = .ok (.ireturn, 1) := by decide +kernel
theorem dX12_check_24 : decode cX12_check 24 = .ok (.aload_n 0, 1) := by decide +kernel
theorem dX12_check_25 : decode cX12_check 25 = .ok (.iconst 0, 1) := by decide +kernel
theorem dX12_check_26 : decode cX12_check 26 = .ok (.putfield 155, 3) := by decide +kernel
theorem dX12_check_29 : decode cX12_check 29 = .ok (.iconst 0, 1) := by decide +kernel
theorem dX12_check_30 : decode cX12_check 30 = .ok (.istore_n 2, 1) := by decide +kernel
theorem dX12_check_31 : decode cX12_check 31 = .ok (.iload_n 2, 1) := by decide +kernel
theorem dX12_check_32 : decode cX12_check 32 = .ok (.iconst 2, 1) := by decide +kernel
theorem dX12_check_33 : decode cX12_check 33 = .ok (.aload_n 0, 1) := by decide +kernel
theorem dX12_check_34 : decode cX12_check 34 = .ok (.getfield 13, 3) := by decide +kernel
theorem dX12_check_37 : decode cX12_check 37 = .ok (.imul, 1) := by decide +kernel
theorem dX12_check_38 : decode cX12_check 38 = .ok (.if_icmp .ge 35, 3) := by decide +kernel
theorem dX12_check_41 : decode cX12_check 41 = .ok (.aload_n 0, 1) := by decide +kernel
theorem dX12_check_42 : decode cX12_check 42 = .ok (.getfield 49, 3) := by decide +kernel
theorem dX12_check_45 : decode cX12_check 45 = .ok (.bipush 10, 2) := by decide +kernel
theorem dX12_check_47 : decode cX12_check 47 = .ok (.iload_n 1, 1) := by decide +kernel
theorem dX12_check_48 : decode cX12_check 48 = .ok (.imul, 1) := by decide +kernel
theorem dX12_check_49 : decode cX12_check 49 = .ok (.iload_n 2, 1) := by decide +kernel
theorem dX12_check_50 : decode cX12_check 50 = .ok (.iadd, 1) := by decide +kernel
theorem dX12_check_51 : decode cX12_check 51 = .ok (.iaload, 1) := by decide +kernel
theorem dX12_check_52 : decode cX12_check 52 = .ok (.aload_n 0, 1) := by decide +kernel
theorem dX12_check_53 : decode cX12_check 53 = .ok (.getfield 7, 3) := by decide +kernel
theorem dX12_check_56 : decode cX12_check 56 = .ok (.iload_n 2, 1) := by decide +kernel
theorem dX12_check_57 : decode cX12_check 57 = .ok (.baload, 1) := by decide +kernel
theorem dX12_check_58 : decode cX12_check 58 = .ok (.sipush 255, 3) := by decide +kernel
theorem dX12_check_61 : decode cX12_check 61 = .ok (.iand, 1) := by decide +kernel
theorem dX12_check_62 : decode cX12_check 62 = .ok (.if_icmp .eq 5, 3) := by decide +kernel
theorem dX12_check_65 : decode cX12_check 65 = .ok (.iload_n 2, 1) := by decide +kernel
theorem dX12_check_66 : decode cX12_check 66 = .ok (.ireturn, 1) := by decide +kernel
theorem dX12_check_67 : decode cX12_check 67 = .ok (.iinc 2 1, 3) := by decide +kernel
theorem dX12_check_70 : decode cX12_check 70 = .ok (.goto (-39), 3) := by decide +kernel
theorem dX12_check_73 : decode cX12_check 73 = .ok (.iconst (-1), 1) := by decide +kernel
theorem dX12_check_74 : decode cX12_check 74 = .ok (.ireturn, 1) := by decide +kernel
def f_X12_check_u21 (Q : Int → ml_St → Prop) (σ : ml_St) : Prop :=
Q (-2) σ
def f_X12_check_u31 (Q : Int → ml_St → Prop) (K65 : ml_St → Int → Prop) (K73 : ml_St → Prop) : Nat → ml_St → Int → Int → Prop
| 0, _, _, _ => False
| N + 1, σ, x1, x2 =>
∀ _ : I32 (σ 215 2),
I32 (2 * (σ 215 2)) ∧
((2 * (σ 215 2)) ≤ x2 →
K73 σ) ∧
(¬ ((2 * (σ 215 2)) ≤ x2) →
I32 (10 * x1) ∧
I32 ((10 * x1) + x2) ∧
(0 : Int) ≤ ((10 * x1) + x2) ∧ (((10 * x1) + x2) : Int) < 640 ∧
∀ _ : I32 (σ 227 ((10 * x1) + x2)),
(0 : Int) ≤ x2 ∧ (x2 : Int) < 200 ∧
∀ _ : ml_I8 (σ 216 x2),
(((σ 227 ((10 * x1) + x2)) : Int) = (b_and (σ 216 x2) 255) →
I32 (x2 + 1) ∧
∀ y9 : Int, y9 = x2 + 1 →
f_X12_check_u31 Q K65 K73 N σ x1 y9) ∧
((σ 227 ((10 * x1) + x2)) ≠ (b_and (σ 216 x2) 255) →
K65 σ x2))
def f_X12_check_u65 (Q : Int → ml_St → Prop) (σ : ml_St) (x2 : Int) : Prop :=
Q x2 σ
def f_X12_check_u73 (Q : Int → ml_St → Prop) (σ : ml_St) : Prop :=
Q (-1) σ
def f_X12_check_u0 (Q : Int → ml_St → Prop) (σ : ml_St) (x1 : Int) : Prop :=
f_X12_isMade σ x1 (fun r1 σ1 => ∀ _ : ml_B r1,
(r1 = 0 →
f_X12_check_u21 Q σ1) ∧
(r1 ≠ 0 →
∀ _ : I32 (σ1 215 1),
∀ _ : I32 (σ1 215 2),
I32 (2 * (σ1 215 2)) ∧
((2 * (σ1 215 2)) ≤ ((σ1 215 1) : Int) →
∀ σ7, σ7 = ml_up σ1 215 1 0 →
∃ N1, f_X12_check_u31 Q (f_X12_check_u65 Q) (f_X12_check_u73 Q) N1 σ7 x1 0) ∧
(¬ ((2 * (σ1 215 2)) ≤ ((σ1 215 1) : Int)) →
f_X12_check_u21 Q σ1)))
def f_X12_check (σ : ml_St) (x1 : Int) (Q : Int → ml_St → Prop) : Prop := f_X12_check_u0 Q σ x1
def rm_X12_check : Room := { frames := 3, cells := 0, slots := 0, locals := 67 }
set_option maxRecDepth 100000 in
set_option maxHeartbeats 4000000 in
theorem u_X12_check_21 {p : Program} {e : Env} {s : State} {m : MethodId} {args : Array Value} {below : List Frame} {meth : Method} {c : Code} {base : Nat} {D : va_G} {cA : Nat → ClassId} {n : Nat} {l : Launch} {Q : Int → ml_St → Prop} (X : ml_X p s m c meth args D cA cX12_check 3 RX12 (some .int)) (hn : 256 ≤ n) (σ : ml_St) (ls : Array Slot) (hl : lv_has ls 3 []) (hw : f_X12_check_u21 Q σ) : ml_V p l e rm_X12_check s m args below meth c (MQ below (ml_Qi I32 base D cA n Q) args s 0 0 (ml_A base)) base D cA 0 0 n n σ (F0 m 21 ls []) := by
  unfold f_X12_check_u21 at hw
  refine ml_bipush (pc := 21) X dX12_check_21 (by decide) ?_
  exact ml_iret (pc := 23) X ⟨by decide, by decide⟩ hw dX12_check_23
set_option maxRecDepth 100000 in
set_option maxHeartbeats 4000000 in
theorem u_X12_check_31 {p : Program} {e : Env} {s : State} {m : MethodId} {args : Array Value} {below : List Frame} {meth : Method} {c : Code} {base : Nat} {D : va_G} {cA : Nat → ClassId} {n : Nat} {l : Launch} {Q : Int → ml_St → Prop} {K65 : ml_St → Int → Prop} {K73 : ml_St → Prop} (X : ml_X p s m c meth args D cA cX12_check 3 RX12 (some .int)) (hn : 256 ≤ n) (hK65 : ∀ (σ : ml_St) (x2 : Int) (h_x2 : I32 x2) (ls : Array Slot), lv_has ls 3 [(2, .int (Int32.ofInt x2))] → K65 σ x2 → ml_V p l e rm_X12_check s m args below meth c (MQ below (ml_Qi I32 base D cA n Q) args s 0 0 (ml_A base)) base D cA 0 0 n n σ (F0 m 65 ls [])) (hK73 : ∀ (σ : ml_St) (ls : Array Slot), lv_has ls 3 [] → K73 σ → ml_V p l e rm_X12_check s m args below meth c (MQ below (ml_Qi I32 base D cA n Q) args s 0 0 (ml_A base)) base D cA 0 0 n n σ (F0 m 73 ls [])) : ∀ (N : Nat) (σ : ml_St) (x1 : Int) (x2 : Int) (h_x1 : I32 x1) (h_x2 : I32 x2) (ls : Array Slot), lv_has ls 3 [(0, .ref (base + (215 : Int).toNat)), (1, .int (Int32.ofInt x1)), (2, .int (Int32.ofInt x2))] → f_X12_check_u31 Q K65 K73 N σ x1 x2 → ml_V p l e rm_X12_check s m args below meth c (MQ below (ml_Qi I32 base D cA n Q) args s 0 0 (ml_A base)) base D cA 0 0 n n σ (F0 m 31 ls []) := by
  intro N
  induction N with
  | zero => intro σ x1 x2 h_x1 h_x2 ls hl hw; exact False.elim hw
  | succ N ih =>
    intro σ x1 x2 h_x1 h_x2 ls hl hw
    unfold f_X12_check_u31 at hw
    refine ml_iload_n (pc := 31) X hl 2 rfl rfl dX12_check_31 ?_
    refine ml_iconst (pc := 32) X dX12_check_32 ?_
    refine ml_aload_n (pc := 33) X hl 0 rfl rfl dX12_check_33 ?_
    refine gf_X12_13 (pc := 34) X (ml_c215 hn) dX12_check_34 (fun r1 => ?_)
    have hw := hw r1
    obtain ⟨v2, hw⟩ := hw
    refine ml_imul (pc := 37) X dX12_check_37 ?_
    refine ml_icmp_ge (pc := 38) (tgt := 73) X h_x2 v2 dX12_check_38 (by decide) (fun c3 => ?_) (fun c3 => ?_)
    · have hw := hw.1 c3
      exact hK73 σ   _ (lv_sub hl [] rfl) hw
    · have hw := hw.2 c3
      refine ml_aload_n (pc := 41) X hl 0 rfl rfl dX12_check_41 ?_
      refine gf_X12_49 (pc := 42) X (ml_c215 hn) dX12_check_42 ?_
      refine ml_bipush (pc := 45) X dX12_check_45 (by decide) ?_
      refine ml_iload_n (pc := 47) X hl 1 rfl rfl dX12_check_47 ?_
      obtain ⟨v4, hw⟩ := hw
      refine ml_imul (pc := 48) X dX12_check_48 ?_
      refine ml_iload_n (pc := 49) X hl 2 rfl rfl dX12_check_49 ?_
      obtain ⟨v5, hw⟩ := hw
      refine ml_iadd (pc := 50) X dX12_check_50 ?_
      obtain ⟨a6, b6, hw⟩ := hw
      refine ml_iald (pc := 51) (N := 640) X (ml_c227 hn) a6 b6 dX12_check_51 (fun r6 => ?_)
      have hw := hw r6
      refine ml_aload_n (pc := 52) X hl 0 rfl rfl dX12_check_52 ?_
      refine gf_X12_7 (pc := 53) X (ml_c215 hn) dX12_check_53 ?_
      refine ml_iload_n (pc := 56) X hl 2 rfl rfl dX12_check_56 ?_
      obtain ⟨a7, b7, hw⟩ := hw
      refine ml_bald (pc := 57) (N := 200) X (ml_c216 hn) a7 b7 dX12_check_57 (fun r7 => ?_)
      have hw := hw r7
      refine ml_sipush (pc := 58) X dX12_check_58 (by decide) ?_
      refine ml_iand (pc := 61) X dX12_check_61 ?_
      refine ml_icmp_eq (pc := 62) (tgt := 67) X r6 (b_and_r _ _) dX12_check_62 (by decide) (fun c8 => ?_) (fun c8 => ?_)
      · have hw := hw.1 c8
        obtain ⟨v9, hw⟩ := hw
        obtain ⟨y9, e9⟩ : ∃ y : Int, y = x2 + 1 := ⟨_, rfl⟩
        have hw := hw y9 e9
        rw [← e9] at v9
        refine ml_iinc (pc := 67) X e9 hl 2 rfl (by decide) (lst' := [(2, .int (Int32.ofInt y9)), (0, .ref (base + (215 : Int).toNat)), (1, .int (Int32.ofInt x1))]) rfl dX12_check_67 (fun ls hl => ?_)
        refine ml_goto (pc := 70) (tgt := 31) X dX12_check_70 (by decide) ?_
        exact ih σ x1 y9 h_x1 v9 _ (lv_sub hl [1, 2, 0] rfl) hw
      · have hw := hw.2 c8
        exact hK65 σ x2 h_x2 _ (lv_sub hl [2] rfl) hw
set_option maxRecDepth 100000 in
set_option maxHeartbeats 4000000 in
theorem u_X12_check_65 {p : Program} {e : Env} {s : State} {m : MethodId} {args : Array Value} {below : List Frame} {meth : Method} {c : Code} {base : Nat} {D : va_G} {cA : Nat → ClassId} {n : Nat} {l : Launch} {Q : Int → ml_St → Prop} (X : ml_X p s m c meth args D cA cX12_check 3 RX12 (some .int)) (hn : 256 ≤ n) (σ : ml_St) (x2 : Int) (h_x2 : I32 x2) (ls : Array Slot) (hl : lv_has ls 3 [(2, .int (Int32.ofInt x2))]) (hw : f_X12_check_u65 Q σ x2) : ml_V p l e rm_X12_check s m args below meth c (MQ below (ml_Qi I32 base D cA n Q) args s 0 0 (ml_A base)) base D cA 0 0 n n σ (F0 m 65 ls []) := by
  unfold f_X12_check_u65 at hw
  refine ml_iload_n (pc := 65) X hl 0 rfl rfl dX12_check_65 ?_
  exact ml_iret (pc := 66) X h_x2 hw dX12_check_66
set_option maxRecDepth 100000 in
set_option maxHeartbeats 4000000 in
theorem u_X12_check_73 {p : Program} {e : Env} {s : State} {m : MethodId} {args : Array Value} {below : List Frame} {meth : Method} {c : Code} {base : Nat} {D : va_G} {cA : Nat → ClassId} {n : Nat} {l : Launch} {Q : Int → ml_St → Prop} (X : ml_X p s m c meth args D cA cX12_check 3 RX12 (some .int)) (hn : 256 ≤ n) (σ : ml_St) (ls : Array Slot) (hl : lv_has ls 3 []) (hw : f_X12_check_u73 Q σ) : ml_V p l e rm_X12_check s m args below meth c (MQ below (ml_Qi I32 base D cA n Q) args s 0 0 (ml_A base)) base D cA 0 0 n n σ (F0 m 73 ls []) := by
  unfold f_X12_check_u73 at hw
  refine ml_iconst (pc := 73) X dX12_check_73 ?_
  exact ml_iret (pc := 74) X ⟨by decide, by decide⟩ hw dX12_check_74
set_option maxRecDepth 100000 in
set_option maxHeartbeats 4000000 in
theorem u_X12_check_0 {p : Program} {e : Env} {s : State} {m : MethodId} {args : Array Value} {below : List Frame} {meth : Method} {c : Code} {base : Nat} {D : va_G} {cA : Nat → ClassId} {n : Nat} {l : Launch} {Q : Int → ml_St → Prop} (X : ml_X p s m c meth args D cA cX12_check 3 RX12 (some .int)) (hn : 256 ≤ n) (σ : ml_St) (x1 : Int) (h_x1 : I32 x1) (ls : Array Slot) (hl : lv_has ls 3 [(0, .ref (base + (215 : Int).toNat)), (1, .int (Int32.ofInt x1))]) (hw : f_X12_check_u0 Q σ x1) : ml_V p l e rm_X12_check s m args below meth c (MQ below (ml_Qi I32 base D cA n Q) args s 0 0 (ml_A base)) base D cA 0 0 n n σ (F0 m 0 ls []) := by
  unfold f_X12_check_u0 at hw
  refine ml_aload_n (pc := 0) X hl 0 rfl rfl dX12_check_0 ?_
  refine ml_iload_n (pc := 1) X hl 1 rfl rfl dX12_check_1 ?_
  refine ml_callzV (pc := 2) (rest := []) X [.int (Int32.ofInt x1)] (by decide) rfl (ml_c215 hn) (c_X12_isMade l base D cA n hn σ x1 h_x1 _ hw) cv_X12_292 ⟨rfl, rfl⟩ ⟨by decide, by decide⟩ rfl rfl hl (Nat.le_of_ble_eq_true rfl) ⟨Nat.zero_le _, Nat.zero_le _⟩ dX12_check_2 (fun r1 σ1 t1 hw => ?_)
  have hw := hw t1
  refine ml_if_eq (pc := 5) (tgt := 21) X t1.i dX12_check_5 (by decide) (fun c2 => ?_) (fun c2 => ?_)
  · have hw := hw.1 c2
    exact u_X12_check_21 X hn σ1   _ (lv_sub hl [] rfl) hw
  · have hw := hw.2 c2
    refine ml_aload_n (pc := 8) X hl 0 rfl rfl dX12_check_8 ?_
    refine gf_X12_155 (pc := 9) X (ml_c215 hn) dX12_check_9 (fun r3 => ?_)
    have hw := hw r3
    refine ml_iconst (pc := 12) X dX12_check_12 ?_
    refine ml_aload_n (pc := 13) X hl 0 rfl rfl dX12_check_13 ?_
    refine gf_X12_13 (pc := 14) X (ml_c215 hn) dX12_check_14 (fun r4 => ?_)
    have hw := hw r4
    obtain ⟨v5, hw⟩ := hw
    refine ml_imul (pc := 17) X dX12_check_17 ?_
    refine ml_icmp_ge (pc := 18) (tgt := 24) X r3 v5 dX12_check_18 (by decide) (fun c6 => ?_) (fun c6 => ?_)
    · have hw := hw.1 c6
      refine ml_aload_n (pc := 24) X hl 0 rfl rfl dX12_check_24 ?_
      refine ml_iconst (pc := 25) X dX12_check_25 ?_
      refine pf_X12_155 (pc := 26) X (ml_c215 hn) ⟨by decide, by decide⟩ dX12_check_26 (fun σ7 g7 => ?_)
      have hw := hw σ7 g7
      refine ml_iconst (pc := 29) X dX12_check_29 ?_
      refine ml_istore_n (pc := 30) X rfl hl (by decide) (lst' := [(2, .int (Int32.ofInt 0)), (0, .ref (base + (215 : Int).toNat)), (1, .int (Int32.ofInt x1))]) rfl dX12_check_30 (fun ls hl => ?_)
      obtain ⟨N0, hw⟩ := hw
      exact u_X12_check_31 X hn (fun σ x2 h_x2 ls hl hw => u_X12_check_65 X hn σ x2 h_x2 ls hl hw) (fun σ   ls hl hw => u_X12_check_73 X hn σ   ls hl hw) N0 σ7 x1 0 h_x1 ⟨by decide, by decide⟩ _ (lv_sub hl [1, 2, 0] rfl) hw
    · have hw := hw.2 c6
      exact u_X12_check_21 X hn σ1   _ (lv_sub hl [] rfl) hw
set_option maxRecDepth 100000 in
theorem c_X12_check (l : Launch) (base : Nat) (D : va_G) (cA : Nat → ClassId) (n : Nat) (hn : 256 ≤ n) (σ : ml_St) (x1 : Int) (h_x1 : I32 x1) (Q : Int → ml_St → Prop) (hw : f_X12_check σ x1 Q) : Met l yX12_check (Cond.code yX12_check cX12_check 3 (some .int) :: ml_T) rm_X12_check (va_Pc [.ref (base + (215 : Int).toNat), .int (Int32.ofInt x1)] (ml_U base D cA n σ)) (ml_Qi I32 base D cA n Q) 0 0 (ml_A base) := by
  refine Met.ofW (cc := cX12_check) (maxL := 3) (ret := (some .int)) (by decide) rfl ?_
  intro p e s m args below meth c s₁ B hml hv
  obtain ⟨rfl, hP, hK, hok, hro⟩ := hv
  have X : ml_X p s m c meth _ D cA cX12_check 3 RX12 (some .int) := ⟨B.exec, B.bytes, hml, findClass_of_methodNamed B.named, fun w hw => atoms_spec (ws := Cond.code yX12_check cX12_check 3 (some .int) :: ml_T) B.pre w (List.mem_cons_of_mem _ hw), hK, B.notSynchronized, B.returns⟩
  have hl := lv_entry [.ref (base + (215 : Int).toNat), .int (Int32.ofInt x1)] (n := 3) (Nat.le_of_ble_eq_true rfl)
  rw [lg_entry_eq]
  generalize (lg_sl [.ref (base + (215 : Int).toNat), .int (Int32.ofInt x1)] ++ List.replicate (3 - (lg_sl [.ref (base + (215 : Int).toNat), .int (Int32.ofInt x1)]).length) Slot.unset).toArray = ls at hl ⊢
  have hl : lv_has ls 3 [(0, .ref (base + (215 : Int).toNat)), (1, .int (Int32.ofInt x1))] := hl
  unfold f_X12_check at hw
  exact u_X12_check_0 X hn σ x1 h_x1 _ (lv_sub hl [0, 1] rfl) hw s.heap [] hP va_S.rf hok hro
theorem dX12_count_0 : decode cX12_count 0 = .ok (.iload_n 1, 1) := by decide +kernel
theorem dX12_count_1 : decode cX12_count 1 = .ok (.i2l, 1) := by decide +kernel
theorem dX12_count_2 : decode cX12_count 2 = .ok (.ldc2_w 305, 3) := by decide +kernel
theorem dX12_count_5 : decode cX12_count 5 = .ok (.bipush 9, 2) := by decide +kernel
theorem dX12_count_7 : decode cX12_count 7 = .ok (.aload_n 0, 1) := by decide +kernel
theorem dX12_count_8 : decode cX12_count 8 = .ok (.getfield 140, 3) := by decide +kernel
theorem dX12_count_11 : decode cX12_count 11 = .ok (.iadd, 1) := by decide +kernel
theorem dX12_count_12 : decode cX12_count 12 = .ok (.i2l, 1) := by decide +kernel
theorem dX12_count_13 : decode cX12_count 13 = .ok (.invokestatic 143, 3) := by decide +kernel
theorem dX12_count_16 : decode cX12_count 16 = .ok (.ifCond .eq 13, 3) := by decide +kernel
theorem dX12_count_19 : decode cX12_count 19 = .ok (.aload_n 0, 1) := by decide +kernel
theorem dX12_count_20 : decode cX12_count 20 = .ok (.getfield 24, 3) := by decide +kernel
theorem dX12_count_23 : decode cX12_count 23 = .ok (.iload_n 1, 1) := by decide +kernel
theorem dX12_count_24 : decode cX12_count 24 = .ok (.bipush 10, 2) := by decide +kernel
theorem dX12_count_26 : decode cX12_count 26 = .ok (.isub, 1) := by decide +kernel
theorem dX12_count_27 : decode cX12_count 27 = .ok (.iaload, 1) := by decide +kernel
theorem dX12_count_28 : decode cX12_count 28 = .ok (.ireturn, 1) := by decide +kernel
theorem dX12_count_29 : decode cX12_count 29 = .ok (.iload_n 1, 1) := by decide +kernel
theorem dX12_count_30 : decode cX12_count 30 = .ok (.i2l, 1) := by decide +kernel
theorem dX12_count_31 : decode cX12_count 31 = .ok (.ldc2_w 432, 3) := by decide +kernel
theorem dX12_count_34 : decode cX12_count 34 = .ok (.bipush 29, 2) := by decide +kernel
theorem dX12_count_36 : decode cX12_count 36 = .ok (.aload_n 0, 1) := by decide +kernel
theorem dX12_count_37 : decode cX12_count 37 = .ok (.getfield 140, 3) := by decide +kernel
theorem dX12_count_40 : decode cX12_count 40 = .ok (.iadd, 1) := by decide +kernel
theorem dX12_count_41 : decode cX12_count 41 = .ok (.i2l, 1) := by decide +kernel
theorem dX12_count_42 : decode cX12_count 42 = .ok (.invokestatic 143, 3) := by decide +kernel
theorem dX12_count_45 : decode cX12_count 45 = .ok (.ifCond .eq 13, 3) := by decide +kernel
theorem dX12_count_48 : decode cX12_count 48 = .ok (.aload_n 0, 1) := by decide +kernel
theorem dX12_count_49 : decode cX12_count 49 = .ok (.getfield 27, 3) := by decide +kernel
theorem dX12_count_52 : decode cX12_count 52 = .ok (.iload_n 1, 1) := by decide +kernel
theorem dX12_count_53 : decode cX12_count 53 = .ok (.bipush 30, 2) := by decide +kernel
theorem dX12_count_55 : decode cX12_count 55 = .ok (.isub, 1) := by decide +kernel
theorem dX12_count_56 : decode cX12_count 56 = .ok (.iaload, 1) := by decide +kernel
theorem dX12_count_57 : decode cX12_count 57 = .ok (.ireturn, 1) := by decide +kernel
theorem dX12_count_58 : decode cX12_count 58 = .ok (.iload_n 1, 1) := by decide +kernel
theorem dX12_count_59 : decode cX12_count 59 = .ok (.ifCond .ne 10, 3) := by decide +kernel
theorem dX12_count_62 : decode cX12_count 62 = .ok (.aload_n 0, 1) := by decide +kernel
theorem dX12_count_63 : decode cX12_count 63 = .ok (.getfield 13, 3) := by decide +kernel
theorem dX12_count_66 : decode cX12_count 66 = .ok (.goto 48, 3) := by decide +kernel
theorem dX12_count_69 : decode cX12_count 69 = .ok (.iload_n 1, 1) := by decide +kernel
theorem dX12_count_70 : decode cX12_count 70 = .ok (.iconst 1, 1) := by decide +kernel
theorem dX12_count_71 : decode cX12_count 71 = .ok (.if_icmp .ne 10, 3) := by decide +kernel
theorem dX12_count_74 : decode cX12_count 74 = .ok (.aload_n 0, 1) := by decide +kernel
theorem dX12_count_75 : decode cX12_count 75 = .ok (.getfield 140, 3) := by decide +kernel
theorem dX12_count_78 : decode cX12_count 78 = .ok (.goto 36, 3) := by decide +kernel
theorem dX12_count_81 : decode cX12_count 81 = .ok (.iload_n 1, 1) := by decide +kernel
theorem dX12_count_82 : decode cX12_count 82 = .ok (.iconst 2, 1) := by decide +kernel
theorem dX12_count_83 : decode cX12_count 83 = .ok (.if_icmp .ne 10, 3) := by decide +kernel
theorem dX12_count_86 : decode cX12_count 86 = .ok (.aload_n 0, 1) := by decide +kernel
theorem dX12_count_87 : decode cX12_count 87 = .ok (.getfield 155, 3) := by decide +kernel
theorem dX12_count_90 : decode cX12_count 90 = .ok (.goto 24, 3) := by decide +kernel
theorem dX12_count_93 : decode cX12_count 93 = .ok (.iload_n 1, 1) := by decide +kernel
theorem dX12_count_94 : decode cX12_count 94 = .ok (.iconst 3, 1) := by decide +kernel
theorem dX12_count_95 : decode cX12_count 95 = .ok (.if_icmp .ne 18, 3) := by decide +kernel
theorem dX12_count_98 : decode cX12_count 98 = .ok (.aload_n 0, 1) := by decide +kernel
theorem dX12_count_99 : decode cX12_count 99 = .ok (.getfield 151, 3) := by decide +kernel
theorem dX12_count_102 : decode cX12_count 102 = .ok (.ifCond .eq 7, 3) := by decide +kernel
theorem dX12_count_105 : decode cX12_count 105 = .ok (.iconst 1, 1) := by decide +kernel
theorem dX12_count_106 : decode cX12_count 106 = .ok (.goto 8, 3) := by decide +kernel
theorem dX12_count_109 : decode cX12_count 109 = .ok (.iconst 0, 1) := by decide +kernel
theorem dX12_count_110 : decode cX12_count 110 = .ok (.goto 4, 3) := by decide +kernel
theorem dX12_count_113 : decode cX12_count 113 = .ok (.iconst (-1), 1) := by decide +kernel
theorem dX12_count_114 : decode cX12_count 114 = .ok (.ireturn, 1) := by decide +kernel
def f_X12_count_u114 (Q : Int → ml_St → Prop) (σ : ml_St) (s0 : Int) : Prop :=
Q s0 σ
def f_X12_count_u0 (Q : Int → ml_St → Prop) (σ : ml_St) (x1 : Int) : Prop :=
∀ _ : I32 (σ 215 3),
I32 (9 + (σ 215 3)) ∧
f_X12_lies σ x1 10 (9 + (σ 215 3)) (fun r3 σ3 => ∀ _ : ml_B r3,
(r3 = 0 →
∀ _ : I32 (σ3 215 3),
I32 (29 + (σ3 215 3)) ∧
f_X12_lies σ3 x1 30 (29 + (σ3 215 3)) (fun r7 σ7 => ∀ _ : ml_B r7,
(r7 = 0 →
(x1 ≠ 0 →
(x1 ≠ 1 →
(x1 ≠ 2 →
(x1 ≠ 3 →
f_X12_count_u114 Q σ7 (-1)) ∧
(x1 = 3 →
∀ _ : ml_B (σ7 215 4),
(((σ7 215 4) : Int) = 0 →
f_X12_count_u114 Q σ7 0) ∧
((σ7 215 4) ≠ 0 →
f_X12_count_u114 Q σ7 1))) ∧
(x1 = 2 →
∀ _ : I32 (σ7 215 1),
f_X12_count_u114 Q σ7 (σ7 215 1))) ∧
(x1 = 1 →
∀ _ : I32 (σ7 215 3),
f_X12_count_u114 Q σ7 (σ7 215 3))) ∧
(x1 = 0 →
∀ _ : I32 (σ7 215 2),
f_X12_count_u114 Q σ7 (σ7 215 2))) ∧
(r7 ≠ 0 →
I32 (x1 - 30) ∧
(0 : Int) ≤ (x1 - 30) ∧ ((x1 - 30) : Int) < 16 ∧
∀ _ : I32 (σ7 220 (x1 - 30)),
Q (σ7 220 (x1 - 30)) σ7))) ∧
(r3 ≠ 0 →
I32 (x1 - 10) ∧
(0 : Int) ≤ (x1 - 10) ∧ ((x1 - 10) : Int) < 16 ∧
∀ _ : I32 (σ3 219 (x1 - 10)),
Q (σ3 219 (x1 - 10)) σ3))
def f_X12_count (σ : ml_St) (x1 : Int) (Q : Int → ml_St → Prop) : Prop := f_X12_count_u0 Q σ x1
def rm_X12_count : Room := { frames := 1, cells := 0, slots := 0, locals := 25 }
set_option maxRecDepth 100000 in
set_option maxHeartbeats 4000000 in
theorem u_X12_count_114 {p : Program} {e : Env} {s : State} {m : MethodId} {args : Array Value} {below : List Frame} {meth : Method} {c : Code} {base : Nat} {D : va_G} {cA : Nat → ClassId} {n : Nat} {l : Launch} {Q : Int → ml_St → Prop} (X : ml_X p s m c meth args D cA cX12_count 2 RX12 (some .int)) (hn : 256 ≤ n) (σ : ml_St) (s0 : Int) (h_s0 : I32 s0) (ls : Array Slot) (hl : lv_has ls 2 []) (hw : f_X12_count_u114 Q σ s0) : ml_V p l e rm_X12_count s m args below meth c (MQ below (ml_Qi I32 base D cA n Q) args s 0 0 (ml_A base)) base D cA 0 0 n n σ (F0 m 114 ls [.int (Int32.ofInt s0)]) := by
  unfold f_X12_count_u114 at hw
  exact ml_iret (pc := 114) X h_s0 hw dX12_count_114
set_option maxRecDepth 100000 in
set_option maxHeartbeats 4000000 in
theorem u_X12_count_0 {p : Program} {e : Env} {s : State} {m : MethodId} {args : Array Value} {below : List Frame} {meth : Method} {c : Code} {base : Nat} {D : va_G} {cA : Nat → ClassId} {n : Nat} {l : Launch} {Q : Int → ml_St → Prop} (X : ml_X p s m c meth args D cA cX12_count 2 RX12 (some .int)) (hn : 256 ≤ n) (σ : ml_St) (x1 : Int) (h_x1 : I32 x1) (ls : Array Slot) (hl : lv_has ls 2 [(0, .ref (base + (215 : Int).toNat)), (1, .int (Int32.ofInt x1))]) (hw : f_X12_count_u0 Q σ x1) : ml_V p l e rm_X12_count s m args below meth c (MQ below (ml_Qi I32 base D cA n Q) args s 0 0 (ml_A base)) base D cA 0 0 n n σ (F0 m 0 ls []) := by
  unfold f_X12_count_u0 at hw
  refine ml_iload_n (pc := 0) X hl 1 rfl rfl dX12_count_0 ?_
  refine ml_i2l (pc := 1) X h_x1 dX12_count_1 ?_
  refine ml_ldc2 (pc := 2) (v := 10) X dX12_count_2 tc_6_93 ?_
  refine ml_bipush (pc := 5) X dX12_count_5 (by decide) ?_
  refine ml_aload_n (pc := 7) X hl 0 rfl rfl dX12_count_7 ?_
  refine gf_X12_140 (pc := 8) X (ml_c215 hn) dX12_count_8 (fun r1 => ?_)
  have hw := hw r1
  obtain ⟨v2, hw⟩ := hw
  refine ml_iadd (pc := 11) X dX12_count_11 ?_
  refine ml_i2l (pc := 12) X v2 dX12_count_12 ?_
  refine ml_callzS (pc := 13) (rest := []) X [.long (Int64.ofInt x1), .long (Int64.ofInt 10), .long (Int64.ofInt (9 + (σ 215 3)))] (c_X12_lies l base D cA n hn σ x1 10 (9 + (σ 215 3)) (h_x1).l ⟨by decide, by decide⟩ (v2).l _ hw) cv_X12_143 ⟨rfl, rfl⟩ ⟨by decide, by decide⟩ rfl rfl hl (Nat.le_of_ble_eq_true rfl) ⟨Nat.zero_le _, Nat.zero_le _⟩ dX12_count_13 (fun r3 σ3 t3 hw => ?_)
  have hw := hw t3
  refine ml_if_eq (pc := 16) (tgt := 29) X t3.i dX12_count_16 (by decide) (fun c4 => ?_) (fun c4 => ?_)
  · have hw := hw.1 c4
    refine ml_iload_n (pc := 29) X hl 1 rfl rfl dX12_count_29 ?_
    refine ml_i2l (pc := 30) X h_x1 dX12_count_30 ?_
    refine ml_ldc2 (pc := 31) (v := 30) X dX12_count_31 tc_7_16 ?_
    refine ml_bipush (pc := 34) X dX12_count_34 (by decide) ?_
    refine ml_aload_n (pc := 36) X hl 0 rfl rfl dX12_count_36 ?_
    refine gf_X12_140 (pc := 37) X (ml_c215 hn) dX12_count_37 (fun r5 => ?_)
    have hw := hw r5
    obtain ⟨v6, hw⟩ := hw
    refine ml_iadd (pc := 40) X dX12_count_40 ?_
    refine ml_i2l (pc := 41) X v6 dX12_count_41 ?_
    refine ml_callzS (pc := 42) (rest := []) X [.long (Int64.ofInt x1), .long (Int64.ofInt 30), .long (Int64.ofInt (29 + (σ3 215 3)))] (c_X12_lies l base D cA n hn σ3 x1 30 (29 + (σ3 215 3)) (h_x1).l ⟨by decide, by decide⟩ (v6).l _ hw) cv_X12_143 ⟨rfl, rfl⟩ ⟨by decide, by decide⟩ rfl rfl hl (Nat.le_of_ble_eq_true rfl) ⟨Nat.zero_le _, Nat.zero_le _⟩ dX12_count_42 (fun r7 σ7 t7 hw => ?_)
    have hw := hw t7
    refine ml_if_eq (pc := 45) (tgt := 58) X t7.i dX12_count_45 (by decide) (fun c8 => ?_) (fun c8 => ?_)
    · have hw := hw.1 c8
      refine ml_iload_n (pc := 58) X hl 1 rfl rfl dX12_count_58 ?_
      refine ml_if_ne (pc := 59) (tgt := 69) X h_x1 dX12_count_59 (by decide) (fun c9 => ?_) (fun c9 => ?_)
      · have hw := hw.1 c9
        refine ml_iload_n (pc := 69) X hl 1 rfl rfl dX12_count_69 ?_
        refine ml_iconst (pc := 70) X dX12_count_70 ?_
        refine ml_icmp_ne (pc := 71) (tgt := 81) X h_x1 ⟨by decide, by decide⟩ dX12_count_71 (by decide) (fun c10 => ?_) (fun c10 => ?_)
        · have hw := hw.1 c10
          refine ml_iload_n (pc := 81) X hl 1 rfl rfl dX12_count_81 ?_
          refine ml_iconst (pc := 82) X dX12_count_82 ?_
          refine ml_icmp_ne (pc := 83) (tgt := 93) X h_x1 ⟨by decide, by decide⟩ dX12_count_83 (by decide) (fun c11 => ?_) (fun c11 => ?_)
          · have hw := hw.1 c11
            refine ml_iload_n (pc := 93) X hl 1 rfl rfl dX12_count_93 ?_
            refine ml_iconst (pc := 94) X dX12_count_94 ?_
            refine ml_icmp_ne (pc := 95) (tgt := 113) X h_x1 ⟨by decide, by decide⟩ dX12_count_95 (by decide) (fun c12 => ?_) (fun c12 => ?_)
            · have hw := hw.1 c12
              refine ml_iconst (pc := 113) X dX12_count_113 ?_
              exact u_X12_count_114 X hn σ7 (-1) ⟨by decide, by decide⟩ _ (lv_sub hl [] rfl) hw
            · have hw := hw.2 c12
              refine ml_aload_n (pc := 98) X hl 0 rfl rfl dX12_count_98 ?_
              refine gf_X12_151 (pc := 99) X (ml_c215 hn) dX12_count_99 (fun r13 => ?_)
              have hw := hw r13
              refine ml_if_eq (pc := 102) (tgt := 109) X r13.i dX12_count_102 (by decide) (fun c14 => ?_) (fun c14 => ?_)
              · have hw := hw.1 c14
                refine ml_iconst (pc := 109) X dX12_count_109 ?_
                refine ml_goto (pc := 110) (tgt := 114) X dX12_count_110 (by decide) ?_
                exact u_X12_count_114 X hn σ7 0 ⟨by decide, by decide⟩ _ (lv_sub hl [] rfl) hw
              · have hw := hw.2 c14
                refine ml_iconst (pc := 105) X dX12_count_105 ?_
                refine ml_goto (pc := 106) (tgt := 114) X dX12_count_106 (by decide) ?_
                exact u_X12_count_114 X hn σ7 1 ⟨by decide, by decide⟩ _ (lv_sub hl [] rfl) hw
          · have hw := hw.2 c11
            refine ml_aload_n (pc := 86) X hl 0 rfl rfl dX12_count_86 ?_
            refine gf_X12_155 (pc := 87) X (ml_c215 hn) dX12_count_87 (fun r15 => ?_)
            have hw := hw r15
            refine ml_goto (pc := 90) (tgt := 114) X dX12_count_90 (by decide) ?_
            exact u_X12_count_114 X hn σ7 (σ7 215 1) r15 _ (lv_sub hl [] rfl) hw
        · have hw := hw.2 c10
          refine ml_aload_n (pc := 74) X hl 0 rfl rfl dX12_count_74 ?_
          refine gf_X12_140 (pc := 75) X (ml_c215 hn) dX12_count_75 (fun r16 => ?_)
          have hw := hw r16
          refine ml_goto (pc := 78) (tgt := 114) X dX12_count_78 (by decide) ?_
          exact u_X12_count_114 X hn σ7 (σ7 215 3) r16 _ (lv_sub hl [] rfl) hw
      · have hw := hw.2 c9
        refine ml_aload_n (pc := 62) X hl 0 rfl rfl dX12_count_62 ?_
        refine gf_X12_13 (pc := 63) X (ml_c215 hn) dX12_count_63 (fun r17 => ?_)
        have hw := hw r17
        refine ml_goto (pc := 66) (tgt := 114) X dX12_count_66 (by decide) ?_
        exact u_X12_count_114 X hn σ7 (σ7 215 2) r17 _ (lv_sub hl [] rfl) hw
    · have hw := hw.2 c8
      refine ml_aload_n (pc := 48) X hl 0 rfl rfl dX12_count_48 ?_
      refine gf_X12_27 (pc := 49) X (ml_c215 hn) dX12_count_49 ?_
      refine ml_iload_n (pc := 52) X hl 1 rfl rfl dX12_count_52 ?_
      refine ml_bipush (pc := 53) X dX12_count_53 (by decide) ?_
      obtain ⟨v18, hw⟩ := hw
      refine ml_isub (pc := 55) X dX12_count_55 ?_
      obtain ⟨a19, b19, hw⟩ := hw
      refine ml_iald (pc := 56) (N := 16) X (ml_c220 hn) a19 b19 dX12_count_56 (fun r19 => ?_)
      have hw := hw r19
      exact ml_iret (pc := 57) X r19 hw dX12_count_57
  · have hw := hw.2 c4
    refine ml_aload_n (pc := 19) X hl 0 rfl rfl dX12_count_19 ?_
    refine gf_X12_24 (pc := 20) X (ml_c215 hn) dX12_count_20 ?_
    refine ml_iload_n (pc := 23) X hl 1 rfl rfl dX12_count_23 ?_
    refine ml_bipush (pc := 24) X dX12_count_24 (by decide) ?_
    obtain ⟨v20, hw⟩ := hw
    refine ml_isub (pc := 26) X dX12_count_26 ?_
    obtain ⟨a21, b21, hw⟩ := hw
    refine ml_iald (pc := 27) (N := 16) X (ml_c219 hn) a21 b21 dX12_count_27 (fun r21 => ?_)
    have hw := hw r21
    exact ml_iret (pc := 28) X r21 hw dX12_count_28
set_option maxRecDepth 100000 in
theorem c_X12_count (l : Launch) (base : Nat) (D : va_G) (cA : Nat → ClassId) (n : Nat) (hn : 256 ≤ n) (σ : ml_St) (x1 : Int) (h_x1 : I32 x1) (Q : Int → ml_St → Prop) (hw : f_X12_count σ x1 Q) : Met l yX12_count (Cond.code yX12_count cX12_count 2 (some .int) :: ml_T) rm_X12_count (va_Pc [.ref (base + (215 : Int).toNat), .int (Int32.ofInt x1)] (ml_U base D cA n σ)) (ml_Qi I32 base D cA n Q) 0 0 (ml_A base) := by
  refine Met.ofW (cc := cX12_count) (maxL := 2) (ret := (some .int)) (by decide) rfl ?_
  intro p e s m args below meth c s₁ B hml hv
  obtain ⟨rfl, hP, hK, hok, hro⟩ := hv
  have X : ml_X p s m c meth _ D cA cX12_count 2 RX12 (some .int) := ⟨B.exec, B.bytes, hml, findClass_of_methodNamed B.named, fun w hw => atoms_spec (ws := Cond.code yX12_count cX12_count 2 (some .int) :: ml_T) B.pre w (List.mem_cons_of_mem _ hw), hK, B.notSynchronized, B.returns⟩
  have hl := lv_entry [.ref (base + (215 : Int).toNat), .int (Int32.ofInt x1)] (n := 2) (Nat.le_of_ble_eq_true rfl)
  rw [lg_entry_eq]
  generalize (lg_sl [.ref (base + (215 : Int).toNat), .int (Int32.ofInt x1)] ++ List.replicate (2 - (lg_sl [.ref (base + (215 : Int).toNat), .int (Int32.ofInt x1)]).length) Slot.unset).toArray = ls at hl ⊢
  have hl : lv_has ls 2 [(0, .ref (base + (215 : Int).toNat)), (1, .int (Int32.ofInt x1))] := hl
  unfold f_X12_count at hw
  exact u_X12_count_0 X hn σ x1 h_x1 _ (lv_sub hl [0, 1] rfl) hw s.heap [] hP va_S.rf hok hro
