theorem dX11_openLetters_0 : decode cX11_openLetters 0 = .ok (.iload_n 1, 1) := by decide +kernel
theorem dX11_openLetters_1 : decode cX11_openLetters 1 = .ok (.iconst 1, 1) := by decide +kernel
theorem dX11_openLetters_2 : decode cX11_openLetters 2 = .ok (.if_icmp .lt 22, 3) := by decide +kernel
theorem dX11_openLetters_5 : decode cX11_openLetters 5 = .ok (.iload_n 1, 1) := by decide +kernel
theorem dX11_openLetters_6 : decode cX11_openLetters 6 = .ok (.iconst 1, 1) := by decide +kernel
theorem dX11_openLetters_7 : decode cX11_openLetters 7 = .ok (.aload_n 0, 1) := by decide +kernel
theorem dX11_openLetters_8 : decode cX11_openLetters 8 = .ok (.getfield 86, 3) := by decide +kernel
theorem dX11_openLetters_11 : decode cX11_openLetters 11 = .ok (.ishl, 1) := by decide +kernel
theorem dX11_openLetters_12 : decode cX11_openLetters 12 = .ok (.if_icmp .ge 12, 3) := by decide +kernel
theorem dX11_openLetters_15 : decode cX11_openLetters 15 = .ok (.iload_n 1, 1) := by decide +kernel
theorem dX11_openLetters_16 : decode cX11_openLetters 16 = .ok (.invokestatic 310, 3) := by decide +kernel
theorem dX11_openLetters_19 : decode cX11_openLetters 19 = .ok (.bipush 6, 2) := by decide +kernel
theorem dX11_openLetters_21 : decode cX11_openLetters 21 = .ok (.if_icmp .le 5, 3) := by decide +kernel
theorem dX11_openLetters_24 : decode cX11_openLetters 24 = .ok (.iconst 0, 1) := by decide +kernel
theorem dX11_openLetters_25 : decode cX11_openLetters 25 = .ok (.ireturn, 1) := by decide +kernel
theorem dX11_openLetters_26 : decode cX11_openLetters 26 = .ok (.iconst 0, 1) := by decide +kernel
theorem dX11_openLetters_27 : decode cX11_openLetters 27 = .ok (.istore_n 2, 1) := by decide +kernel
theorem dX11_openLetters_28 : decode cX11_openLetters 28 = .ok (.iload_n 2, 1) := by decide +kernel
theorem dX11_openLetters_29 : decode cX11_openLetters 29 = .ok (.aload_n 0, 1) := by decide +kernel
theorem dX11_openLetters_30 : decode cX11_openLetters 30 = .ok (.getfield 86, 3) := by decide +kernel
theorem dX11_openLetters_33 : decode cX11_openLetters 33 = .ok (.if_icmp .ge 27, 3) := by decide +kernel
theorem dX11_openLetters_36 : decode cX11_openLetters 36 = .ok (.iload_n 1, 1) := by decide +kernel
theorem dX11_openLetters_37 : decode cX11_openLetters 37 = .ok (.iload_n 2, 1) := by decide +kernel
theorem dX11_openLetters_38 : decode cX11_openLetters 38 = .ok (.ishr, 1) := by decide +kernel
theorem dX11_openLetters_39 : decode cX11_openLetters 39 = .ok (.iconst 1, 1) := by decide +kernel
theorem dX11_openLetters_40 : decode cX11_openLetters 40 = .ok (.iand, 1) := by decide +kernel
theorem dX11_openLetters_41 : decode cX11_openLetters 41 = .ok (.ifCond .eq 13, 3) := by decide +kernel
theorem dX11_openLetters_44 : decode cX11_openLetters 44 = .ok (.aload_n 0, 1) := by decide +kernel
theorem dX11_openLetters_45 : decode cX11_openLetters 45 = .ok (.iload_n 2, 1) := by decide +kernel
theorem dX11_openLetters_46 : decode cX11_openLetters 46 = .ok (.invokevirtual 121, 3) := by decide +kernel
theorem dX11_openLetters_49 : decode cX11_openLetters 49 = .ok (.ifCond .ne 5, 3) := by decide +kernel
theorem dX11_openLetters_52 : decode cX11_openLetters 52 = .ok (.iconst 0, 1) := by decide +kernel
theorem dX11_openLetters_53 : decode cX11_openLetters 53 = .ok (.ireturn, 1) := by decide +kernel
theorem dX11_openLetters_54 : decode cX11_openLetters 54 = .ok (.iinc 2 1, 3) := by decide +kernel
theorem dX11_openLetters_57 : decode cX11_openLetters 57 = .ok (.goto (-29), 3) := by decide +kernel
theorem dX11_openLetters_60 : decode cX11_openLetters 60 = .ok (.aload_n 0, 1) := by decide +kernel
theorem dX11_openLetters_61 : decode cX11_openLetters 61 = .ok (.getfield 47, 3) := by decide +kernel
theorem dX11_openLetters_64 : decode cX11_openLetters 64 = .ok (.iload_n 1, 1) := by decide +kernel
theorem dX11_openLetters_65 : decode cX11_openLetters 65 = .ok (.aload_n 0, 1) := by decide +kernel
theorem dX11_openLetters_66 : decode cX11_openLetters 66 = .ok (.getfield 67, 3) := by decide +kernel
theorem dX11_openLetters_69 : decode cX11_openLetters 69 = .ok (.aload_n 0, 1) := by decide +kernel
theorem dX11_openLetters_70 : decode cX11_openLetters 70 = .ok (.getfield 82, 3) := by decide +kernel
theorem dX11_openLetters_73 : decode cX11_openLetters 73 = .ok (.invokevirtual 315, 3) := by decide +kernel
theorem dX11_openLetters_76 : decode cX11_openLetters 76 = .ok (.iconst 1, 1) := by decide +kernel
theorem dX11_openLetters_77 : decode cX11_openLetters 77 = .ok (.ireturn, 1) := by decide +kernel
def f_X11_openLetters_u24 (Q : Int → ml_St → Prop) (σ : ml_St) : Prop :=
Q 0 σ
def f_X11_openLetters_u54 (Q : Int → ml_St → Prop) (K28 : ml_St → Int → Int → Prop) (σ : ml_St) (x1 : Int) (x2 : Int) : Prop :=
I32 (x2 + 1) ∧
∀ y1 : Int, y1 = x2 + 1 →
K28 σ x1 y1
def f_X11_openLetters_u28 (Q : Int → ml_St → Prop) (K52 : ml_St → Prop) (K60 : ml_St → Int → Prop) : Nat → ml_St → Int → Int → Prop
| 0, _, _, _ => False
| N + 1, σ, x1, x2 =>
∀ _ : I32 (σ 1 12),
((σ 1 12) ≤ x2 →
K60 σ x1) ∧
(¬ ((σ 1 12) ≤ x2) →
(((b_and (b_shr x1 x2) 1) : Int) = 0 →
f_X11_openLetters_u54 Q (f_X11_openLetters_u28 Q K52 K60 N) σ x1 x2) ∧
((b_and (b_shr x1 x2) 1) ≠ 0 →
f_X11_isMade σ x2 (fun r4 σ4 => ∀ _ : ml_B r4,
(r4 ≠ 0 →
f_X11_openLetters_u54 Q (f_X11_openLetters_u28 Q K52 K60 N) σ4 x1 x2) ∧
(r4 = 0 →
K52 σ4))))
def f_X11_openLetters_u52 (Q : Int → ml_St → Prop) (σ : ml_St) : Prop :=
Q 0 σ
def f_X11_openLetters_u60 (Q : Int → ml_St → Prop) (σ : ml_St) (x1 : Int) : Prop :=
∀ _ : I32 (σ 1 11),
f_X7_open σ x1 (σ 1 11) (fun σ2 =>
Q 1 σ2)
def f_X11_openLetters_u0 (Q : Int → ml_St → Prop) (σ : ml_St) (x1 : Int) : Prop :=
(x1 < 1 →
f_X11_openLetters_u24 Q σ) ∧
(¬ (x1 < 1) →
∀ _ : I32 (σ 1 12),
((b_shl 1 (σ 1 12)) ≤ x1 →
f_X11_openLetters_u24 Q σ) ∧
(¬ ((b_shl 1 (σ 1 12)) ≤ x1) →
f_J6_bitCount_0f7a4 σ x1 (fun r4 σ4 => ∀ _ : I32 r4,
(r4 ≤ 6 →
∃ N1, f_X11_openLetters_u28 Q (f_X11_openLetters_u52 Q) (f_X11_openLetters_u60 Q) N1 σ4 x1 0) ∧
(¬ (r4 ≤ 6) →
f_X11_openLetters_u24 Q σ4))))
def f_X11_openLetters (σ : ml_St) (x1 : Int) (Q : Int → ml_St → Prop) : Prop := f_X11_openLetters_u0 Q σ x1
def rm_X11_openLetters : Room := { frames := 5, cells := 0, slots := 0, locals := 164 }
set_option maxRecDepth 100000 in
set_option maxHeartbeats 4000000 in
theorem u_X11_openLetters_24 {p : Program} {e : Env} {s : State} {m : MethodId} {args : Array Value} {below : List Frame} {meth : Method} {c : Code} {base : Nat} {D : va_G} {cA : Nat → ClassId} {n : Nat} {l : Launch} {Q : Int → ml_St → Prop} (X : ml_X p s m c meth args D cA cX11_openLetters 3 RX11 (some .boolean)) (hn : 214 ≤ n) (σ : ml_St) (ls : Array Slot) (hl : lv_has ls 3 []) (hw : f_X11_openLetters_u24 Q σ) : ml_V p l e rm_X11_openLetters s m args below meth c (MQ below (ml_Qi ml_B base D cA n Q) args s 0 0 (ml_A base)) base D cA 0 0 n n σ (F0 m 24 ls []) := by
  unfold f_X11_openLetters_u24 at hw
  refine ml_iconst (pc := 24) X dX11_openLetters_24 ?_
  exact ml_zret (pc := 25) X ⟨by decide, by decide⟩ hw dX11_openLetters_25
set_option maxRecDepth 100000 in
set_option maxHeartbeats 4000000 in
theorem u_X11_openLetters_54 {p : Program} {e : Env} {s : State} {m : MethodId} {args : Array Value} {below : List Frame} {meth : Method} {c : Code} {base : Nat} {D : va_G} {cA : Nat → ClassId} {n : Nat} {l : Launch} {Q : Int → ml_St → Prop} {K28 : ml_St → Int → Int → Prop} (X : ml_X p s m c meth args D cA cX11_openLetters 3 RX11 (some .boolean)) (hn : 214 ≤ n) (hK28 : ∀ (σ : ml_St) (x1 : Int) (x2 : Int) (h_x1 : I32 x1) (h_x2 : I32 x2) (ls : Array Slot), lv_has ls 3 [(0, .ref (base + (1 : Int).toNat)), (1, .int (Int32.ofInt x1)), (2, .int (Int32.ofInt x2))] → K28 σ x1 x2 → ml_V p l e rm_X11_openLetters s m args below meth c (MQ below (ml_Qi ml_B base D cA n Q) args s 0 0 (ml_A base)) base D cA 0 0 n n σ (F0 m 28 ls [])) (σ : ml_St) (x1 : Int) (x2 : Int) (h_x1 : I32 x1) (h_x2 : I32 x2) (ls : Array Slot) (hl : lv_has ls 3 [(0, .ref (base + (1 : Int).toNat)), (1, .int (Int32.ofInt x1)), (2, .int (Int32.ofInt x2))]) (hw : f_X11_openLetters_u54 Q K28 σ x1 x2) : ml_V p l e rm_X11_openLetters s m args below meth c (MQ below (ml_Qi ml_B base D cA n Q) args s 0 0 (ml_A base)) base D cA 0 0 n n σ (F0 m 54 ls []) := by
  unfold f_X11_openLetters_u54 at hw
  obtain ⟨v1, hw⟩ := hw
  obtain ⟨y1, e1⟩ : ∃ y : Int, y = x2 + 1 := ⟨_, rfl⟩
  have hw := hw y1 e1
  rw [← e1] at v1
  refine ml_iinc (pc := 54) X e1 hl 2 rfl (by decide) (lst' := [(2, .int (Int32.ofInt y1)), (0, .ref (base + (1 : Int).toNat)), (1, .int (Int32.ofInt x1))]) rfl dX11_openLetters_54 (fun ls hl => ?_)
  refine ml_goto (pc := 57) (tgt := 28) X dX11_openLetters_57 (by decide) ?_
  exact hK28 σ x1 y1 h_x1 v1 _ (lv_sub hl [1, 2, 0] rfl) hw
set_option maxRecDepth 100000 in
set_option maxHeartbeats 4000000 in
theorem u_X11_openLetters_28 {p : Program} {e : Env} {s : State} {m : MethodId} {args : Array Value} {below : List Frame} {meth : Method} {c : Code} {base : Nat} {D : va_G} {cA : Nat → ClassId} {n : Nat} {l : Launch} {Q : Int → ml_St → Prop} {K52 : ml_St → Prop} {K60 : ml_St → Int → Prop} (X : ml_X p s m c meth args D cA cX11_openLetters 3 RX11 (some .boolean)) (hn : 214 ≤ n) (hK52 : ∀ (σ : ml_St) (ls : Array Slot), lv_has ls 3 [] → K52 σ → ml_V p l e rm_X11_openLetters s m args below meth c (MQ below (ml_Qi ml_B base D cA n Q) args s 0 0 (ml_A base)) base D cA 0 0 n n σ (F0 m 52 ls [])) (hK60 : ∀ (σ : ml_St) (x1 : Int) (h_x1 : I32 x1) (ls : Array Slot), lv_has ls 3 [(0, .ref (base + (1 : Int).toNat)), (1, .int (Int32.ofInt x1))] → K60 σ x1 → ml_V p l e rm_X11_openLetters s m args below meth c (MQ below (ml_Qi ml_B base D cA n Q) args s 0 0 (ml_A base)) base D cA 0 0 n n σ (F0 m 60 ls [])) : ∀ (N : Nat) (σ : ml_St) (x1 : Int) (x2 : Int) (h_x1 : I32 x1) (h_x2 : I32 x2) (ls : Array Slot), lv_has ls 3 [(0, .ref (base + (1 : Int).toNat)), (1, .int (Int32.ofInt x1)), (2, .int (Int32.ofInt x2))] → f_X11_openLetters_u28 Q K52 K60 N σ x1 x2 → ml_V p l e rm_X11_openLetters s m args below meth c (MQ below (ml_Qi ml_B base D cA n Q) args s 0 0 (ml_A base)) base D cA 0 0 n n σ (F0 m 28 ls []) := by
  intro N
  induction N with
  | zero => intro σ x1 x2 h_x1 h_x2 ls hl hw; exact False.elim hw
  | succ N ih =>
    intro σ x1 x2 h_x1 h_x2 ls hl hw
    unfold f_X11_openLetters_u28 at hw
    refine ml_iload_n (pc := 28) X hl 2 rfl rfl dX11_openLetters_28 ?_
    refine ml_aload_n (pc := 29) X hl 0 rfl rfl dX11_openLetters_29 ?_
    refine gf_X11_86 (pc := 30) X (ml_c1 hn) dX11_openLetters_30 (fun r1 => ?_)
    have hw := hw r1
    refine ml_icmp_ge (pc := 33) (tgt := 60) X h_x2 r1 dX11_openLetters_33 (by decide) (fun c2 => ?_) (fun c2 => ?_)
    · have hw := hw.1 c2
      exact hK60 σ x1 h_x1 _ (lv_sub hl [0, 1] rfl) hw
    · have hw := hw.2 c2
      refine ml_iload_n (pc := 36) X hl 1 rfl rfl dX11_openLetters_36 ?_
      refine ml_iload_n (pc := 37) X hl 2 rfl rfl dX11_openLetters_37 ?_
      refine ml_ishr (pc := 38) X dX11_openLetters_38 ?_
      refine ml_iconst (pc := 39) X dX11_openLetters_39 ?_
      refine ml_iand (pc := 40) X dX11_openLetters_40 ?_
      refine ml_if_eq (pc := 41) (tgt := 54) X (b_and_r _ _) dX11_openLetters_41 (by decide) (fun c3 => ?_) (fun c3 => ?_)
      · have hw := hw.1 c3
        exact u_X11_openLetters_54 X hn ih σ x1 x2 h_x1 h_x2 _ (lv_sub hl [0, 1, 2] rfl) hw
      · have hw := hw.2 c3
        refine ml_aload_n (pc := 44) X hl 0 rfl rfl dX11_openLetters_44 ?_
        refine ml_iload_n (pc := 45) X hl 2 rfl rfl dX11_openLetters_45 ?_
        refine ml_callzV (pc := 46) (rest := []) X [.int (Int32.ofInt x2)] (by decide) rfl (ml_c1 hn) (c_X11_isMade l base D cA n hn σ x2 h_x2 _ hw) cv_X11_121 ⟨rfl, rfl⟩ ⟨by decide, by decide⟩ rfl rfl hl (Nat.le_of_ble_eq_true rfl) ⟨Nat.zero_le _, Nat.zero_le _⟩ dX11_openLetters_46 (fun r4 σ4 t4 hw => ?_)
        have hw := hw t4
        refine ml_if_ne (pc := 49) (tgt := 54) X t4.i dX11_openLetters_49 (by decide) (fun c5 => ?_) (fun c5 => ?_)
        · have hw := hw.1 c5
          exact u_X11_openLetters_54 X hn ih σ4 x1 x2 h_x1 h_x2 _ (lv_sub hl [0, 1, 2] rfl) hw
        · have hw := hw.2 c5
          exact hK52 σ4   _ (lv_sub hl [] rfl) hw
set_option maxRecDepth 100000 in
set_option maxHeartbeats 4000000 in
theorem u_X11_openLetters_52 {p : Program} {e : Env} {s : State} {m : MethodId} {args : Array Value} {below : List Frame} {meth : Method} {c : Code} {base : Nat} {D : va_G} {cA : Nat → ClassId} {n : Nat} {l : Launch} {Q : Int → ml_St → Prop} (X : ml_X p s m c meth args D cA cX11_openLetters 3 RX11 (some .boolean)) (hn : 214 ≤ n) (σ : ml_St) (ls : Array Slot) (hl : lv_has ls 3 []) (hw : f_X11_openLetters_u52 Q σ) : ml_V p l e rm_X11_openLetters s m args below meth c (MQ below (ml_Qi ml_B base D cA n Q) args s 0 0 (ml_A base)) base D cA 0 0 n n σ (F0 m 52 ls []) := by
  unfold f_X11_openLetters_u52 at hw
  refine ml_iconst (pc := 52) X dX11_openLetters_52 ?_
  exact ml_zret (pc := 53) X ⟨by decide, by decide⟩ hw dX11_openLetters_53
set_option maxRecDepth 100000 in
set_option maxHeartbeats 4000000 in
theorem u_X11_openLetters_60 {p : Program} {e : Env} {s : State} {m : MethodId} {args : Array Value} {below : List Frame} {meth : Method} {c : Code} {base : Nat} {D : va_G} {cA : Nat → ClassId} {n : Nat} {l : Launch} {Q : Int → ml_St → Prop} (X : ml_X p s m c meth args D cA cX11_openLetters 3 RX11 (some .boolean)) (hn : 214 ≤ n) (σ : ml_St) (x1 : Int) (h_x1 : I32 x1) (ls : Array Slot) (hl : lv_has ls 3 [(0, .ref (base + (1 : Int).toNat)), (1, .int (Int32.ofInt x1))]) (hw : f_X11_openLetters_u60 Q σ x1) : ml_V p l e rm_X11_openLetters s m args below meth c (MQ below (ml_Qi ml_B base D cA n Q) args s 0 0 (ml_A base)) base D cA 0 0 n n σ (F0 m 60 ls []) := by
  unfold f_X11_openLetters_u60 at hw
  refine ml_aload_n (pc := 60) X hl 0 rfl rfl dX11_openLetters_60 ?_
  refine gf_X11_47 (pc := 61) X (ml_c1 hn) dX11_openLetters_61 ?_
  refine ml_iload_n (pc := 64) X hl 1 rfl rfl dX11_openLetters_64 ?_
  refine ml_aload_n (pc := 65) X hl 0 rfl rfl dX11_openLetters_65 ?_
  refine gf_X11_67 (pc := 66) X (ml_c1 hn) dX11_openLetters_66 ?_
  refine ml_aload_n (pc := 69) X hl 0 rfl rfl dX11_openLetters_69 ?_
  refine gf_X11_82 (pc := 70) X (ml_c1 hn) dX11_openLetters_70 (fun r1 => ?_)
  have hw := hw r1
  refine ml_callvV (pc := 73) (rest := []) X [.int (Int32.ofInt x1), .ref (base + (114 : Int).toNat), .int (Int32.ofInt (σ 1 11))] (by decide) rfl (ml_c55 hn) (c_X7_open l base D cA n hn σ x1 (σ 1 11) h_x1 r1 _ hw) cv_X11_315 ⟨rfl, rfl⟩ ⟨by decide, by decide⟩ rfl rfl hl (Nat.le_of_ble_eq_true rfl) ⟨Nat.zero_le _, Nat.zero_le _⟩ dX11_openLetters_73 (fun σ2 hw => ?_)
  refine ml_iconst (pc := 76) X dX11_openLetters_76 ?_
  exact ml_zret (pc := 77) X ⟨by decide, by decide⟩ hw dX11_openLetters_77
set_option maxRecDepth 100000 in
set_option maxHeartbeats 4000000 in
theorem u_X11_openLetters_0 {p : Program} {e : Env} {s : State} {m : MethodId} {args : Array Value} {below : List Frame} {meth : Method} {c : Code} {base : Nat} {D : va_G} {cA : Nat → ClassId} {n : Nat} {l : Launch} {Q : Int → ml_St → Prop} (X : ml_X p s m c meth args D cA cX11_openLetters 3 RX11 (some .boolean)) (hn : 214 ≤ n) (σ : ml_St) (x1 : Int) (h_x1 : I32 x1) (ls : Array Slot) (hl : lv_has ls 3 [(0, .ref (base + (1 : Int).toNat)), (1, .int (Int32.ofInt x1))]) (hw : f_X11_openLetters_u0 Q σ x1) : ml_V p l e rm_X11_openLetters s m args below meth c (MQ below (ml_Qi ml_B base D cA n Q) args s 0 0 (ml_A base)) base D cA 0 0 n n σ (F0 m 0 ls []) := by
  unfold f_X11_openLetters_u0 at hw
  refine ml_iload_n (pc := 0) X hl 1 rfl rfl dX11_openLetters_0 ?_
  refine ml_iconst (pc := 1) X dX11_openLetters_1 ?_
  refine ml_icmp_lt (pc := 2) (tgt := 24) X h_x1 ⟨by decide, by decide⟩ dX11_openLetters_2 (by decide) (fun c1 => ?_) (fun c1 => ?_)
  · have hw := hw.1 c1
    exact u_X11_openLetters_24 X hn σ   _ (lv_sub hl [] rfl) hw
  · have hw := hw.2 c1
    refine ml_iload_n (pc := 5) X hl 1 rfl rfl dX11_openLetters_5 ?_
    refine ml_iconst (pc := 6) X dX11_openLetters_6 ?_
    refine ml_aload_n (pc := 7) X hl 0 rfl rfl dX11_openLetters_7 ?_
    refine gf_X11_86 (pc := 8) X (ml_c1 hn) dX11_openLetters_8 (fun r2 => ?_)
    have hw := hw r2
    refine ml_ishl (pc := 11) X dX11_openLetters_11 ?_
    refine ml_icmp_ge (pc := 12) (tgt := 24) X h_x1 (b_shl_r _ _) dX11_openLetters_12 (by decide) (fun c3 => ?_) (fun c3 => ?_)
    · have hw := hw.1 c3
      exact u_X11_openLetters_24 X hn σ   _ (lv_sub hl [] rfl) hw
    · have hw := hw.2 c3
      refine ml_iload_n (pc := 15) X hl 1 rfl rfl dX11_openLetters_15 ?_
      refine ml_calliS (pc := 16) (rest := []) X [.int (Int32.ofInt x1)] (c_J6_bitCount_0f7a4 l base D cA n hn σ x1 h_x1 _ hw) cv_X11_310 ⟨rfl, rfl⟩ ⟨by decide, by decide⟩ rfl rfl hl (Nat.le_of_ble_eq_true rfl) ⟨Nat.zero_le _, Nat.zero_le _⟩ dX11_openLetters_16 (fun r4 σ4 t4 hw => ?_)
      have hw := hw t4
      refine ml_bipush (pc := 19) X dX11_openLetters_19 (by decide) ?_
      refine ml_icmp_le (pc := 21) (tgt := 26) X t4 ⟨by decide, by decide⟩ dX11_openLetters_21 (by decide) (fun c5 => ?_) (fun c5 => ?_)
      · have hw := hw.1 c5
        refine ml_iconst (pc := 26) X dX11_openLetters_26 ?_
        refine ml_istore_n (pc := 27) X rfl hl (by decide) (lst' := [(2, .int (Int32.ofInt 0)), (0, .ref (base + (1 : Int).toNat)), (1, .int (Int32.ofInt x1))]) rfl dX11_openLetters_27 (fun ls hl => ?_)
        obtain ⟨N0, hw⟩ := hw
        exact u_X11_openLetters_28 X hn (fun σ   ls hl hw => u_X11_openLetters_52 X hn σ   ls hl hw) (fun σ x1 h_x1 ls hl hw => u_X11_openLetters_60 X hn σ x1 h_x1 ls hl hw) N0 σ4 x1 0 h_x1 ⟨by decide, by decide⟩ _ (lv_sub hl [1, 2, 0] rfl) hw
      · have hw := hw.2 c5
        exact u_X11_openLetters_24 X hn σ4   _ (lv_sub hl [] rfl) hw
set_option maxRecDepth 100000 in
theorem c_X11_openLetters (l : Launch) (base : Nat) (D : va_G) (cA : Nat → ClassId) (n : Nat) (hn : 214 ≤ n) (σ : ml_St) (x1 : Int) (h_x1 : I32 x1) (Q : Int → ml_St → Prop) (hw : f_X11_openLetters σ x1 Q) : Met l yX11_openLetters (Cond.code yX11_openLetters cX11_openLetters 3 (some .boolean) :: ml_T) rm_X11_openLetters (va_Pc [.ref (base + (1 : Int).toNat), .int (Int32.ofInt x1)] (ml_U base D cA n σ)) (ml_Qi ml_B base D cA n Q) 0 0 (ml_A base) := by
  refine Met.ofW (cc := cX11_openLetters) (maxL := 3) (ret := (some .boolean)) (by decide) rfl ?_
  intro p e s m args below meth c s₁ B hml hv
  obtain ⟨rfl, hP, hK, hok, hro⟩ := hv
  have X : ml_X p s m c meth _ D cA cX11_openLetters 3 RX11 (some .boolean) := ⟨B.exec, B.bytes, hml, findClass_of_methodNamed B.named, fun w hw => atoms_spec (ws := Cond.code yX11_openLetters cX11_openLetters 3 (some .boolean) :: ml_T) B.pre w (List.mem_cons_of_mem _ hw), hK, B.notSynchronized, B.returns⟩
  have hl := lv_entry [.ref (base + (1 : Int).toNat), .int (Int32.ofInt x1)] (n := 3) (Nat.le_of_ble_eq_true rfl)
  rw [lg_entry_eq]
  generalize (lg_sl [.ref (base + (1 : Int).toNat), .int (Int32.ofInt x1)] ++ List.replicate (3 - (lg_sl [.ref (base + (1 : Int).toNat), .int (Int32.ofInt x1)]).length) Slot.unset).toArray = ls at hl ⊢
  have hl : lv_has ls 3 [(0, .ref (base + (1 : Int).toNat)), (1, .int (Int32.ofInt x1))] := hl
  unfold f_X11_openLetters at hw
  exact u_X11_openLetters_0 X hn σ x1 h_x1 _ (lv_sub hl [0, 1] rfl) hw s.heap [] hP va_S.rf hok hro
theorem dX7_closeAll_0 : decode cX7_closeAll 0 = .ok (.iconst 0, 1) := by decide +kernel
theorem dX7_closeAll_1 : decode cX7_closeAll 1 = .ok (.istore_n 3, 1) := by decide +kernel
theorem dX7_closeAll_2 : decode cX7_closeAll 2 = .ok (.iload_n 3, 1) := by decide +kernel
theorem dX7_closeAll_3 : decode cX7_closeAll 3 = .ok (.aload_n 0, 1) := by decide +kernel
theorem dX7_closeAll_4 : decode cX7_closeAll 4 = .ok (.getfield 18, 3) := by decide +kernel
theorem dX7_closeAll_7 : decode cX7_closeAll 7 = .ok (.if_icmp .ge 45, 3) := by decide +kernel
theorem dX7_closeAll_10 : decode cX7_closeAll 10 = .ok (.aload_n 0, 1) := by decide +kernel
theorem dX7_closeAll_11 : decode cX7_closeAll 11 = .ok (.getfield 37, 3) := by decide +kernel
theorem dX7_closeAll_14 : decode cX7_closeAll 14 = .ok (.iload_n 3, 1) := by decide +kernel
theorem dX7_closeAll_15 : decode cX7_closeAll 15 = .ok (.bipush 10, 2) := by decide +kernel
theorem dX7_closeAll_17 : decode cX7_closeAll 17 = .ok (.imul, 1) := by decide +kernel
theorem dX7_closeAll_18 : decode cX7_closeAll 18 = .ok (.aload_n 0, 1) := by decide +kernel
theorem dX7_closeAll_19 : decode cX7_closeAll 19 = .ok (.getfield 53, 3) := by decide +kernel
theorem dX7_closeAll_22 : decode cX7_closeAll 22 = .ok (.getfield 81, 3) := by decide +kernel
theorem dX7_closeAll_25 : decode cX7_closeAll 25 = .ok (.iconst 0, 1) := by decide +kernel
theorem dX7_closeAll_26 : decode cX7_closeAll 26 = .ok (.bipush 10, 2) := by decide +kernel
theorem dX7_closeAll_28 : decode cX7_closeAll 28 = .ok (.invokestatic 84, 3) := by decide +kernel
theorem dX7_closeAll_31 : decode cX7_closeAll 31 = .ok (.aload_n 0, 1) := by decide +kernel
theorem dX7_closeAll_32 : decode cX7_closeAll 32 = .ok (.getfield 34, 3) := by decide +kernel
theorem dX7_closeAll_35 : decode cX7_closeAll 35 = .ok (.iload_n 3, 1) := by decide +kernel
theorem dX7_closeAll_36 : decode cX7_closeAll 36 = .ok (.aload_n 1, 1) := by decide +kernel
theorem dX7_closeAll_37 : decode cX7_closeAll 37 = .ok (.aload_n 0, 1) := by decide +kernel
theorem dX7_closeAll_38 : decode cX7_closeAll 38 = .ok (.getfield 53, 3) := by decide +kernel
theorem dX7_closeAll_41 : decode cX7_closeAll 41 = .ok (.iload_n 2, 1) := by decide +kernel
theorem dX7_closeAll_42 : decode cX7_closeAll 42 = .ok (.invokevirtual 115, 3) := by decide +kernel
theorem dX7_closeAll_45 : decode cX7_closeAll 45 = .ok (.iastore, 1) := by decide +kernel
theorem dX7_closeAll_46 : decode cX7_closeAll 46 = .ok (.iinc 3 1, 3) := by decide +kernel
theorem dX7_closeAll_49 : decode cX7_closeAll 49 = .ok (.goto (-47), 3) := by decide +kernel
theorem dX7_closeAll_52 : decode cX7_closeAll 52 = .ok (.return_, 1) := by decide +kernel
def f_X7_closeAll_u2 (Q : ml_St → Prop) (K52 : ml_St → Prop) : Nat → ml_St → Int → Int → Prop
| 0, _, _, _ => False
| N + 1, σ, x2, x3 =>
∀ _ : I32 (σ 55 2),
((σ 55 2) ≤ x3 →
K52 σ) ∧
(¬ ((σ 55 2) ≤ x3) →
I32 (x3 * 10) ∧
(0 : Int) ≤ (x3 * 10) ∧ (0 : Int) ≤ 0 ∧ (0 : Int) ≤ 10 ∧ ((x3 * 10) + 10 : Int) ≤ 9460 ∧ (0 + 10 : Int) ≤ 10 ∧
∀ σ4, σ4 = ml_cpy σ 61 (x3 * 10) 65 0 10 →
f_X0_loopsBy σ4 64 x2 (fun r5 σ5 => ∀ _ : I32 r5,
(0 : Int) ≤ x3 ∧ (x3 : Int) < 946 ∧
∀ σ6, σ6 = ml_up σ5 60 x3 r5 →
I32 (x3 + 1) ∧
∀ y7 : Int, y7 = x3 + 1 →
f_X7_closeAll_u2 Q K52 N σ6 x2 y7))
def f_X7_closeAll_u52 (Q : ml_St → Prop) (σ : ml_St) : Prop :=
Q σ
def f_X7_closeAll_u0 (Q : ml_St → Prop) (σ : ml_St) (x2 : Int) : Prop :=
∃ N1, f_X7_closeAll_u2 Q (f_X7_closeAll_u52 Q) N1 σ x2 0
def f_X7_closeAll (σ : ml_St) (x2 : Int) (Q : ml_St → Prop) : Prop := f_X7_closeAll_u0 Q σ x2
def rm_X7_closeAll : Room := { frames := 2, cells := 0, slots := 0, locals := 60 }
set_option maxRecDepth 100000 in
set_option maxHeartbeats 4000000 in
theorem u_X7_closeAll_2 {p : Program} {e : Env} {s : State} {m : MethodId} {args : Array Value} {below : List Frame} {meth : Method} {c : Code} {base : Nat} {D : va_G} {cA : Nat → ClassId} {n : Nat} {l : Launch} {Q : ml_St → Prop} {K52 : ml_St → Prop} (X : ml_X p s m c meth args D cA cX7_closeAll 4 RX7 none) (hn : 214 ≤ n) (hK52 : ∀ (σ : ml_St) (ls : Array Slot), lv_has ls 4 [] → K52 σ → ml_V p l e rm_X7_closeAll s m args below meth c (MQ below (ml_Qv base D cA n Q) args s 0 0 (ml_A base)) base D cA 0 0 n n σ (F0 m 52 ls [])) : ∀ (N : Nat) (σ : ml_St) (x2 : Int) (x3 : Int) (h_x2 : I32 x2) (h_x3 : I32 x3) (ls : Array Slot), lv_has ls 4 [(0, .ref (base + (55 : Int).toNat)), (1, .ref (base + (4 : Int).toNat)), (2, .int (Int32.ofInt x2)), (3, .int (Int32.ofInt x3))] → f_X7_closeAll_u2 Q K52 N σ x2 x3 → ml_V p l e rm_X7_closeAll s m args below meth c (MQ below (ml_Qv base D cA n Q) args s 0 0 (ml_A base)) base D cA 0 0 n n σ (F0 m 2 ls []) := by
  intro N
  induction N with
  | zero => intro σ x2 x3 h_x2 h_x3 ls hl hw; exact False.elim hw
  | succ N ih =>
    intro σ x2 x3 h_x2 h_x3 ls hl hw
    unfold f_X7_closeAll_u2 at hw
    refine ml_iload_n (pc := 2) X hl 3 rfl rfl dX7_closeAll_2 ?_
    refine ml_aload_n (pc := 3) X hl 0 rfl rfl dX7_closeAll_3 ?_
    refine gf_X7_18 (pc := 4) X (ml_c55 hn) dX7_closeAll_4 (fun r1 => ?_)
    have hw := hw r1
    refine ml_icmp_ge (pc := 7) (tgt := 52) X h_x3 r1 dX7_closeAll_7 (by decide) (fun c2 => ?_) (fun c2 => ?_)
    · have hw := hw.1 c2
      exact hK52 σ   _ (lv_sub hl [] rfl) hw
    · have hw := hw.2 c2
      refine ml_aload_n (pc := 10) X hl 0 rfl rfl dX7_closeAll_10 ?_
      refine gf_X7_37 (pc := 11) X (ml_c55 hn) dX7_closeAll_11 ?_
      refine ml_iload_n (pc := 14) X hl 3 rfl rfl dX7_closeAll_14 ?_
      refine ml_bipush (pc := 15) X dX7_closeAll_15 (by decide) ?_
      obtain ⟨v3, hw⟩ := hw
      refine ml_imul (pc := 17) X dX7_closeAll_17 ?_
      refine ml_aload_n (pc := 18) X hl 0 rfl rfl dX7_closeAll_18 ?_
      refine gf_X7_53 (pc := 19) X (ml_c55 hn) dX7_closeAll_19 ?_
      refine gf_X7_81 (pc := 22) X (ml_c64 hn) dX7_closeAll_22 ?_
      refine ml_iconst (pc := 25) X dX7_closeAll_25 ?_
      refine ml_bipush (pc := 26) X dX7_closeAll_26 (by decide) ?_
      obtain ⟨a4, b4, c4, f4, h4, hw⟩ := hw
      refine ml_cpi (pc := 28) (n0 := 9460) (n1 := 10) X ⟨tw_4_40, tw_3_43, tw_3_42, tw_1_15⟩ (ml_c61 hn) (ml_r19_1 hn (ml_c64 hn)) v3 ⟨by decide, by decide⟩ ⟨by decide, by decide⟩ a4 b4 c4 f4 h4 hl (Nat.le_of_ble_eq_true rfl) ⟨by decide, by decide⟩ dX7_closeAll_28 (fun σ4 g4 => ?_)
      have hw := hw σ4 g4
      refine ml_aload_n (pc := 31) X hl 0 rfl rfl dX7_closeAll_31 ?_
      refine gf_X7_34 (pc := 32) X (ml_c55 hn) dX7_closeAll_32 ?_
      refine ml_iload_n (pc := 35) X hl 3 rfl rfl dX7_closeAll_35 ?_
      refine ml_aload_n (pc := 36) X hl 1 rfl rfl dX7_closeAll_36 ?_
      refine ml_aload_n (pc := 37) X hl 0 rfl rfl dX7_closeAll_37 ?_
      refine gf_X7_53 (pc := 38) X (ml_c55 hn) dX7_closeAll_38 ?_
      refine ml_iload_n (pc := 41) X hl 2 rfl rfl dX7_closeAll_41 ?_
      refine ml_calliV (pc := 42) (rest := [.int (Int32.ofInt x3), .ref (base + (60 : Int).toNat)]) X [.ref (base + (64 : Int).toNat), .int (Int32.ofInt x2)] (by decide) rfl (ml_c4 hn) (c_X0_loopsBy l base D cA n hn σ4 64 (ml_c64 hn) x2 h_x2 _ hw) cv_X7_115 ⟨rfl, rfl⟩ ⟨by decide, by decide⟩ rfl rfl hl (Nat.le_of_ble_eq_true rfl) ⟨Nat.zero_le _, Nat.zero_le _⟩ dX7_closeAll_42 (fun r5 σ5 t5 hw => ?_)
      have hw := hw t5
      obtain ⟨a6, b6, hw⟩ := hw
      refine ml_iast (pc := 45) (N := 946) X (ml_c60 hn) a6 b6 t5 dX7_closeAll_45 (fun σ6 g6 => ?_)
      have hw := hw σ6 g6
      obtain ⟨v7, hw⟩ := hw
      obtain ⟨y7, e7⟩ : ∃ y : Int, y = x3 + 1 := ⟨_, rfl⟩
      have hw := hw y7 e7
      rw [← e7] at v7
      refine ml_iinc (pc := 46) X e7 hl 3 rfl (by decide) (lst' := [(3, .int (Int32.ofInt y7)), (0, .ref (base + (55 : Int).toNat)), (1, .ref (base + (4 : Int).toNat)), (2, .int (Int32.ofInt x2))]) rfl dX7_closeAll_46 (fun ls hl => ?_)
      refine ml_goto (pc := 49) (tgt := 2) X dX7_closeAll_49 (by decide) ?_
      exact ih σ6 x2 y7 h_x2 v7 _ (lv_sub hl [1, 2, 3, 0] rfl) hw
set_option maxRecDepth 100000 in
set_option maxHeartbeats 4000000 in
theorem u_X7_closeAll_52 {p : Program} {e : Env} {s : State} {m : MethodId} {args : Array Value} {below : List Frame} {meth : Method} {c : Code} {base : Nat} {D : va_G} {cA : Nat → ClassId} {n : Nat} {l : Launch} {Q : ml_St → Prop} (X : ml_X p s m c meth args D cA cX7_closeAll 4 RX7 none) (hn : 214 ≤ n) (σ : ml_St) (ls : Array Slot) (hl : lv_has ls 4 []) (hw : f_X7_closeAll_u52 Q σ) : ml_V p l e rm_X7_closeAll s m args below meth c (MQ below (ml_Qv base D cA n Q) args s 0 0 (ml_A base)) base D cA 0 0 n n σ (F0 m 52 ls []) := by
  unfold f_X7_closeAll_u52 at hw
  exact ml_vret (pc := 52) X hw dX7_closeAll_52
set_option maxRecDepth 100000 in
set_option maxHeartbeats 4000000 in
theorem u_X7_closeAll_0 {p : Program} {e : Env} {s : State} {m : MethodId} {args : Array Value} {below : List Frame} {meth : Method} {c : Code} {base : Nat} {D : va_G} {cA : Nat → ClassId} {n : Nat} {l : Launch} {Q : ml_St → Prop} (X : ml_X p s m c meth args D cA cX7_closeAll 4 RX7 none) (hn : 214 ≤ n) (σ : ml_St) (x2 : Int) (h_x2 : I32 x2) (ls : Array Slot) (hl : lv_has ls 4 [(0, .ref (base + (55 : Int).toNat)), (1, .ref (base + (4 : Int).toNat)), (2, .int (Int32.ofInt x2))]) (hw : f_X7_closeAll_u0 Q σ x2) : ml_V p l e rm_X7_closeAll s m args below meth c (MQ below (ml_Qv base D cA n Q) args s 0 0 (ml_A base)) base D cA 0 0 n n σ (F0 m 0 ls []) := by
  unfold f_X7_closeAll_u0 at hw
  refine ml_iconst (pc := 0) X dX7_closeAll_0 ?_
  refine ml_istore_n (pc := 1) X rfl hl (by decide) (lst' := [(3, .int (Int32.ofInt 0)), (0, .ref (base + (55 : Int).toNat)), (1, .ref (base + (4 : Int).toNat)), (2, .int (Int32.ofInt x2))]) rfl dX7_closeAll_1 (fun ls hl => ?_)
  obtain ⟨N0, hw⟩ := hw
  exact u_X7_closeAll_2 X hn (fun σ   ls hl hw => u_X7_closeAll_52 X hn σ   ls hl hw) N0 σ x2 0 h_x2 ⟨by decide, by decide⟩ _ (lv_sub hl [1, 2, 3, 0] rfl) hw
set_option maxRecDepth 100000 in
theorem c_X7_closeAll (l : Launch) (base : Nat) (D : va_G) (cA : Nat → ClassId) (n : Nat) (hn : 214 ≤ n) (σ : ml_St) (x2 : Int) (h_x2 : I32 x2) (Q : ml_St → Prop) (hw : f_X7_closeAll σ x2 Q) : Met l yX7_closeAll (Cond.code yX7_closeAll cX7_closeAll 4 none :: ml_T) rm_X7_closeAll (va_Pc [.ref (base + (55 : Int).toNat), .ref (base + (4 : Int).toNat), .int (Int32.ofInt x2)] (ml_U base D cA n σ)) (ml_Qv base D cA n Q) 0 0 (ml_A base) := by
  refine Met.ofW (cc := cX7_closeAll) (maxL := 4) (ret := none) (by decide) rfl ?_
  intro p e s m args below meth c s₁ B hml hv
  obtain ⟨rfl, hP, hK, hok, hro⟩ := hv
  have X : ml_X p s m c meth _ D cA cX7_closeAll 4 RX7 none := ⟨B.exec, B.bytes, hml, findClass_of_methodNamed B.named, fun w hw => atoms_spec (ws := Cond.code yX7_closeAll cX7_closeAll 4 none :: ml_T) B.pre w (List.mem_cons_of_mem _ hw), hK, B.notSynchronized, B.returns⟩
  have hl := lv_entry [.ref (base + (55 : Int).toNat), .ref (base + (4 : Int).toNat), .int (Int32.ofInt x2)] (n := 4) (Nat.le_of_ble_eq_true rfl)
  rw [lg_entry_eq]
  generalize (lg_sl [.ref (base + (55 : Int).toNat), .ref (base + (4 : Int).toNat), .int (Int32.ofInt x2)] ++ List.replicate (4 - (lg_sl [.ref (base + (55 : Int).toNat), .ref (base + (4 : Int).toNat), .int (Int32.ofInt x2)]).length) Slot.unset).toArray = ls at hl ⊢
  have hl : lv_has ls 4 [(0, .ref (base + (55 : Int).toNat)), (1, .ref (base + (4 : Int).toNat)), (2, .int (Int32.ofInt x2))] := hl
  unfold f_X7_closeAll at hw
  exact u_X7_closeAll_0 X hn σ x2 h_x2 _ (lv_sub hl [0, 1, 2] rfl) hw s.heap [] hP va_S.rf hok hro
theorem dX7_spread_0 : decode cX7_spread 0 = .ok (.iload_n 1, 1) := by decide +kernel
theorem dX7_spread_1 : decode cX7_spread 1 = .ok (.bipush 6, 2) := by decide +kernel
theorem dX7_spread_3 : decode cX7_spread 3 = .ok (.imul, 1) := by decide +kernel
theorem dX7_spread_4 : decode cX7_spread 4 = .ok (.istore_n 2, 1) := by decide +kernel
theorem dX7_spread_5 : decode cX7_spread 5 = .ok (.iload_n 2, 1) := by decide +kernel
theorem dX7_spread_6 : decode cX7_spread 6 = .ok (.iload_n 1, 1) := by decide +kernel
theorem dX7_spread_7 : decode cX7_spread 7 = .ok (.bipush 6, 2) := by decide +kernel
theorem dX7_spread_9 : decode cX7_spread 9 = .ok (.imul, 1) := by decide +kernel
theorem dX7_spread_10 : decode cX7_spread 10 = .ok (.aload_n 0, 1) := by decide +kernel
theorem dX7_spread_11 : decode cX7_spread 11 = .ok (.getfield 15, 3) := by decide +kernel
theorem dX7_spread_14 : decode cX7_spread 14 = .ok (.iadd, 1) := by decide +kernel
theorem dX7_spread_15 : decode cX7_spread 15 = .ok (.if_icmp .ge 70, 3) := by decide +kernel
theorem dX7_spread_18 : decode cX7_spread 18 = .ok (.aload_n 0, 1) := by decide +kernel
theorem dX7_spread_19 : decode cX7_spread 19 = .ok (.getfield 28, 3) := by decide +kernel
theorem dX7_spread_22 : decode cX7_spread 22 = .ok (.iload_n 2, 1) := by decide +kernel
theorem dX7_spread_23 : decode cX7_spread 23 = .ok (.iaload, 1) := by decide +kernel
theorem dX7_spread_24 : decode cX7_spread 24 = .ok (.iconst 3, 1) := by decide +kernel
theorem dX7_spread_25 : decode cX7_spread 25 = .ok (.imul, 1) := by decide +kernel
theorem dX7_spread_26 : decode cX7_spread 26 = .ok (.aload_n 0, 1) := by decide +kernel
theorem dX7_spread_27 : decode cX7_spread 27 = .ok (.getfield 31, 3) := by decide +kernel
theorem dX7_spread_30 : decode cX7_spread 30 = .ok (.iload_n 2, 1) := by decide +kernel
theorem dX7_spread_31 : decode cX7_spread 31 = .ok (.iaload, 1) := by decide +kernel
theorem dX7_spread_32 : decode cX7_spread 32 = .ok (.iadd, 1) := by decide +kernel
theorem dX7_spread_33 : decode cX7_spread 33 = .ok (.istore_n 3, 1) := by decide +kernel
theorem dX7_spread_34 : decode cX7_spread 34 = .ok (.iconst 0, 1) := by decide +kernel
theorem dX7_spread_35 : decode cX7_spread 35 = .ok (.istore 4, 2) := by decide +kernel
theorem dX7_spread_37 : decode cX7_spread 37 = .ok (.iload 4, 2) := by decide +kernel
theorem dX7_spread_39 : decode cX7_spread 39 = .ok (.aload_n 0, 1) := by decide +kernel
theorem dX7_spread_40 : decode cX7_spread 40 = .ok (.getfield 31, 3) := by decide +kernel
theorem dX7_spread_43 : decode cX7_spread 43 = .ok (.iload_n 2, 1) := by decide +kernel
theorem dX7_spread_44 : decode cX7_spread 44 = .ok (.iaload, 1) := by decide +kernel
theorem dX7_spread_45 : decode cX7_spread 45 = .ok (.iadd, 1) := by decide +kernel
theorem dX7_spread_46 : decode cX7_spread 46 = .ok (.iconst 3, 1) := by decide +kernel
theorem dX7_spread_47 : decode cX7_spread 47 = .ok (.if_icmp .ge 32, 3) := by decide +kernel
theorem dX7_spread_50 : decode cX7_spread 50 = .ok (.aload_n 0, 1) := by decide +kernel
theorem dX7_spread_51 : decode cX7_spread 51 = .ok (.getfield 44, 3) := by decide +kernel
theorem dX7_spread_54 : decode cX7_spread 54 = .ok (.iload_n 3, 1) := by decide +kernel
theorem dX7_spread_55 : decode cX7_spread 55 = .ok (.iload 4, 2) := by decide +kernel
theorem dX7_spread_57 : decode cX7_spread 57 = .ok (.iadd, 1) := by decide +kernel
theorem dX7_spread_58 : decode cX7_spread 58 = .ok (.dup2, 1) := by decide +kernel
theorem dX7_spread_59 : decode cX7_spread 59 = .ok (.laload, 1) := by decide +kernel
theorem dX7_spread_60 : decode cX7_spread 60 = .ok (.aload_n 0, 1) := by decide +kernel
theorem dX7_spread_61 : decode cX7_spread 61 = .ok (.getfield 40, 3) := by decide +kernel
theorem dX7_spread_64 : decode cX7_spread 64 = .ok (.iload_n 1, 1) := by decide +kernel
theorem dX7_spread_65 : decode cX7_spread 65 = .ok (.iconst 3, 1) := by decide +kernel
theorem dX7_spread_66 : decode cX7_spread 66 = .ok (.imul, 1) := by decide +kernel
theorem dX7_spread_67 : decode cX7_spread 67 = .ok (.iload 4, 2) := by decide +kernel
theorem dX7_spread_69 : decode cX7_spread 69 = .ok (.iadd, 1) := by decide +kernel
theorem dX7_spread_70 : decode cX7_spread 70 = .ok (.laload, 1) := by decide +kernel
theorem dX7_spread_71 : decode cX7_spread 71 = .ok (.ladd, 1) := by decide +kernel
theorem dX7_spread_72 : decode cX7_spread 72 = .ok (.lastore, 1) := by decide +kernel
theorem dX7_spread_73 : decode cX7_spread 73 = .ok (.iinc 4 1, 3) := by decide +kernel
theorem dX7_spread_76 : decode cX7_spread 76 = .ok (.goto (-39), 3) := by decide +kernel
theorem dX7_spread_79 : decode cX7_spread 79 = .ok (.iinc 2 1, 3) := by decide +kernel
theorem dX7_spread_82 : decode cX7_spread 82 = .ok (.goto (-77), 3) := by decide +kernel
theorem dX7_spread_85 : decode cX7_spread 85 = .ok (.return_, 1) := by decide +kernel
def f_X7_spread_u37 (Q : ml_St → Prop) (K79 : ml_St → Int → Int → Prop) : Nat → ml_St → Int → Int → Int → Int → Prop
| 0, _, _, _, _, _ => False
| N + 1, σ, x1, x2, x3, x4 =>
(0 : Int) ≤ x2 ∧ (x2 : Int) < 5676 ∧
∀ _ : I32 (σ 59 x2),
I32 (x4 + (σ 59 x2)) ∧
(3 ≤ ((x4 + (σ 59 x2)) : Int) →
K79 σ x1 x2) ∧
(¬ (3 ≤ ((x4 + (σ 59 x2)) : Int)) →
I32 (x3 + x4) ∧
(0 : Int) ≤ (x3 + x4) ∧ ((x3 + x4) : Int) < 2838 ∧
∀ _ : I64 (σ 63 (x3 + x4)),
I32 (x1 * 3) ∧
I32 ((x1 * 3) + x4) ∧
(0 : Int) ≤ ((x1 * 3) + x4) ∧ (((x1 * 3) + x4) : Int) < 2838 ∧
∀ _ : I64 (σ 62 ((x1 * 3) + x4)),
(0 : Int) ≤ (x3 + x4) ∧ ((x3 + x4) : Int) < 2838 ∧
∀ σ10, σ10 = ml_up σ 63 (x3 + x4) (w64 ((σ 63 (x3 + x4)) + (σ 62 ((x1 * 3) + x4)))) →
I32 (x4 + 1) ∧
∀ y11 : Int, y11 = x4 + 1 →
f_X7_spread_u37 Q K79 N σ10 x1 x2 x3 y11)
def f_X7_spread_u79 (Q : ml_St → Prop) (K5 : ml_St → Int → Int → Prop) (σ : ml_St) (x1 : Int) (x2 : Int) : Prop :=
I32 (x2 + 1) ∧
∀ y1 : Int, y1 = x2 + 1 →
K5 σ x1 y1
def f_X7_spread_u5 (Q : ml_St → Prop) (K85 : ml_St → Prop) : Nat → ml_St → Int → Int → Prop
| 0, _, _, _ => False
| N + 1, σ, x1, x2 =>
I32 (x1 * 6) ∧
∀ _ : I32 (σ 55 1),
I32 ((x1 * 6) + (σ 55 1)) ∧
(((x1 * 6) + (σ 55 1)) ≤ x2 →
K85 σ) ∧
(¬ (((x1 * 6) + (σ 55 1)) ≤ x2) →
(0 : Int) ≤ x2 ∧ (x2 : Int) < 5676 ∧
∀ _ : I32 (σ 58 x2),
I32 ((σ 58 x2) * 3) ∧
(0 : Int) ≤ x2 ∧ (x2 : Int) < 5676 ∧
∀ _ : I32 (σ 59 x2),
I32 (((σ 58 x2) * 3) + (σ 59 x2)) ∧
∀ y9 : Int, y9 = ((σ 58 x2) * 3) + (σ 59 x2) →
∃ N1, f_X7_spread_u37 Q (f_X7_spread_u79 Q (f_X7_spread_u5 Q K85 N)) N1 σ x1 x2 y9 0)
def f_X7_spread_u85 (Q : ml_St → Prop) (σ : ml_St) : Prop :=
Q σ
def f_X7_spread_u0 (Q : ml_St → Prop) (σ : ml_St) (x1 : Int) : Prop :=
I32 (x1 * 6) ∧
∀ y2 : Int, y2 = x1 * 6 →
∃ N1, f_X7_spread_u5 Q (f_X7_spread_u85 Q) N1 σ x1 y2
def f_X7_spread (σ : ml_St) (x1 : Int) (Q : ml_St → Prop) : Prop := f_X7_spread_u0 Q σ x1
def rm_X7_spread : Room := { frames := 0, cells := 0, slots := 0, locals := 0 }
set_option maxRecDepth 100000 in
set_option maxHeartbeats 4000000 in
theorem u_X7_spread_37 {p : Program} {e : Env} {s : State} {m : MethodId} {args : Array Value} {below : List Frame} {meth : Method} {c : Code} {base : Nat} {D : va_G} {cA : Nat → ClassId} {n : Nat} {l : Launch} {Q : ml_St → Prop} {K79 : ml_St → Int → Int → Prop} (X : ml_X p s m c meth args D cA cX7_spread 5 RX7 none) (hn : 214 ≤ n) (hK79 : ∀ (σ : ml_St) (x1 : Int) (x2 : Int) (h_x1 : I32 x1) (h_x2 : I32 x2) (ls : Array Slot), lv_has ls 5 [(0, .ref (base + (55 : Int).toNat)), (1, .int (Int32.ofInt x1)), (2, .int (Int32.ofInt x2))] → K79 σ x1 x2 → ml_V p l e rm_X7_spread s m args below meth c (MQ below (ml_Qv base D cA n Q) args s 0 0 (ml_A base)) base D cA 0 0 n n σ (F0 m 79 ls [])) : ∀ (N : Nat) (σ : ml_St) (x1 : Int) (x2 : Int) (x3 : Int) (x4 : Int) (h_x1 : I32 x1) (h_x2 : I32 x2) (h_x3 : I32 x3) (h_x4 : I32 x4) (ls : Array Slot), lv_has ls 5 [(0, .ref (base + (55 : Int).toNat)), (1, .int (Int32.ofInt x1)), (2, .int (Int32.ofInt x2)), (3, .int (Int32.ofInt x3)), (4, .int (Int32.ofInt x4))] → f_X7_spread_u37 Q K79 N σ x1 x2 x3 x4 → ml_V p l e rm_X7_spread s m args below meth c (MQ below (ml_Qv base D cA n Q) args s 0 0 (ml_A base)) base D cA 0 0 n n σ (F0 m 37 ls []) := by
  intro N
  induction N with
  | zero => intro σ x1 x2 x3 x4 h_x1 h_x2 h_x3 h_x4 ls hl hw; exact False.elim hw
  | succ N ih =>
    intro σ x1 x2 x3 x4 h_x1 h_x2 h_x3 h_x4 ls hl hw
    unfold f_X7_spread_u37 at hw
    refine ml_iload (pc := 37) X hl 4 rfl dX7_spread_37 ?_
    refine ml_aload_n (pc := 39) X hl 0 rfl rfl dX7_spread_39 ?_
    refine gf_X7_31 (pc := 40) X (ml_c55 hn) dX7_spread_40 ?_
    refine ml_iload_n (pc := 43) X hl 2 rfl rfl dX7_spread_43 ?_
    obtain ⟨a1, b1, hw⟩ := hw
    refine ml_iald (pc := 44) (N := 5676) X (ml_c59 hn) a1 b1 dX7_spread_44 (fun r1 => ?_)
    have hw := hw r1
    obtain ⟨v2, hw⟩ := hw
    refine ml_iadd (pc := 45) X dX7_spread_45 ?_
    refine ml_iconst (pc := 46) X dX7_spread_46 ?_
    refine ml_icmp_ge (pc := 47) (tgt := 79) X v2 ⟨by decide, by decide⟩ dX7_spread_47 (by decide) (fun c3 => ?_) (fun c3 => ?_)
    · have hw := hw.1 c3
      exact hK79 σ x1 x2 h_x1 h_x2 _ (lv_sub hl [0, 1, 2] rfl) hw
    · have hw := hw.2 c3
      refine ml_aload_n (pc := 50) X hl 0 rfl rfl dX7_spread_50 ?_
      refine gf_X7_44 (pc := 51) X (ml_c55 hn) dX7_spread_51 ?_
      refine ml_iload_n (pc := 54) X hl 3 rfl rfl dX7_spread_54 ?_
      refine ml_iload (pc := 55) X hl 4 rfl dX7_spread_55 ?_
      obtain ⟨v4, hw⟩ := hw
      refine ml_iadd (pc := 57) X dX7_spread_57 ?_
      refine ml_dup2 (pc := 58) X dX7_spread_58 rfl rfl ?_
      obtain ⟨a5, b5, hw⟩ := hw
      refine ml_lald (pc := 59) (N := 2838) X (ml_c63 hn) a5 b5 dX7_spread_59 (fun r5 => ?_)
      have hw := hw r5
      refine ml_aload_n (pc := 60) X hl 0 rfl rfl dX7_spread_60 ?_
      refine gf_X7_40 (pc := 61) X (ml_c55 hn) dX7_spread_61 ?_
      refine ml_iload_n (pc := 64) X hl 1 rfl rfl dX7_spread_64 ?_
      refine ml_iconst (pc := 65) X dX7_spread_65 ?_
      obtain ⟨v6, hw⟩ := hw
      refine ml_imul (pc := 66) X dX7_spread_66 ?_
      refine ml_iload (pc := 67) X hl 4 rfl dX7_spread_67 ?_
      obtain ⟨v7, hw⟩ := hw
      refine ml_iadd (pc := 69) X dX7_spread_69 ?_
      obtain ⟨a8, b8, hw⟩ := hw
      refine ml_lald (pc := 70) (N := 2838) X (ml_c62 hn) a8 b8 dX7_spread_70 (fun r8 => ?_)
      have hw := hw r8
      refine ml_laddW (pc := 71) X dX7_spread_71 ?_
      obtain ⟨a10, b10, hw⟩ := hw
      refine ml_last (pc := 72) (N := 2838) X (ml_c63 hn) a10 b10 (w64_r _) dX7_spread_72 (fun σ10 g10 => ?_)
      have hw := hw σ10 g10
      obtain ⟨v11, hw⟩ := hw
      obtain ⟨y11, e11⟩ : ∃ y : Int, y = x4 + 1 := ⟨_, rfl⟩
      have hw := hw y11 e11
      rw [← e11] at v11
      refine ml_iinc (pc := 73) X e11 hl 4 rfl (by decide) (lst' := [(4, .int (Int32.ofInt y11)), (0, .ref (base + (55 : Int).toNat)), (1, .int (Int32.ofInt x1)), (2, .int (Int32.ofInt x2)), (3, .int (Int32.ofInt x3))]) rfl dX7_spread_73 (fun ls hl => ?_)
      refine ml_goto (pc := 76) (tgt := 37) X dX7_spread_76 (by decide) ?_
      exact ih σ10 x1 x2 x3 y11 h_x1 h_x2 h_x3 v11 _ (lv_sub hl [1, 2, 3, 4, 0] rfl) hw
set_option maxRecDepth 100000 in
set_option maxHeartbeats 4000000 in
theorem u_X7_spread_79 {p : Program} {e : Env} {s : State} {m : MethodId} {args : Array Value} {below : List Frame} {meth : Method} {c : Code} {base : Nat} {D : va_G} {cA : Nat → ClassId} {n : Nat} {l : Launch} {Q : ml_St → Prop} {K5 : ml_St → Int → Int → Prop} (X : ml_X p s m c meth args D cA cX7_spread 5 RX7 none) (hn : 214 ≤ n) (hK5 : ∀ (σ : ml_St) (x1 : Int) (x2 : Int) (h_x1 : I32 x1) (h_x2 : I32 x2) (ls : Array Slot), lv_has ls 5 [(0, .ref (base + (55 : Int).toNat)), (1, .int (Int32.ofInt x1)), (2, .int (Int32.ofInt x2))] → K5 σ x1 x2 → ml_V p l e rm_X7_spread s m args below meth c (MQ below (ml_Qv base D cA n Q) args s 0 0 (ml_A base)) base D cA 0 0 n n σ (F0 m 5 ls [])) (σ : ml_St) (x1 : Int) (x2 : Int) (h_x1 : I32 x1) (h_x2 : I32 x2) (ls : Array Slot) (hl : lv_has ls 5 [(0, .ref (base + (55 : Int).toNat)), (1, .int (Int32.ofInt x1)), (2, .int (Int32.ofInt x2))]) (hw : f_X7_spread_u79 Q K5 σ x1 x2) : ml_V p l e rm_X7_spread s m args below meth c (MQ below (ml_Qv base D cA n Q) args s 0 0 (ml_A base)) base D cA 0 0 n n σ (F0 m 79 ls []) := by
  unfold f_X7_spread_u79 at hw
  obtain ⟨v1, hw⟩ := hw
  obtain ⟨y1, e1⟩ : ∃ y : Int, y = x2 + 1 := ⟨_, rfl⟩
  have hw := hw y1 e1
  rw [← e1] at v1
  refine ml_iinc (pc := 79) X e1 hl 2 rfl (by decide) (lst' := [(2, .int (Int32.ofInt y1)), (0, .ref (base + (55 : Int).toNat)), (1, .int (Int32.ofInt x1))]) rfl dX7_spread_79 (fun ls hl => ?_)
  refine ml_goto (pc := 82) (tgt := 5) X dX7_spread_82 (by decide) ?_
  exact hK5 σ x1 y1 h_x1 v1 _ (lv_sub hl [1, 2, 0] rfl) hw
set_option maxRecDepth 100000 in
set_option maxHeartbeats 4000000 in
theorem u_X7_spread_5 {p : Program} {e : Env} {s : State} {m : MethodId} {args : Array Value} {below : List Frame} {meth : Method} {c : Code} {base : Nat} {D : va_G} {cA : Nat → ClassId} {n : Nat} {l : Launch} {Q : ml_St → Prop} {K85 : ml_St → Prop} (X : ml_X p s m c meth args D cA cX7_spread 5 RX7 none) (hn : 214 ≤ n) (hK85 : ∀ (σ : ml_St) (ls : Array Slot), lv_has ls 5 [] → K85 σ → ml_V p l e rm_X7_spread s m args below meth c (MQ below (ml_Qv base D cA n Q) args s 0 0 (ml_A base)) base D cA 0 0 n n σ (F0 m 85 ls [])) : ∀ (N : Nat) (σ : ml_St) (x1 : Int) (x2 : Int) (h_x1 : I32 x1) (h_x2 : I32 x2) (ls : Array Slot), lv_has ls 5 [(0, .ref (base + (55 : Int).toNat)), (1, .int (Int32.ofInt x1)), (2, .int (Int32.ofInt x2))] → f_X7_spread_u5 Q K85 N σ x1 x2 → ml_V p l e rm_X7_spread s m args below meth c (MQ below (ml_Qv base D cA n Q) args s 0 0 (ml_A base)) base D cA 0 0 n n σ (F0 m 5 ls []) := by
  intro N
  induction N with
  | zero => intro σ x1 x2 h_x1 h_x2 ls hl hw; exact False.elim hw
  | succ N ih =>
    intro σ x1 x2 h_x1 h_x2 ls hl hw
    unfold f_X7_spread_u5 at hw
    refine ml_iload_n (pc := 5) X hl 2 rfl rfl dX7_spread_5 ?_
    refine ml_iload_n (pc := 6) X hl 1 rfl rfl dX7_spread_6 ?_
    refine ml_bipush (pc := 7) X dX7_spread_7 (by decide) ?_
    obtain ⟨v1, hw⟩ := hw
    refine ml_imul (pc := 9) X dX7_spread_9 ?_
    refine ml_aload_n (pc := 10) X hl 0 rfl rfl dX7_spread_10 ?_
    refine gf_X7_15 (pc := 11) X (ml_c55 hn) dX7_spread_11 (fun r2 => ?_)
    have hw := hw r2
    obtain ⟨v3, hw⟩ := hw
    refine ml_iadd (pc := 14) X dX7_spread_14 ?_
    refine ml_icmp_ge (pc := 15) (tgt := 85) X h_x2 v3 dX7_spread_15 (by decide) (fun c4 => ?_) (fun c4 => ?_)
    · have hw := hw.1 c4
      exact hK85 σ   _ (lv_sub hl [] rfl) hw
    · have hw := hw.2 c4
      refine ml_aload_n (pc := 18) X hl 0 rfl rfl dX7_spread_18 ?_
      refine gf_X7_28 (pc := 19) X (ml_c55 hn) dX7_spread_19 ?_
      refine ml_iload_n (pc := 22) X hl 2 rfl rfl dX7_spread_22 ?_
      obtain ⟨a5, b5, hw⟩ := hw
      refine ml_iald (pc := 23) (N := 5676) X (ml_c58 hn) a5 b5 dX7_spread_23 (fun r5 => ?_)
      have hw := hw r5
      refine ml_iconst (pc := 24) X dX7_spread_24 ?_
      obtain ⟨v6, hw⟩ := hw
      refine ml_imul (pc := 25) X dX7_spread_25 ?_
      refine ml_aload_n (pc := 26) X hl 0 rfl rfl dX7_spread_26 ?_
      refine gf_X7_31 (pc := 27) X (ml_c55 hn) dX7_spread_27 ?_
      refine ml_iload_n (pc := 30) X hl 2 rfl rfl dX7_spread_30 ?_
      obtain ⟨a7, b7, hw⟩ := hw
      refine ml_iald (pc := 31) (N := 5676) X (ml_c59 hn) a7 b7 dX7_spread_31 (fun r7 => ?_)
      have hw := hw r7
      obtain ⟨v8, hw⟩ := hw
      refine ml_iadd (pc := 32) X dX7_spread_32 ?_
      refine ml_topI (pc := 33) (fun y9 e9 => ?_)
      have hw := hw y9 e9
      have q9 : I32 y9 := by rw [e9]; exact v8
      refine ml_istore_n (pc := 33) X rfl hl (by decide) (lst' := [(3, .int (Int32.ofInt y9)), (0, .ref (base + (55 : Int).toNat)), (1, .int (Int32.ofInt x1)), (2, .int (Int32.ofInt x2))]) rfl dX7_spread_33 (fun ls hl => ?_)
      refine ml_iconst (pc := 34) X dX7_spread_34 ?_
      refine ml_istore (pc := 35) X hl (by decide) (lst' := [(4, .int (Int32.ofInt 0)), (3, .int (Int32.ofInt y9)), (0, .ref (base + (55 : Int).toNat)), (1, .int (Int32.ofInt x1)), (2, .int (Int32.ofInt x2))]) rfl dX7_spread_35 (fun ls hl => ?_)
      obtain ⟨N0, hw⟩ := hw
      exact u_X7_spread_37 X hn (fun σ x1 x2 h_x1 h_x2 ls hl hw => u_X7_spread_79 X hn ih σ x1 x2 h_x1 h_x2 ls hl hw) N0 σ x1 x2 y9 0 h_x1 h_x2 q9 ⟨by decide, by decide⟩ _ (lv_sub hl [2, 3, 4, 1, 0] rfl) hw
set_option maxRecDepth 100000 in
set_option maxHeartbeats 4000000 in
theorem u_X7_spread_85 {p : Program} {e : Env} {s : State} {m : MethodId} {args : Array Value} {below : List Frame} {meth : Method} {c : Code} {base : Nat} {D : va_G} {cA : Nat → ClassId} {n : Nat} {l : Launch} {Q : ml_St → Prop} (X : ml_X p s m c meth args D cA cX7_spread 5 RX7 none) (hn : 214 ≤ n) (σ : ml_St) (ls : Array Slot) (hl : lv_has ls 5 []) (hw : f_X7_spread_u85 Q σ) : ml_V p l e rm_X7_spread s m args below meth c (MQ below (ml_Qv base D cA n Q) args s 0 0 (ml_A base)) base D cA 0 0 n n σ (F0 m 85 ls []) := by
  unfold f_X7_spread_u85 at hw
  exact ml_vret (pc := 85) X hw dX7_spread_85
set_option maxRecDepth 100000 in
set_option maxHeartbeats 4000000 in
theorem u_X7_spread_0 {p : Program} {e : Env} {s : State} {m : MethodId} {args : Array Value} {below : List Frame} {meth : Method} {c : Code} {base : Nat} {D : va_G} {cA : Nat → ClassId} {n : Nat} {l : Launch} {Q : ml_St → Prop} (X : ml_X p s m c meth args D cA cX7_spread 5 RX7 none) (hn : 214 ≤ n) (σ : ml_St) (x1 : Int) (h_x1 : I32 x1) (ls : Array Slot) (hl : lv_has ls 5 [(0, .ref (base + (55 : Int).toNat)), (1, .int (Int32.ofInt x1))]) (hw : f_X7_spread_u0 Q σ x1) : ml_V p l e rm_X7_spread s m args below meth c (MQ below (ml_Qv base D cA n Q) args s 0 0 (ml_A base)) base D cA 0 0 n n σ (F0 m 0 ls []) := by
  unfold f_X7_spread_u0 at hw
  refine ml_iload_n (pc := 0) X hl 1 rfl rfl dX7_spread_0 ?_
  refine ml_bipush (pc := 1) X dX7_spread_1 (by decide) ?_
  obtain ⟨v1, hw⟩ := hw
  refine ml_imul (pc := 3) X dX7_spread_3 ?_
  refine ml_topI (pc := 4) (fun y2 e2 => ?_)
  have hw := hw y2 e2
  have q2 : I32 y2 := by rw [e2]; exact v1
  refine ml_istore_n (pc := 4) X rfl hl (by decide) (lst' := [(2, .int (Int32.ofInt y2)), (0, .ref (base + (55 : Int).toNat)), (1, .int (Int32.ofInt x1))]) rfl dX7_spread_4 (fun ls hl => ?_)
  obtain ⟨N0, hw⟩ := hw
  exact u_X7_spread_5 X hn (fun σ   ls hl hw => u_X7_spread_85 X hn σ   ls hl hw) N0 σ x1 y2 h_x1 q2 _ (lv_sub hl [1, 2, 0] rfl) hw
set_option maxRecDepth 100000 in
theorem c_X7_spread (l : Launch) (base : Nat) (D : va_G) (cA : Nat → ClassId) (n : Nat) (hn : 214 ≤ n) (σ : ml_St) (x1 : Int) (h_x1 : I32 x1) (Q : ml_St → Prop) (hw : f_X7_spread σ x1 Q) : Met l yX7_spread (Cond.code yX7_spread cX7_spread 5 none :: ml_T) rm_X7_spread (va_Pc [.ref (base + (55 : Int).toNat), .int (Int32.ofInt x1)] (ml_U base D cA n σ)) (ml_Qv base D cA n Q) 0 0 (ml_A base) := by
  refine Met.ofW (cc := cX7_spread) (maxL := 5) (ret := none) (by decide) rfl ?_
  intro p e s m args below meth c s₁ B hml hv
  obtain ⟨rfl, hP, hK, hok, hro⟩ := hv
  have X : ml_X p s m c meth _ D cA cX7_spread 5 RX7 none := ⟨B.exec, B.bytes, hml, findClass_of_methodNamed B.named, fun w hw => atoms_spec (ws := Cond.code yX7_spread cX7_spread 5 none :: ml_T) B.pre w (List.mem_cons_of_mem _ hw), hK, B.notSynchronized, B.returns⟩
  have hl := lv_entry [.ref (base + (55 : Int).toNat), .int (Int32.ofInt x1)] (n := 5) (Nat.le_of_ble_eq_true rfl)
  rw [lg_entry_eq]
  generalize (lg_sl [.ref (base + (55 : Int).toNat), .int (Int32.ofInt x1)] ++ List.replicate (5 - (lg_sl [.ref (base + (55 : Int).toNat), .int (Int32.ofInt x1)]).length) Slot.unset).toArray = ls at hl ⊢
  have hl : lv_has ls 5 [(0, .ref (base + (55 : Int).toNat)), (1, .int (Int32.ofInt x1))] := hl
  unfold f_X7_spread at hw
  exact u_X7_spread_0 X hn σ x1 h_x1 _ (lv_sub hl [0, 1] rfl) hw s.heap [] hP va_S.rf hok hro
theorem dX7_lengthenRow_0 : decode cX7_lengthenRow 0 = .ok (.aload_n 0, 1) := by decide +kernel
theorem dX7_lengthenRow_1 : decode cX7_lengthenRow 1 = .ok (.getfield 44, 3) := by decide +kernel
theorem dX7_lengthenRow_4 : decode cX7_lengthenRow 4 = .ok (.lconst 0, 1) := by decide +kernel
theorem dX7_lengthenRow_5 : decode cX7_lengthenRow 5 = .ok (.invokestatic 121, 3) := by decide +kernel
theorem dX7_lengthenRow_8 : decode cX7_lengthenRow 8 = .ok (.iconst 0, 1) := by decide +kernel
theorem dX7_lengthenRow_9 : decode cX7_lengthenRow 9 = .ok (.istore_n 1, 1) := by decide +kernel
theorem dX7_lengthenRow_10 : decode cX7_lengthenRow 10 = .ok (.iload_n 1, 1) := by decide +kernel
theorem dX7_lengthenRow_11 : decode cX7_lengthenRow 11 = .ok (.aload_n 0, 1) := by decide +kernel
theorem dX7_lengthenRow_12 : decode cX7_lengthenRow 12 = .ok (.getfield 18, 3) := by decide +kernel
theorem dX7_lengthenRow_15 : decode cX7_lengthenRow 15 = .ok (.if_icmp .ge 14, 3) := by decide +kernel
theorem dX7_lengthenRow_18 : decode cX7_lengthenRow 18 = .ok (.aload_n 0, 1) := by decide +kernel
theorem dX7_lengthenRow_19 : decode cX7_lengthenRow 19 = .ok (.iload_n 1, 1) := by decide +kernel
theorem dX7_lengthenRow_20 : decode cX7_lengthenRow 20 = .ok (.invokevirtual 129, 3) := by decide +kernel
theorem dX7_lengthenRow_23 : decode cX7_lengthenRow 23 = .ok (.iinc 1 1, 3) := by decide +kernel
theorem dX7_lengthenRow_26 : decode cX7_lengthenRow 26 = .ok (.goto (-16), 3) := by decide +kernel
theorem dX7_lengthenRow_29 : decode cX7_lengthenRow 29 = .ok (.iconst 0, 1) := by decide +kernel
theorem dX7_lengthenRow_30 : decode cX7_lengthenRow 30 = .ok (.istore_n 1, 1) := by decide +kernel
theorem dX7_lengthenRow_31 : decode cX7_lengthenRow 31 = .ok (.iload_n 1, 1) := by decide +kernel
theorem dX7_lengthenRow_32 : decode cX7_lengthenRow 32 = .ok (.aload_n 0, 1) := by decide +kernel
theorem dX7_lengthenRow_33 : decode cX7_lengthenRow 33 = .ok (.getfield 18, 3) := by decide +kernel
theorem dX7_lengthenRow_36 : decode cX7_lengthenRow 36 = .ok (.iconst 3, 1) := by decide +kernel
theorem dX7_lengthenRow_37 : decode cX7_lengthenRow 37 = .ok (.imul, 1) := by decide +kernel
theorem dX7_lengthenRow_38 : decode cX7_lengthenRow 38 = .ok (.if_icmp .ge 25, 3) := by decide +kernel
theorem dX7_lengthenRow_41 : decode cX7_lengthenRow 41 = .ok (.aload_n 0, 1) := by decide +kernel
theorem dX7_lengthenRow_42 : decode cX7_lengthenRow 42 = .ok (.getfield 40, 3) := by decide +kernel
theorem dX7_lengthenRow_45 : decode cX7_lengthenRow 45 = .ok (.iload_n 1, 1) := by decide +kernel
theorem dX7_lengthenRow_46 : decode cX7_lengthenRow 46 = .ok (.aload_n 0, 1) := by decide +kernel
theorem dX7_lengthenRow_47 : decode cX7_lengthenRow 47 = .ok (.getfield 44, 3) := by decide +kernel
theorem dX7_lengthenRow_50 : decode cX7_lengthenRow 50 = .ok (.iload_n 1, 1) := by decide +kernel
theorem dX7_lengthenRow_51 : decode cX7_lengthenRow 51 = .ok (.laload, 1) := by decide +kernel
theorem dX7_lengthenRow_52 : decode cX7_lengthenRow 52 = .ok (.ldc2_w 127, 3) := by decide +kernel
theorem dX7_lengthenRow_55 : decode cX7_lengthenRow 55 = .ok (.lrem, 1) := by decide +kernel
theorem dX7_lengthenRow_56 : decode cX7_lengthenRow 56 = .ok (.lastore, 1) := by decide +kernel
theorem dX7_lengthenRow_57 : decode cX7_lengthenRow 57 = .ok (.iinc 1 1, 3) := by decide +kernel
theorem dX7_lengthenRow_60 : decode cX7_lengthenRow 60 = .ok (.goto (-29), 3) := by decide +kernel
theorem dX7_lengthenRow_63 : decode cX7_lengthenRow 63 = .ok (.return_, 1) := by decide +kernel
def f_X7_lengthenRow_u10 (Q : ml_St → Prop) (K29 : ml_St → Prop) : Nat → ml_St → Int → Prop
| 0, _, _ => False
| N + 1, σ, x1 =>
∀ _ : I32 (σ 55 2),
((σ 55 2) ≤ x1 →
K29 σ) ∧
(¬ ((σ 55 2) ≤ x1) →
f_X7_spread σ x1 (fun σ3 =>
I32 (x1 + 1) ∧
∀ y4 : Int, y4 = x1 + 1 →
f_X7_lengthenRow_u10 Q K29 N σ3 y4))
def f_X7_lengthenRow_u31 (Q : ml_St → Prop) (K63 : ml_St → Prop) : Nat → ml_St → Int → Prop
| 0, _, _ => False
| N + 1, σ, x1 =>
∀ _ : I32 (σ 55 2),
I32 ((σ 55 2) * 3) ∧
(((σ 55 2) * 3) ≤ x1 →
K63 σ) ∧
(¬ (((σ 55 2) * 3) ≤ x1) →
(0 : Int) ≤ x1 ∧ (x1 : Int) < 2838 ∧
∀ _ : I64 (σ 63 x1),
(998244353 : Int) ≠ 0 ∧
(0 : Int) ≤ x1 ∧ (x1 : Int) < 2838 ∧
∀ σ6, σ6 = ml_up σ 62 x1 (Int.tmod (σ 63 x1) 998244353) →
I32 (x1 + 1) ∧
∀ y7 : Int, y7 = x1 + 1 →
f_X7_lengthenRow_u31 Q K63 N σ6 y7)
def f_X7_lengthenRow_u63 (Q : ml_St → Prop) (σ : ml_St) : Prop :=
Q σ
def f_X7_lengthenRow_u29 (Q : ml_St → Prop) (σ : ml_St) : Prop :=
∃ N1, f_X7_lengthenRow_u31 Q (f_X7_lengthenRow_u63 Q) N1 σ 0
def f_X7_lengthenRow_u0 (Q : ml_St → Prop) (σ : ml_St) : Prop :=
f_J7_fill_d0a16 σ 2838 63 0 (fun σ1 =>
∃ N1, f_X7_lengthenRow_u10 Q (f_X7_lengthenRow_u29 Q) N1 σ1 0)
def f_X7_lengthenRow (σ : ml_St) (Q : ml_St → Prop) : Prop := f_X7_lengthenRow_u0 Q σ
def rm_X7_lengthenRow : Room := { frames := 1, cells := 0, slots := 0, locals := 24 }
set_option maxRecDepth 100000 in
set_option maxHeartbeats 4000000 in
theorem u_X7_lengthenRow_10 {p : Program} {e : Env} {s : State} {m : MethodId} {args : Array Value} {below : List Frame} {meth : Method} {c : Code} {base : Nat} {D : va_G} {cA : Nat → ClassId} {n : Nat} {l : Launch} {Q : ml_St → Prop} {K29 : ml_St → Prop} (X : ml_X p s m c meth args D cA cX7_lengthenRow 2 RX7 none) (hn : 214 ≤ n) (hK29 : ∀ (σ : ml_St) (ls : Array Slot), lv_has ls 2 [(0, .ref (base + (55 : Int).toNat))] → K29 σ → ml_V p l e rm_X7_lengthenRow s m args below meth c (MQ below (ml_Qv base D cA n Q) args s 0 0 (ml_A base)) base D cA 0 0 n n σ (F0 m 29 ls [])) : ∀ (N : Nat) (σ : ml_St) (x1 : Int) (h_x1 : I32 x1) (ls : Array Slot), lv_has ls 2 [(0, .ref (base + (55 : Int).toNat)), (1, .int (Int32.ofInt x1))] → f_X7_lengthenRow_u10 Q K29 N σ x1 → ml_V p l e rm_X7_lengthenRow s m args below meth c (MQ below (ml_Qv base D cA n Q) args s 0 0 (ml_A base)) base D cA 0 0 n n σ (F0 m 10 ls []) := by
  intro N
  induction N with
  | zero => intro σ x1 h_x1 ls hl hw; exact False.elim hw
  | succ N ih =>
    intro σ x1 h_x1 ls hl hw
    unfold f_X7_lengthenRow_u10 at hw
    refine ml_iload_n (pc := 10) X hl 1 rfl rfl dX7_lengthenRow_10 ?_
    refine ml_aload_n (pc := 11) X hl 0 rfl rfl dX7_lengthenRow_11 ?_
    refine gf_X7_18 (pc := 12) X (ml_c55 hn) dX7_lengthenRow_12 (fun r1 => ?_)
    have hw := hw r1
    refine ml_icmp_ge (pc := 15) (tgt := 29) X h_x1 r1 dX7_lengthenRow_15 (by decide) (fun c2 => ?_) (fun c2 => ?_)
    · have hw := hw.1 c2
      exact hK29 σ   _ (lv_sub hl [0] rfl) hw
    · have hw := hw.2 c2
      refine ml_aload_n (pc := 18) X hl 0 rfl rfl dX7_lengthenRow_18 ?_
      refine ml_iload_n (pc := 19) X hl 1 rfl rfl dX7_lengthenRow_19 ?_
      refine ml_callvV (pc := 20) (rest := []) X [.int (Int32.ofInt x1)] (by decide) rfl (ml_c55 hn) (c_X7_spread l base D cA n hn σ x1 h_x1 _ hw) cv_X7_129 ⟨rfl, rfl⟩ ⟨by decide, by decide⟩ rfl rfl hl (Nat.le_of_ble_eq_true rfl) ⟨Nat.zero_le _, Nat.zero_le _⟩ dX7_lengthenRow_20 (fun σ3 hw => ?_)
      obtain ⟨v4, hw⟩ := hw
      obtain ⟨y4, e4⟩ : ∃ y : Int, y = x1 + 1 := ⟨_, rfl⟩
      have hw := hw y4 e4
      rw [← e4] at v4
      refine ml_iinc (pc := 23) X e4 hl 1 rfl (by decide) (lst' := [(1, .int (Int32.ofInt y4)), (0, .ref (base + (55 : Int).toNat))]) rfl dX7_lengthenRow_23 (fun ls hl => ?_)
      refine ml_goto (pc := 26) (tgt := 10) X dX7_lengthenRow_26 (by decide) ?_
      exact ih σ3 y4 v4 _ (lv_sub hl [1, 0] rfl) hw
set_option maxRecDepth 100000 in
set_option maxHeartbeats 4000000 in
theorem u_X7_lengthenRow_31 {p : Program} {e : Env} {s : State} {m : MethodId} {args : Array Value} {below : List Frame} {meth : Method} {c : Code} {base : Nat} {D : va_G} {cA : Nat → ClassId} {n : Nat} {l : Launch} {Q : ml_St → Prop} {K63 : ml_St → Prop} (X : ml_X p s m c meth args D cA cX7_lengthenRow 2 RX7 none) (hn : 214 ≤ n) (hK63 : ∀ (σ : ml_St) (ls : Array Slot), lv_has ls 2 [] → K63 σ → ml_V p l e rm_X7_lengthenRow s m args below meth c (MQ below (ml_Qv base D cA n Q) args s 0 0 (ml_A base)) base D cA 0 0 n n σ (F0 m 63 ls [])) : ∀ (N : Nat) (σ : ml_St) (x1 : Int) (h_x1 : I32 x1) (ls : Array Slot), lv_has ls 2 [(0, .ref (base + (55 : Int).toNat)), (1, .int (Int32.ofInt x1))] → f_X7_lengthenRow_u31 Q K63 N σ x1 → ml_V p l e rm_X7_lengthenRow s m args below meth c (MQ below (ml_Qv base D cA n Q) args s 0 0 (ml_A base)) base D cA 0 0 n n σ (F0 m 31 ls []) := by
  intro N
  induction N with
  | zero => intro σ x1 h_x1 ls hl hw; exact False.elim hw
  | succ N ih =>
    intro σ x1 h_x1 ls hl hw
    unfold f_X7_lengthenRow_u31 at hw
    refine ml_iload_n (pc := 31) X hl 1 rfl rfl dX7_lengthenRow_31 ?_
    refine ml_aload_n (pc := 32) X hl 0 rfl rfl dX7_lengthenRow_32 ?_
    refine gf_X7_18 (pc := 33) X (ml_c55 hn) dX7_lengthenRow_33 (fun r1 => ?_)
    have hw := hw r1
    refine ml_iconst (pc := 36) X dX7_lengthenRow_36 ?_
    obtain ⟨v2, hw⟩ := hw
    refine ml_imul (pc := 37) X dX7_lengthenRow_37 ?_
    refine ml_icmp_ge (pc := 38) (tgt := 63) X h_x1 v2 dX7_lengthenRow_38 (by decide) (fun c3 => ?_) (fun c3 => ?_)
    · have hw := hw.1 c3
      exact hK63 σ   _ (lv_sub hl [] rfl) hw
    · have hw := hw.2 c3
      refine ml_aload_n (pc := 41) X hl 0 rfl rfl dX7_lengthenRow_41 ?_
      refine gf_X7_40 (pc := 42) X (ml_c55 hn) dX7_lengthenRow_42 ?_
      refine ml_iload_n (pc := 45) X hl 1 rfl rfl dX7_lengthenRow_45 ?_
      refine ml_aload_n (pc := 46) X hl 0 rfl rfl dX7_lengthenRow_46 ?_
      refine gf_X7_44 (pc := 47) X (ml_c55 hn) dX7_lengthenRow_47 ?_
      refine ml_iload_n (pc := 50) X hl 1 rfl rfl dX7_lengthenRow_50 ?_
      obtain ⟨a4, b4, hw⟩ := hw
      refine ml_lald (pc := 51) (N := 2838) X (ml_c63 hn) a4 b4 dX7_lengthenRow_51 (fun r4 => ?_)
      have hw := hw r4
      refine ml_ldc2 (pc := 52) (v := 998244353) X dX7_lengthenRow_52 tc_4_73 ?_
      obtain ⟨z5, hw⟩ := hw
      refine ml_lrem (pc := 55) X r4 ⟨by decide, by decide⟩ z5 dX7_lengthenRow_55 ?_
      obtain ⟨a6, b6, hw⟩ := hw
      refine ml_last (pc := 56) (N := 2838) X (ml_c62 hn) a6 b6 (ml_tmod_r r4) dX7_lengthenRow_56 (fun σ6 g6 => ?_)
      have hw := hw σ6 g6
      obtain ⟨v7, hw⟩ := hw
      obtain ⟨y7, e7⟩ : ∃ y : Int, y = x1 + 1 := ⟨_, rfl⟩
      have hw := hw y7 e7
      rw [← e7] at v7
      refine ml_iinc (pc := 57) X e7 hl 1 rfl (by decide) (lst' := [(1, .int (Int32.ofInt y7)), (0, .ref (base + (55 : Int).toNat))]) rfl dX7_lengthenRow_57 (fun ls hl => ?_)
      refine ml_goto (pc := 60) (tgt := 31) X dX7_lengthenRow_60 (by decide) ?_
      exact ih σ6 y7 v7 _ (lv_sub hl [1, 0] rfl) hw
set_option maxRecDepth 100000 in
set_option maxHeartbeats 4000000 in
theorem u_X7_lengthenRow_63 {p : Program} {e : Env} {s : State} {m : MethodId} {args : Array Value} {below : List Frame} {meth : Method} {c : Code} {base : Nat} {D : va_G} {cA : Nat → ClassId} {n : Nat} {l : Launch} {Q : ml_St → Prop} (X : ml_X p s m c meth args D cA cX7_lengthenRow 2 RX7 none) (hn : 214 ≤ n) (σ : ml_St) (ls : Array Slot) (hl : lv_has ls 2 []) (hw : f_X7_lengthenRow_u63 Q σ) : ml_V p l e rm_X7_lengthenRow s m args below meth c (MQ below (ml_Qv base D cA n Q) args s 0 0 (ml_A base)) base D cA 0 0 n n σ (F0 m 63 ls []) := by
  unfold f_X7_lengthenRow_u63 at hw
  exact ml_vret (pc := 63) X hw dX7_lengthenRow_63
set_option maxRecDepth 100000 in
set_option maxHeartbeats 4000000 in
theorem u_X7_lengthenRow_29 {p : Program} {e : Env} {s : State} {m : MethodId} {args : Array Value} {below : List Frame} {meth : Method} {c : Code} {base : Nat} {D : va_G} {cA : Nat → ClassId} {n : Nat} {l : Launch} {Q : ml_St → Prop} (X : ml_X p s m c meth args D cA cX7_lengthenRow 2 RX7 none) (hn : 214 ≤ n) (σ : ml_St) (ls : Array Slot) (hl : lv_has ls 2 [(0, .ref (base + (55 : Int).toNat))]) (hw : f_X7_lengthenRow_u29 Q σ) : ml_V p l e rm_X7_lengthenRow s m args below meth c (MQ below (ml_Qv base D cA n Q) args s 0 0 (ml_A base)) base D cA 0 0 n n σ (F0 m 29 ls []) := by
  unfold f_X7_lengthenRow_u29 at hw
  refine ml_iconst (pc := 29) X dX7_lengthenRow_29 ?_
  refine ml_istore_n (pc := 30) X rfl hl (by decide) (lst' := [(1, .int (Int32.ofInt 0)), (0, .ref (base + (55 : Int).toNat))]) rfl dX7_lengthenRow_30 (fun ls hl => ?_)
  obtain ⟨N0, hw⟩ := hw
  exact u_X7_lengthenRow_31 X hn (fun σ   ls hl hw => u_X7_lengthenRow_63 X hn σ   ls hl hw) N0 σ 0 ⟨by decide, by decide⟩ _ (lv_sub hl [1, 0] rfl) hw
set_option maxRecDepth 100000 in
set_option maxHeartbeats 4000000 in
theorem u_X7_lengthenRow_0 {p : Program} {e : Env} {s : State} {m : MethodId} {args : Array Value} {below : List Frame} {meth : Method} {c : Code} {base : Nat} {D : va_G} {cA : Nat → ClassId} {n : Nat} {l : Launch} {Q : ml_St → Prop} (X : ml_X p s m c meth args D cA cX7_lengthenRow 2 RX7 none) (hn : 214 ≤ n) (σ : ml_St) (ls : Array Slot) (hl : lv_has ls 2 [(0, .ref (base + (55 : Int).toNat))]) (hw : f_X7_lengthenRow_u0 Q σ) : ml_V p l e rm_X7_lengthenRow s m args below meth c (MQ below (ml_Qv base D cA n Q) args s 0 0 (ml_A base)) base D cA 0 0 n n σ (F0 m 0 ls []) := by
  unfold f_X7_lengthenRow_u0 at hw
  refine ml_aload_n (pc := 0) X hl 0 rfl rfl dX7_lengthenRow_0 ?_
  refine gf_X7_44 (pc := 1) X (ml_c55 hn) dX7_lengthenRow_1 ?_
  refine ml_lconst0 (pc := 4) X dX7_lengthenRow_4 ?_
  refine ml_callvS (pc := 5) (rest := []) X [.ref (base + (63 : Int).toNat), .long (Int64.ofInt 0)] (c_J7_fill_d0a16 l base D cA n hn σ 2838 63 (ml_c63 hn) 0 ⟨by decide, by decide⟩ _ hw) cv_X7_121 ⟨rfl, rfl⟩ ⟨by decide, by decide⟩ rfl rfl hl (Nat.le_of_ble_eq_true rfl) ⟨Nat.zero_le _, Nat.zero_le _⟩ dX7_lengthenRow_5 (fun σ1 hw => ?_)
  refine ml_iconst (pc := 8) X dX7_lengthenRow_8 ?_
  refine ml_istore_n (pc := 9) X rfl hl (by decide) (lst' := [(1, .int (Int32.ofInt 0)), (0, .ref (base + (55 : Int).toNat))]) rfl dX7_lengthenRow_9 (fun ls hl => ?_)
  obtain ⟨N0, hw⟩ := hw
  exact u_X7_lengthenRow_10 X hn (fun σ   ls hl hw => u_X7_lengthenRow_29 X hn σ   ls hl hw) N0 σ1 0 ⟨by decide, by decide⟩ _ (lv_sub hl [1, 0] rfl) hw
set_option maxRecDepth 100000 in
theorem c_X7_lengthenRow (l : Launch) (base : Nat) (D : va_G) (cA : Nat → ClassId) (n : Nat) (hn : 214 ≤ n) (σ : ml_St) (Q : ml_St → Prop) (hw : f_X7_lengthenRow σ Q) : Met l yX7_lengthenRow (Cond.code yX7_lengthenRow cX7_lengthenRow 2 none :: ml_T) rm_X7_lengthenRow (va_Pc [.ref (base + (55 : Int).toNat)] (ml_U base D cA n σ)) (ml_Qv base D cA n Q) 0 0 (ml_A base) := by
  refine Met.ofW (cc := cX7_lengthenRow) (maxL := 2) (ret := none) (by decide) rfl ?_
  intro p e s m args below meth c s₁ B hml hv
  obtain ⟨rfl, hP, hK, hok, hro⟩ := hv
  have X : ml_X p s m c meth _ D cA cX7_lengthenRow 2 RX7 none := ⟨B.exec, B.bytes, hml, findClass_of_methodNamed B.named, fun w hw => atoms_spec (ws := Cond.code yX7_lengthenRow cX7_lengthenRow 2 none :: ml_T) B.pre w (List.mem_cons_of_mem _ hw), hK, B.notSynchronized, B.returns⟩
  have hl := lv_entry [.ref (base + (55 : Int).toNat)] (n := 2) (Nat.le_of_ble_eq_true rfl)
  rw [lg_entry_eq]
  generalize (lg_sl [.ref (base + (55 : Int).toNat)] ++ List.replicate (2 - (lg_sl [.ref (base + (55 : Int).toNat)]).length) Slot.unset).toArray = ls at hl ⊢
  have hl : lv_has ls 2 [(0, .ref (base + (55 : Int).toNat))] := hl
  unfold f_X7_lengthenRow at hw
  exact u_X7_lengthenRow_0 X hn σ  _ (lv_sub hl [0] rfl) hw s.heap [] hP va_S.rf hok hro
theorem dX7_howMany_0 : decode cX7_howMany 0 = .ok (.iload_n 1, 1) := by decide +kernel
theorem dX7_howMany_1 : decode cX7_howMany 1 = .ok (.aload_n 0, 1) := by decide +kernel
theorem dX7_howMany_2 : decode cX7_howMany 2 = .ok (.getfield 47, 3) := by decide +kernel
theorem dX7_howMany_5 : decode cX7_howMany 5 = .ok (.if_icmp .ge 7, 3) := by decide +kernel
theorem dX7_howMany_8 : decode cX7_howMany 8 = .ok (.aload_n 0, 1) := by decide +kernel
theorem dX7_howMany_9 : decode cX7_howMany 9 = .ok (.invokevirtual 78, 3) := by decide +kernel
theorem dX7_howMany_12 : decode cX7_howMany 12 = .ok (.aload_n 0, 1) := by decide +kernel
theorem dX7_howMany_13 : decode cX7_howMany 13 = .ok (.getfield 47, 3) := by decide +kernel
theorem dX7_howMany_16 : decode cX7_howMany 16 = .ok (.iload_n 1, 1) := by decide +kernel
theorem dX7_howMany_17 : decode cX7_howMany 17 = .ok (.if_icmp .ge 20, 3) := by decide +kernel
theorem dX7_howMany_20 : decode cX7_howMany 20 = .ok (.aload_n 0, 1) := by decide +kernel
theorem dX7_howMany_21 : decode cX7_howMany 21 = .ok (.invokevirtual 124, 3) := by decide +kernel
theorem dX7_howMany_24 : decode cX7_howMany 24 = .ok (.aload_n 0, 1) := by decide +kernel
theorem dX7_howMany_25 : decode cX7_howMany 25 = .ok (.dup, 1) := by decide +kernel
theorem dX7_howMany_26 : decode cX7_howMany 26 = .ok (.getfield 47, 3) := by decide +kernel
theorem dX7_howMany_29 : decode cX7_howMany 29 = .ok (.iconst 1, 1) := by decide +kernel
theorem dX7_howMany_30 : decode cX7_howMany 30 = .ok (.iadd, 1) := by decide +kernel
theorem dX7_howMany_31 : decode cX7_howMany 31 = .ok (.putfield 47, 3) := by decide +kernel
theorem dX7_howMany_34 : decode cX7_howMany 34 = .ok (.goto (-22), 3) := by decide +kernel
theorem dX7_howMany_37 : decode cX7_howMany 37 = .ok (.lconst 0, 1) := by decide +kernel
theorem dX7_howMany_38 : decode cX7_howMany 38 = .ok (.lstore_n 3, 1) := by decide +kernel
theorem dX7_howMany_39 : decode cX7_howMany 39 = .ok (.iconst 0, 1) := by decide +kernel
theorem dX7_howMany_40 : decode cX7_howMany 40 = .ok (.istore 5, 2) := by decide +kernel
theorem dX7_howMany_42 : decode cX7_howMany 42 = .ok (.iload 5, 2) := by decide +kernel
theorem dX7_howMany_44 : decode cX7_howMany 44 = .ok (.aload_n 0, 1) := by decide +kernel
theorem dX7_howMany_45 : decode cX7_howMany 45 = .ok (.getfield 18, 3) := by decide +kernel
theorem dX7_howMany_48 : decode cX7_howMany 48 = .ok (.iconst 3, 1) := by decide +kernel
theorem dX7_howMany_49 : decode cX7_howMany 49 = .ok (.imul, 1) := by decide +kernel
theorem dX7_howMany_50 : decode cX7_howMany 50 = .ok (.if_icmp .ge 37, 3) := by decide +kernel
theorem dX7_howMany_53 : decode cX7_howMany 53 = .ok (.iload 5, 2) := by decide +kernel
theorem dX7_howMany_55 : decode cX7_howMany 55 = .ok (.iconst 3, 1) := by decide +kernel
theorem dX7_howMany_56 : decode cX7_howMany 56 = .ok (.irem, 1) := by decide +kernel
theorem dX7_howMany_57 : decode cX7_howMany 57 = .ok (.aload_n 0, 1) := by decide +kernel
theorem dX7_howMany_58 : decode cX7_howMany 58 = .ok (.getfield 34, 3) := by decide +kernel
theorem dX7_howMany_61 : decode cX7_howMany 61 = .ok (.iload 5, 2) := by decide +kernel
theorem dX7_howMany_63 : decode cX7_howMany 63 = .ok (.iconst 3, 1) := by decide +kernel
theorem dX7_howMany_64 : decode cX7_howMany 64 = .ok (.idiv, 1) := by decide +kernel
theorem dX7_howMany_65 : decode cX7_howMany 65 = .ok (.iaload, 1) := by decide +kernel
theorem dX7_howMany_66 : decode cX7_howMany 66 = .ok (.iadd, 1) := by decide +kernel
theorem dX7_howMany_67 : decode cX7_howMany 67 = .ok (.iload_n 2, 1) := by decide +kernel
theorem dX7_howMany_68 : decode cX7_howMany 68 = .ok (.if_icmp .ne 13, 3) := by decide +kernel
theorem dX7_howMany_71 : decode cX7_howMany 71 = .ok (.lload_n 3, 1) := by decide +kernel
theorem dX7_howMany_72 : decode cX7_howMany 72 = .ok (.aload_n 0, 1) := by decide +kernel
theorem dX7_howMany_73 : decode cX7_howMany 73 = .ok (.getfield 40, 3) := by decide +kernel
theorem dX7_howMany_76 : decode cX7_howMany 76 = .ok (.iload 5, 2) := by decide +kernel
theorem dX7_howMany_78 : decode cX7_howMany 78 = .ok (.laload, 1) := by decide +kernel
theorem dX7_howMany_79 : decode cX7_howMany 79 = .ok (.ladd, 1) := by decide +kernel
theorem dX7_howMany_80 : decode cX7_howMany 80 = .ok (.lstore_n 3, 1) := by decide +kernel
theorem dX7_howMany_81 : decode cX7_howMany 81 = .ok (.iinc 5 1, 3) := by decide +kernel
theorem dX7_howMany_84 : decode cX7_howMany 84 = .ok (.goto (-42), 3) := by decide +kernel
theorem dX7_howMany_87 : decode cX7_howMany 87 = .ok (.lload_n 3, 1) := by decide +kernel
theorem dX7_howMany_88 : decode cX7_howMany 88 = .ok (.ldc2_w 127, 3) := by decide +kernel
theorem dX7_howMany_91 : decode cX7_howMany 91 = .ok (.lrem, 1) := by decide +kernel
theorem dX7_howMany_92 : decode cX7_howMany 92 = .ok (.l2i, 1) := by decide +kernel
theorem dX7_howMany_93 : decode cX7_howMany 93 = .ok (.ireturn, 1) := by decide +kernel
def f_X7_howMany_u12 (Q : Int → ml_St → Prop) (K37 : ml_St → Int → Prop) : Nat → ml_St → Int → Int → Prop
| 0, _, _, _ => False
| N + 1, σ, x1, x2 =>
∀ _ : I32 (σ 55 11),
(x1 ≤ (σ 55 11) →
K37 σ x2) ∧
(¬ (x1 ≤ (σ 55 11)) →
f_X7_lengthenRow σ (fun σ3 =>
∀ _ : I32 (σ3 55 11),
I32 ((σ3 55 11) + 1) ∧
∀ σ6, σ6 = ml_up σ3 55 11 ((σ3 55 11) + 1) →
f_X7_howMany_u12 Q K37 N σ6 x1 x2))
def f_X7_howMany_u81 (Q : Int → ml_St → Prop) (K42 : ml_St → Int → Int → Int → Prop) (σ : ml_St) (x2 : Int) (x3 : Int) (x5 : Int) : Prop :=
I32 (x5 + 1) ∧
∀ y1 : Int, y1 = x5 + 1 →
K42 σ x2 x3 y1
def f_X7_howMany_u42 (Q : Int → ml_St → Prop) (K87 : ml_St → Int → Prop) : Nat → ml_St → Int → Int → Int → Prop
| 0, _, _, _, _ => False
| N + 1, σ, x2, x3, x5 =>
∀ _ : I32 (σ 55 2),
I32 ((σ 55 2) * 3) ∧
(((σ 55 2) * 3) ≤ x5 →
K87 σ x3) ∧
(¬ (((σ 55 2) * 3) ≤ x5) →
(3 : Int) ≠ 0 ∧ I32 (Int.tmod x5 3) ∧
(3 : Int) ≠ 0 ∧ I32 (Int.tdiv x5 3) ∧
(0 : Int) ≤ (Int.tdiv x5 3) ∧ ((Int.tdiv x5 3) : Int) < 946 ∧
∀ _ : I32 (σ 60 (Int.tdiv x5 3)),
I32 ((Int.tmod x5 3) + (σ 60 (Int.tdiv x5 3))) ∧
(((Int.tmod x5 3) + (σ 60 (Int.tdiv x5 3))) ≠ x2 →
f_X7_howMany_u81 Q (f_X7_howMany_u42 Q K87 N) σ x2 x3 x5) ∧
(((Int.tmod x5 3) + (σ 60 (Int.tdiv x5 3))) = x2 →
(0 : Int) ≤ x5 ∧ (x5 : Int) < 2838 ∧
∀ _ : I64 (σ 62 x5),
∀ y11 : Int, y11 = w64 (x3 + (σ 62 x5)) →
f_X7_howMany_u81 Q (f_X7_howMany_u42 Q K87 N) σ x2 y11 x5))
def f_X7_howMany_u87 (Q : Int → ml_St → Prop) (σ : ml_St) (x3 : Int) : Prop :=
(998244353 : Int) ≠ 0 ∧
Q (b_l2i (Int.tmod x3 998244353)) σ
def f_X7_howMany_u37 (Q : Int → ml_St → Prop) (σ : ml_St) (x2 : Int) : Prop :=
∃ N1, f_X7_howMany_u42 Q (f_X7_howMany_u87 Q) N1 σ x2 0 0
def f_X7_howMany_u0 (Q : Int → ml_St → Prop) (σ : ml_St) (x1 : Int) (x2 : Int) : Prop :=
∀ _ : I32 (σ 55 11),
((σ 55 11) ≤ x1 →
∃ N1, f_X7_howMany_u12 Q (f_X7_howMany_u37 Q) N1 σ x1 x2) ∧
(¬ ((σ 55 11) ≤ x1) →
f_X7_startRow σ (fun σ3 =>
∃ N1, f_X7_howMany_u12 Q (f_X7_howMany_u37 Q) N1 σ3 x1 x2))
def f_X7_howMany (σ : ml_St) (x1 : Int) (x2 : Int) (Q : Int → ml_St → Prop) : Prop := f_X7_howMany_u0 Q σ x1 x2
def rm_X7_howMany : Room := { frames := 2, cells := 0, slots := 0, locals := 45 }
set_option maxRecDepth 100000 in
set_option maxHeartbeats 4000000 in
theorem u_X7_howMany_12 {p : Program} {e : Env} {s : State} {m : MethodId} {args : Array Value} {below : List Frame} {meth : Method} {c : Code} {base : Nat} {D : va_G} {cA : Nat → ClassId} {n : Nat} {l : Launch} {Q : Int → ml_St → Prop} {K37 : ml_St → Int → Prop} (X : ml_X p s m c meth args D cA cX7_howMany 6 RX7 (some .int)) (hn : 214 ≤ n) (hK37 : ∀ (σ : ml_St) (x2 : Int) (h_x2 : I32 x2) (ls : Array Slot), lv_has ls 6 [(0, .ref (base + (55 : Int).toNat)), (2, .int (Int32.ofInt x2))] → K37 σ x2 → ml_V p l e rm_X7_howMany s m args below meth c (MQ below (ml_Qi I32 base D cA n Q) args s 0 0 (ml_A base)) base D cA 0 0 n n σ (F0 m 37 ls [])) : ∀ (N : Nat) (σ : ml_St) (x1 : Int) (x2 : Int) (h_x1 : I32 x1) (h_x2 : I32 x2) (ls : Array Slot), lv_has ls 6 [(0, .ref (base + (55 : Int).toNat)), (1, .int (Int32.ofInt x1)), (2, .int (Int32.ofInt x2))] → f_X7_howMany_u12 Q K37 N σ x1 x2 → ml_V p l e rm_X7_howMany s m args below meth c (MQ below (ml_Qi I32 base D cA n Q) args s 0 0 (ml_A base)) base D cA 0 0 n n σ (F0 m 12 ls []) := by
  intro N
  induction N with
  | zero => intro σ x1 x2 h_x1 h_x2 ls hl hw; exact False.elim hw
  | succ N ih =>
    intro σ x1 x2 h_x1 h_x2 ls hl hw
    unfold f_X7_howMany_u12 at hw
    refine ml_aload_n (pc := 12) X hl 0 rfl rfl dX7_howMany_12 ?_
    refine gf_X7_47 (pc := 13) X (ml_c55 hn) dX7_howMany_13 (fun r1 => ?_)
    have hw := hw r1
    refine ml_iload_n (pc := 16) X hl 1 rfl rfl dX7_howMany_16 ?_
    refine ml_icmp_ge (pc := 17) (tgt := 37) X r1 h_x1 dX7_howMany_17 (by decide) (fun c2 => ?_) (fun c2 => ?_)
    · have hw := hw.1 c2
      exact hK37 σ x2 h_x2 _ (lv_sub hl [0, 2] rfl) hw
    · have hw := hw.2 c2
      refine ml_aload_n (pc := 20) X hl 0 rfl rfl dX7_howMany_20 ?_
      refine ml_callvV (pc := 21) (rest := []) X [] (by decide) rfl (ml_c55 hn) (c_X7_lengthenRow l base D cA n hn σ _ hw) cv_X7_124 ⟨rfl, rfl⟩ ⟨by decide, by decide⟩ rfl rfl hl (Nat.le_of_ble_eq_true rfl) ⟨Nat.zero_le _, Nat.zero_le _⟩ dX7_howMany_21 (fun σ3 hw => ?_)
      refine ml_aload_n (pc := 24) X hl 0 rfl rfl dX7_howMany_24 ?_
      refine ml_dup (pc := 25) X dX7_howMany_25 rfl ?_
      refine gf_X7_47 (pc := 26) X (ml_c55 hn) dX7_howMany_26 (fun r4 => ?_)
      have hw := hw r4
      refine ml_iconst (pc := 29) X dX7_howMany_29 ?_
      obtain ⟨v5, hw⟩ := hw
      refine ml_iadd (pc := 30) X dX7_howMany_30 ?_
      refine pf_X7_47 (pc := 31) X (ml_c55 hn) v5 dX7_howMany_31 (fun σ6 g6 => ?_)
      have hw := hw σ6 g6
      refine ml_goto (pc := 34) (tgt := 12) X dX7_howMany_34 (by decide) ?_
      exact ih σ6 x1 x2 h_x1 h_x2 _ (lv_sub hl [0, 1, 2] rfl) hw
set_option maxRecDepth 100000 in
set_option maxHeartbeats 4000000 in
theorem u_X7_howMany_81 {p : Program} {e : Env} {s : State} {m : MethodId} {args : Array Value} {below : List Frame} {meth : Method} {c : Code} {base : Nat} {D : va_G} {cA : Nat → ClassId} {n : Nat} {l : Launch} {Q : Int → ml_St → Prop} {K42 : ml_St → Int → Int → Int → Prop} (X : ml_X p s m c meth args D cA cX7_howMany 6 RX7 (some .int)) (hn : 214 ≤ n) (hK42 : ∀ (σ : ml_St) (x2 : Int) (x3 : Int) (x5 : Int) (h_x2 : I32 x2) (h_x3 : I64 x3) (h_x5 : I32 x5) (ls : Array Slot), lv_has ls 6 [(0, .ref (base + (55 : Int).toNat)), (2, .int (Int32.ofInt x2)), (3, .long (Int64.ofInt x3)), (5, .int (Int32.ofInt x5))] → K42 σ x2 x3 x5 → ml_V p l e rm_X7_howMany s m args below meth c (MQ below (ml_Qi I32 base D cA n Q) args s 0 0 (ml_A base)) base D cA 0 0 n n σ (F0 m 42 ls [])) (σ : ml_St) (x2 : Int) (x3 : Int) (x5 : Int) (h_x2 : I32 x2) (h_x3 : I64 x3) (h_x5 : I32 x5) (ls : Array Slot) (hl : lv_has ls 6 [(0, .ref (base + (55 : Int).toNat)), (2, .int (Int32.ofInt x2)), (3, .long (Int64.ofInt x3)), (5, .int (Int32.ofInt x5))]) (hw : f_X7_howMany_u81 Q K42 σ x2 x3 x5) : ml_V p l e rm_X7_howMany s m args below meth c (MQ below (ml_Qi I32 base D cA n Q) args s 0 0 (ml_A base)) base D cA 0 0 n n σ (F0 m 81 ls []) := by
  unfold f_X7_howMany_u81 at hw
  obtain ⟨v1, hw⟩ := hw
  obtain ⟨y1, e1⟩ : ∃ y : Int, y = x5 + 1 := ⟨_, rfl⟩
  have hw := hw y1 e1
  rw [← e1] at v1
  refine ml_iinc (pc := 81) X e1 hl 3 rfl (by decide) (lst' := [(5, .int (Int32.ofInt y1)), (0, .ref (base + (55 : Int).toNat)), (2, .int (Int32.ofInt x2)), (3, .long (Int64.ofInt x3))]) rfl dX7_howMany_81 (fun ls hl => ?_)
  refine ml_goto (pc := 84) (tgt := 42) X dX7_howMany_84 (by decide) ?_
  exact hK42 σ x2 x3 y1 h_x2 h_x3 v1 _ (lv_sub hl [1, 2, 3, 0] rfl) hw
set_option maxRecDepth 100000 in
set_option maxHeartbeats 4000000 in
theorem u_X7_howMany_42 {p : Program} {e : Env} {s : State} {m : MethodId} {args : Array Value} {below : List Frame} {meth : Method} {c : Code} {base : Nat} {D : va_G} {cA : Nat → ClassId} {n : Nat} {l : Launch} {Q : Int → ml_St → Prop} {K87 : ml_St → Int → Prop} (X : ml_X p s m c meth args D cA cX7_howMany 6 RX7 (some .int)) (hn : 214 ≤ n) (hK87 : ∀ (σ : ml_St) (x3 : Int) (h_x3 : I64 x3) (ls : Array Slot), lv_has ls 6 [(3, .long (Int64.ofInt x3))] → K87 σ x3 → ml_V p l e rm_X7_howMany s m args below meth c (MQ below (ml_Qi I32 base D cA n Q) args s 0 0 (ml_A base)) base D cA 0 0 n n σ (F0 m 87 ls [])) : ∀ (N : Nat) (σ : ml_St) (x2 : Int) (x3 : Int) (x5 : Int) (h_x2 : I32 x2) (h_x3 : I64 x3) (h_x5 : I32 x5) (ls : Array Slot), lv_has ls 6 [(0, .ref (base + (55 : Int).toNat)), (2, .int (Int32.ofInt x2)), (3, .long (Int64.ofInt x3)), (5, .int (Int32.ofInt x5))] → f_X7_howMany_u42 Q K87 N σ x2 x3 x5 → ml_V p l e rm_X7_howMany s m args below meth c (MQ below (ml_Qi I32 base D cA n Q) args s 0 0 (ml_A base)) base D cA 0 0 n n σ (F0 m 42 ls []) := by
  intro N
  induction N with
  | zero => intro σ x2 x3 x5 h_x2 h_x3 h_x5 ls hl hw; exact False.elim hw
  | succ N ih =>
    intro σ x2 x3 x5 h_x2 h_x3 h_x5 ls hl hw
    unfold f_X7_howMany_u42 at hw
    refine ml_iload (pc := 42) X hl 3 rfl dX7_howMany_42 ?_
    refine ml_aload_n (pc := 44) X hl 0 rfl rfl dX7_howMany_44 ?_
    refine gf_X7_18 (pc := 45) X (ml_c55 hn) dX7_howMany_45 (fun r1 => ?_)
    have hw := hw r1
    refine ml_iconst (pc := 48) X dX7_howMany_48 ?_
    obtain ⟨v2, hw⟩ := hw
    refine ml_imul (pc := 49) X dX7_howMany_49 ?_
    refine ml_icmp_ge (pc := 50) (tgt := 87) X h_x5 v2 dX7_howMany_50 (by decide) (fun c3 => ?_) (fun c3 => ?_)
    · have hw := hw.1 c3
      exact hK87 σ x3 h_x3 _ (lv_sub hl [2] rfl) hw
    · have hw := hw.2 c3
      refine ml_iload (pc := 53) X hl 3 rfl dX7_howMany_53 ?_
      refine ml_iconst (pc := 55) X dX7_howMany_55 ?_
      obtain ⟨z4, v4, hw⟩ := hw
      refine ml_irem (pc := 56) X h_x5 ⟨by decide, by decide⟩ z4 dX7_howMany_56 ?_
      refine ml_aload_n (pc := 57) X hl 0 rfl rfl dX7_howMany_57 ?_
      refine gf_X7_34 (pc := 58) X (ml_c55 hn) dX7_howMany_58 ?_
      refine ml_iload (pc := 61) X hl 3 rfl dX7_howMany_61 ?_
      refine ml_iconst (pc := 63) X dX7_howMany_63 ?_
      obtain ⟨z5, v5, hw⟩ := hw
      refine ml_idiv (pc := 64) X h_x5 ⟨by decide, by decide⟩ z5 dX7_howMany_64 ?_
      obtain ⟨a6, b6, hw⟩ := hw
      refine ml_iald (pc := 65) (N := 946) X (ml_c60 hn) a6 b6 dX7_howMany_65 (fun r6 => ?_)
      have hw := hw r6
      obtain ⟨v7, hw⟩ := hw
      refine ml_iadd (pc := 66) X dX7_howMany_66 ?_
      refine ml_iload_n (pc := 67) X hl 1 rfl rfl dX7_howMany_67 ?_
      refine ml_icmp_ne (pc := 68) (tgt := 81) X v7 h_x2 dX7_howMany_68 (by decide) (fun c8 => ?_) (fun c8 => ?_)
      · have hw := hw.1 c8
        exact u_X7_howMany_81 X hn ih σ x2 x3 x5 h_x2 h_x3 h_x5 _ (lv_sub hl [0, 1, 2, 3] rfl) hw
      · have hw := hw.2 c8
        refine ml_lload_n (pc := 71) X hl 2 rfl rfl dX7_howMany_71 ?_
        refine ml_aload_n (pc := 72) X hl 0 rfl rfl dX7_howMany_72 ?_
        refine gf_X7_40 (pc := 73) X (ml_c55 hn) dX7_howMany_73 ?_
        refine ml_iload (pc := 76) X hl 3 rfl dX7_howMany_76 ?_
        obtain ⟨a9, b9, hw⟩ := hw
        refine ml_lald (pc := 78) (N := 2838) X (ml_c62 hn) a9 b9 dX7_howMany_78 (fun r9 => ?_)
        have hw := hw r9
        refine ml_laddW (pc := 79) X dX7_howMany_79 ?_
        refine ml_topL (pc := 80) (fun y11 e11 => ?_)
        have hw := hw y11 e11
        have q11 : I64 y11 := by rw [e11]; exact (w64_r _)
        refine ml_lstore_n (pc := 80) X rfl hl (by decide) (lst' := [(3, .long (Int64.ofInt y11)), (0, .ref (base + (55 : Int).toNat)), (2, .int (Int32.ofInt x2)), (5, .int (Int32.ofInt x5))]) rfl dX7_howMany_80 (fun ls hl => ?_)
        exact u_X7_howMany_81 X hn ih σ x2 y11 x5 h_x2 q11 h_x5 _ (lv_sub hl [1, 2, 0, 3] rfl) hw
set_option maxRecDepth 100000 in
set_option maxHeartbeats 4000000 in
theorem u_X7_howMany_87 {p : Program} {e : Env} {s : State} {m : MethodId} {args : Array Value} {below : List Frame} {meth : Method} {c : Code} {base : Nat} {D : va_G} {cA : Nat → ClassId} {n : Nat} {l : Launch} {Q : Int → ml_St → Prop} (X : ml_X p s m c meth args D cA cX7_howMany 6 RX7 (some .int)) (hn : 214 ≤ n) (σ : ml_St) (x3 : Int) (h_x3 : I64 x3) (ls : Array Slot) (hl : lv_has ls 6 [(3, .long (Int64.ofInt x3))]) (hw : f_X7_howMany_u87 Q σ x3) : ml_V p l e rm_X7_howMany s m args below meth c (MQ below (ml_Qi I32 base D cA n Q) args s 0 0 (ml_A base)) base D cA 0 0 n n σ (F0 m 87 ls []) := by
  unfold f_X7_howMany_u87 at hw
  refine ml_lload_n (pc := 87) X hl 0 rfl rfl dX7_howMany_87 ?_
  refine ml_ldc2 (pc := 88) (v := 998244353) X dX7_howMany_88 tc_4_73 ?_
  obtain ⟨z1, hw⟩ := hw
  refine ml_lrem (pc := 91) X h_x3 ⟨by decide, by decide⟩ z1 dX7_howMany_91 ?_
  refine ml_l2i (pc := 92) X dX7_howMany_92 ?_
  exact ml_iret (pc := 93) X (b_l2i_r _) hw dX7_howMany_93
set_option maxRecDepth 100000 in
set_option maxHeartbeats 4000000 in
theorem u_X7_howMany_37 {p : Program} {e : Env} {s : State} {m : MethodId} {args : Array Value} {below : List Frame} {meth : Method} {c : Code} {base : Nat} {D : va_G} {cA : Nat → ClassId} {n : Nat} {l : Launch} {Q : Int → ml_St → Prop} (X : ml_X p s m c meth args D cA cX7_howMany 6 RX7 (some .int)) (hn : 214 ≤ n) (σ : ml_St) (x2 : Int) (h_x2 : I32 x2) (ls : Array Slot) (hl : lv_has ls 6 [(0, .ref (base + (55 : Int).toNat)), (2, .int (Int32.ofInt x2))]) (hw : f_X7_howMany_u37 Q σ x2) : ml_V p l e rm_X7_howMany s m args below meth c (MQ below (ml_Qi I32 base D cA n Q) args s 0 0 (ml_A base)) base D cA 0 0 n n σ (F0 m 37 ls []) := by
  unfold f_X7_howMany_u37 at hw
  refine ml_lconst0 (pc := 37) X dX7_howMany_37 ?_
  refine ml_lstore_n (pc := 38) X rfl hl (by decide) (lst' := [(3, .long (Int64.ofInt 0)), (0, .ref (base + (55 : Int).toNat)), (2, .int (Int32.ofInt x2))]) rfl dX7_howMany_38 (fun ls hl => ?_)
  refine ml_iconst (pc := 39) X dX7_howMany_39 ?_
  refine ml_istore (pc := 40) X hl (by decide) (lst' := [(5, .int (Int32.ofInt 0)), (3, .long (Int64.ofInt 0)), (0, .ref (base + (55 : Int).toNat)), (2, .int (Int32.ofInt x2))]) rfl dX7_howMany_40 (fun ls hl => ?_)
  obtain ⟨N0, hw⟩ := hw
  exact u_X7_howMany_42 X hn (fun σ x3 h_x3 ls hl hw => u_X7_howMany_87 X hn σ x3 h_x3 ls hl hw) N0 σ x2 0 0 h_x2 ⟨by decide, by decide⟩ ⟨by decide, by decide⟩ _ (lv_sub hl [2, 3, 1, 0] rfl) hw
set_option maxRecDepth 100000 in
set_option maxHeartbeats 4000000 in
theorem u_X7_howMany_0 {p : Program} {e : Env} {s : State} {m : MethodId} {args : Array Value} {below : List Frame} {meth : Method} {c : Code} {base : Nat} {D : va_G} {cA : Nat → ClassId} {n : Nat} {l : Launch} {Q : Int → ml_St → Prop} (X : ml_X p s m c meth args D cA cX7_howMany 6 RX7 (some .int)) (hn : 214 ≤ n) (σ : ml_St) (x1 : Int) (x2 : Int) (h_x1 : I32 x1) (h_x2 : I32 x2) (ls : Array Slot) (hl : lv_has ls 6 [(0, .ref (base + (55 : Int).toNat)), (1, .int (Int32.ofInt x1)), (2, .int (Int32.ofInt x2))]) (hw : f_X7_howMany_u0 Q σ x1 x2) : ml_V p l e rm_X7_howMany s m args below meth c (MQ below (ml_Qi I32 base D cA n Q) args s 0 0 (ml_A base)) base D cA 0 0 n n σ (F0 m 0 ls []) := by
  unfold f_X7_howMany_u0 at hw
  refine ml_iload_n (pc := 0) X hl 1 rfl rfl dX7_howMany_0 ?_
  refine ml_aload_n (pc := 1) X hl 0 rfl rfl dX7_howMany_1 ?_
  refine gf_X7_47 (pc := 2) X (ml_c55 hn) dX7_howMany_2 (fun r1 => ?_)
  have hw := hw r1
  refine ml_icmp_ge (pc := 5) (tgt := 12) X h_x1 r1 dX7_howMany_5 (by decide) (fun c2 => ?_) (fun c2 => ?_)
  · have hw := hw.1 c2
    obtain ⟨N0, hw⟩ := hw
    exact u_X7_howMany_12 X hn (fun σ x2 h_x2 ls hl hw => u_X7_howMany_37 X hn σ x2 h_x2 ls hl hw) N0 σ x1 x2 h_x1 h_x2 _ (lv_sub hl [0, 1, 2] rfl) hw
  · have hw := hw.2 c2
    refine ml_aload_n (pc := 8) X hl 0 rfl rfl dX7_howMany_8 ?_
    refine ml_callvV (pc := 9) (rest := []) X [] (by decide) rfl (ml_c55 hn) (c_X7_startRow l base D cA n hn σ _ hw) cv_X7_78 ⟨rfl, rfl⟩ ⟨by decide, by decide⟩ rfl rfl hl (Nat.le_of_ble_eq_true rfl) ⟨Nat.zero_le _, Nat.zero_le _⟩ dX7_howMany_9 (fun σ3 hw => ?_)
    obtain ⟨N0, hw⟩ := hw
    exact u_X7_howMany_12 X hn (fun σ x2 h_x2 ls hl hw => u_X7_howMany_37 X hn σ x2 h_x2 ls hl hw) N0 σ3 x1 x2 h_x1 h_x2 _ (lv_sub hl [0, 1, 2] rfl) hw
set_option maxRecDepth 100000 in
theorem c_X7_howMany (l : Launch) (base : Nat) (D : va_G) (cA : Nat → ClassId) (n : Nat) (hn : 214 ≤ n) (σ : ml_St) (x1 : Int) (x2 : Int) (h_x1 : I32 x1) (h_x2 : I32 x2) (Q : Int → ml_St → Prop) (hw : f_X7_howMany σ x1 x2 Q) : Met l yX7_howMany (Cond.code yX7_howMany cX7_howMany 6 (some .int) :: ml_T) rm_X7_howMany (va_Pc [.ref (base + (55 : Int).toNat), .int (Int32.ofInt x1), .int (Int32.ofInt x2)] (ml_U base D cA n σ)) (ml_Qi I32 base D cA n Q) 0 0 (ml_A base) := by
  refine Met.ofW (cc := cX7_howMany) (maxL := 6) (ret := (some .int)) (by decide) rfl ?_
  intro p e s m args below meth c s₁ B hml hv
  obtain ⟨rfl, hP, hK, hok, hro⟩ := hv
  have X : ml_X p s m c meth _ D cA cX7_howMany 6 RX7 (some .int) := ⟨B.exec, B.bytes, hml, findClass_of_methodNamed B.named, fun w hw => atoms_spec (ws := Cond.code yX7_howMany cX7_howMany 6 (some .int) :: ml_T) B.pre w (List.mem_cons_of_mem _ hw), hK, B.notSynchronized, B.returns⟩
  have hl := lv_entry [.ref (base + (55 : Int).toNat), .int (Int32.ofInt x1), .int (Int32.ofInt x2)] (n := 6) (Nat.le_of_ble_eq_true rfl)
  rw [lg_entry_eq]
  generalize (lg_sl [.ref (base + (55 : Int).toNat), .int (Int32.ofInt x1), .int (Int32.ofInt x2)] ++ List.replicate (6 - (lg_sl [.ref (base + (55 : Int).toNat), .int (Int32.ofInt x1), .int (Int32.ofInt x2)]).length) Slot.unset).toArray = ls at hl ⊢
  have hl : lv_has ls 6 [(0, .ref (base + (55 : Int).toNat)), (1, .int (Int32.ofInt x1)), (2, .int (Int32.ofInt x2))] := hl
  unfold f_X7_howMany at hw
  exact u_X7_howMany_0 X hn σ x1 x2 h_x1 h_x2 _ (lv_sub hl [0, 1, 2] rfl) hw s.heap [] hP va_S.rf hok hro
theorem dX11_many_0 : decode cX11_many 0 = .ok (.iload_n 2, 1) := by decide +kernel
theorem dX11_many_1 : decode cX11_many 1 = .ok (.iconst 1, 1) := by decide +kernel
theorem dX11_many_2 : decode cX11_many 2 = .ok (.if_icmp .lt 27, 3) := by decide +kernel
theorem dX11_many_5 : decode cX11_many 5 = .ok (.iload_n 2, 1) := by decide +kernel
theorem dX11_many_6 : decode cX11_many 6 = .ok (.sipush 1000, 3) := by decide +kernel
theorem dX11_many_9 : decode cX11_many 9 = .ok (.if_icmp .gt 20, 3) := by decide +kernel
theorem dX11_many_12 : decode cX11_many 12 = .ok (.iload_n 3, 1) := by decide +kernel
theorem dX11_many_13 : decode cX11_many 13 = .ok (.ifCond .lt 16, 3) := by decide +kernel
theorem dX11_many_16 : decode cX11_many 16 = .ok (.iload_n 3, 1) := by decide +kernel
theorem dX11_many_17 : decode cX11_many 17 = .ok (.iconst 3, 1) := by decide +kernel
theorem dX11_many_18 : decode cX11_many 18 = .ok (.if_icmp .gt 11, 3) := by decide +kernel
theorem dX11_many_21 : decode cX11_many 21 = .ok (.aload_n 0, 1) := by decide +kernel
theorem dX11_many_22 : decode cX11_many 22 = .ok (.iload_n 1, 1) := by decide +kernel
theorem dX11_many_23 : decode cX11_many 23 = .ok (.invokevirtual 219, 3) := by decide +kernel
theorem dX11_many_26 : decode cX11_many 26 = .ok (.ifCond .ne 5, 3) := by decide +kernel
theorem dX11_many_29 : decode cX11_many 29 = .ok (.iconst (-1), 1) := by decide +kernel
theorem dX11_many_30 : decode cX11_many 30 = .ok (.ireturn, 1) := by decide +kernel
theorem dX11_many_31 : decode cX11_many 31 = .ok (.aload_n 0, 1) := by decide +kernel
theorem dX11_many_32 : decode cX11_many 32 = .ok (.getfield 47, 3) := by decide +kernel
theorem dX11_many_35 : decode cX11_many 35 = .ok (.aload_n 0, 1) := by decide +kernel
theorem dX11_many_36 : decode cX11_many 36 = .ok (.getfield 19, 3) := by decide +kernel
theorem dX11_many_39 : decode cX11_many 39 = .ok (.aload_n 0, 1) := by decide +kernel
theorem dX11_many_40 : decode cX11_many 40 = .ok (.getfield 82, 3) := by decide +kernel
theorem dX11_many_43 : decode cX11_many 43 = .ok (.invokevirtual 222, 3) := by decide +kernel
theorem dX11_many_46 : decode cX11_many 46 = .ok (.aload_n 0, 1) := by decide +kernel
theorem dX11_many_47 : decode cX11_many 47 = .ok (.getfield 47, 3) := by decide +kernel
theorem dX11_many_50 : decode cX11_many 50 = .ok (.iload_n 2, 1) := by decide +kernel
theorem dX11_many_51 : decode cX11_many 51 = .ok (.iload_n 3, 1) := by decide +kernel
theorem dX11_many_52 : decode cX11_many 52 = .ok (.invokevirtual 226, 3) := by decide +kernel
theorem dX11_many_55 : decode cX11_many 55 = .ok (.ireturn, 1) := by decide +kernel
def f_X11_many_u29 (Q : Int → ml_St → Prop) (σ : ml_St) : Prop :=
Q (-1) σ
def f_X11_many_u0 (Q : Int → ml_St → Prop) (σ : ml_St) (x1 : Int) (x2 : Int) (x3 : Int) : Prop :=
(x2 < 1 →
f_X11_many_u29 Q σ) ∧
(¬ (x2 < 1) →
(1000 < x2 →
f_X11_many_u29 Q σ) ∧
(¬ (1000 < x2) →
(x3 < 0 →
f_X11_many_u29 Q σ) ∧
(¬ (x3 < 0) →
(3 < x3 →
f_X11_many_u29 Q σ) ∧
(¬ (3 < x3) →
f_X11_openLetters σ x1 (fun r5 σ5 => ∀ _ : ml_B r5,
(r5 ≠ 0 →
∀ _ : I32 (σ5 1 11),
f_X7_closeAll σ5 (σ5 1 11) (fun σ8 =>
f_X7_howMany σ8 x2 x3 (fun r9 σ9 => ∀ _ : I32 r9,
Q r9 σ9))) ∧
(r5 = 0 →
f_X11_many_u29 Q σ5))))))
def f_X11_many (σ : ml_St) (x1 : Int) (x2 : Int) (x3 : Int) (Q : Int → ml_St → Prop) : Prop := f_X11_many_u0 Q σ x1 x2 x3
def rm_X11_many : Room := { frames := 6, cells := 0, slots := 0, locals := 186 }
set_option maxRecDepth 100000 in
set_option maxHeartbeats 4000000 in
theorem u_X11_many_29 {p : Program} {e : Env} {s : State} {m : MethodId} {args : Array Value} {below : List Frame} {meth : Method} {c : Code} {base : Nat} {D : va_G} {cA : Nat → ClassId} {n : Nat} {l : Launch} {Q : Int → ml_St → Prop} (X : ml_X p s m c meth args D cA cX11_many 4 RX11 (some .int)) (hn : 214 ≤ n) (σ : ml_St) (ls : Array Slot) (hl : lv_has ls 4 []) (hw : f_X11_many_u29 Q σ) : ml_V p l e rm_X11_many s m args below meth c (MQ below (ml_Qi I32 base D cA n Q) args s 0 0 (ml_A base)) base D cA 0 0 n n σ (F0 m 29 ls []) := by
  unfold f_X11_many_u29 at hw
  refine ml_iconst (pc := 29) X dX11_many_29 ?_
  exact ml_iret (pc := 30) X ⟨by decide, by decide⟩ hw dX11_many_30
set_option maxRecDepth 100000 in
set_option maxHeartbeats 4000000 in
theorem u_X11_many_0 {p : Program} {e : Env} {s : State} {m : MethodId} {args : Array Value} {below : List Frame} {meth : Method} {c : Code} {base : Nat} {D : va_G} {cA : Nat → ClassId} {n : Nat} {l : Launch} {Q : Int → ml_St → Prop} (X : ml_X p s m c meth args D cA cX11_many 4 RX11 (some .int)) (hn : 214 ≤ n) (σ : ml_St) (x1 : Int) (x2 : Int) (x3 : Int) (h_x1 : I32 x1) (h_x2 : I32 x2) (h_x3 : I32 x3) (ls : Array Slot) (hl : lv_has ls 4 [(0, .ref (base + (1 : Int).toNat)), (1, .int (Int32.ofInt x1)), (2, .int (Int32.ofInt x2)), (3, .int (Int32.ofInt x3))]) (hw : f_X11_many_u0 Q σ x1 x2 x3) : ml_V p l e rm_X11_many s m args below meth c (MQ below (ml_Qi I32 base D cA n Q) args s 0 0 (ml_A base)) base D cA 0 0 n n σ (F0 m 0 ls []) := by
  unfold f_X11_many_u0 at hw
  refine ml_iload_n (pc := 0) X hl 2 rfl rfl dX11_many_0 ?_
  refine ml_iconst (pc := 1) X dX11_many_1 ?_
  refine ml_icmp_lt (pc := 2) (tgt := 29) X h_x2 ⟨by decide, by decide⟩ dX11_many_2 (by decide) (fun c1 => ?_) (fun c1 => ?_)
  · have hw := hw.1 c1
    exact u_X11_many_29 X hn σ   _ (lv_sub hl [] rfl) hw
  · have hw := hw.2 c1
    refine ml_iload_n (pc := 5) X hl 2 rfl rfl dX11_many_5 ?_
    refine ml_sipush (pc := 6) X dX11_many_6 (by decide) ?_
    refine ml_icmp_gt (pc := 9) (tgt := 29) X h_x2 ⟨by decide, by decide⟩ dX11_many_9 (by decide) (fun c2 => ?_) (fun c2 => ?_)
    · have hw := hw.1 c2
      exact u_X11_many_29 X hn σ   _ (lv_sub hl [] rfl) hw
    · have hw := hw.2 c2
      refine ml_iload_n (pc := 12) X hl 3 rfl rfl dX11_many_12 ?_
      refine ml_if_lt (pc := 13) (tgt := 29) X h_x3 dX11_many_13 (by decide) (fun c3 => ?_) (fun c3 => ?_)
      · have hw := hw.1 c3
        exact u_X11_many_29 X hn σ   _ (lv_sub hl [] rfl) hw
      · have hw := hw.2 c3
        refine ml_iload_n (pc := 16) X hl 3 rfl rfl dX11_many_16 ?_
        refine ml_iconst (pc := 17) X dX11_many_17 ?_
        refine ml_icmp_gt (pc := 18) (tgt := 29) X h_x3 ⟨by decide, by decide⟩ dX11_many_18 (by decide) (fun c4 => ?_) (fun c4 => ?_)
        · have hw := hw.1 c4
          exact u_X11_many_29 X hn σ   _ (lv_sub hl [] rfl) hw
        · have hw := hw.2 c4
          refine ml_aload_n (pc := 21) X hl 0 rfl rfl dX11_many_21 ?_
          refine ml_iload_n (pc := 22) X hl 1 rfl rfl dX11_many_22 ?_
          refine ml_callzV (pc := 23) (rest := []) X [.int (Int32.ofInt x1)] (by decide) rfl (ml_c1 hn) (c_X11_openLetters l base D cA n hn σ x1 h_x1 _ hw) cv_X11_219 ⟨rfl, rfl⟩ ⟨by decide, by decide⟩ rfl rfl hl (Nat.le_of_ble_eq_true rfl) ⟨Nat.zero_le _, Nat.zero_le _⟩ dX11_many_23 (fun r5 σ5 t5 hw => ?_)
          have hw := hw t5
          refine ml_if_ne (pc := 26) (tgt := 31) X t5.i dX11_many_26 (by decide) (fun c6 => ?_) (fun c6 => ?_)
          · have hw := hw.1 c6
            refine ml_aload_n (pc := 31) X hl 0 rfl rfl dX11_many_31 ?_
            refine gf_X11_47 (pc := 32) X (ml_c1 hn) dX11_many_32 ?_
            refine ml_aload_n (pc := 35) X hl 0 rfl rfl dX11_many_35 ?_
            refine gf_X11_19 (pc := 36) X (ml_c1 hn) dX11_many_36 ?_
            refine ml_aload_n (pc := 39) X hl 0 rfl rfl dX11_many_39 ?_
            refine gf_X11_82 (pc := 40) X (ml_c1 hn) dX11_many_40 (fun r7 => ?_)
            have hw := hw r7
            refine ml_callvV (pc := 43) (rest := []) X [.ref (base + (4 : Int).toNat), .int (Int32.ofInt (σ5 1 11))] (by decide) rfl (ml_c55 hn) (c_X7_closeAll l base D cA n hn σ5 (σ5 1 11) r7 _ hw) cv_X11_222 ⟨rfl, rfl⟩ ⟨by decide, by decide⟩ rfl rfl hl (Nat.le_of_ble_eq_true rfl) ⟨Nat.zero_le _, Nat.zero_le _⟩ dX11_many_43 (fun σ8 hw => ?_)
            refine ml_aload_n (pc := 46) X hl 0 rfl rfl dX11_many_46 ?_
            refine gf_X11_47 (pc := 47) X (ml_c1 hn) dX11_many_47 ?_
            refine ml_iload_n (pc := 50) X hl 2 rfl rfl dX11_many_50 ?_
            refine ml_iload_n (pc := 51) X hl 3 rfl rfl dX11_many_51 ?_
            refine ml_calliV (pc := 52) (rest := []) X [.int (Int32.ofInt x2), .int (Int32.ofInt x3)] (by decide) rfl (ml_c55 hn) (c_X7_howMany l base D cA n hn σ8 x2 x3 h_x2 h_x3 _ hw) cv_X11_226 ⟨rfl, rfl⟩ ⟨by decide, by decide⟩ rfl rfl hl (Nat.le_of_ble_eq_true rfl) ⟨Nat.zero_le _, Nat.zero_le _⟩ dX11_many_52 (fun r9 σ9 t9 hw => ?_)
            have hw := hw t9
            exact ml_iret (pc := 55) X t9 hw dX11_many_55
          · have hw := hw.2 c6
            exact u_X11_many_29 X hn σ5   _ (lv_sub hl [] rfl) hw
set_option maxRecDepth 100000 in
theorem c_X11_many (l : Launch) (base : Nat) (D : va_G) (cA : Nat → ClassId) (n : Nat) (hn : 214 ≤ n) (σ : ml_St) (x1 : Int) (x2 : Int) (x3 : Int) (h_x1 : I32 x1) (h_x2 : I32 x2) (h_x3 : I32 x3) (Q : Int → ml_St → Prop) (hw : f_X11_many σ x1 x2 x3 Q) : Met l yX11_many (Cond.code yX11_many cX11_many 4 (some .int) :: ml_T) rm_X11_many (va_Pc [.ref (base + (1 : Int).toNat), .int (Int32.ofInt x1), .int (Int32.ofInt x2), .int (Int32.ofInt x3)] (ml_U base D cA n σ)) (ml_Qi I32 base D cA n Q) 0 0 (ml_A base) := by
  refine Met.ofW (cc := cX11_many) (maxL := 4) (ret := (some .int)) (by decide) rfl ?_
  intro p e s m args below meth c s₁ B hml hv
  obtain ⟨rfl, hP, hK, hok, hro⟩ := hv
  have X : ml_X p s m c meth _ D cA cX11_many 4 RX11 (some .int) := ⟨B.exec, B.bytes, hml, findClass_of_methodNamed B.named, fun w hw => atoms_spec (ws := Cond.code yX11_many cX11_many 4 (some .int) :: ml_T) B.pre w (List.mem_cons_of_mem _ hw), hK, B.notSynchronized, B.returns⟩
  have hl := lv_entry [.ref (base + (1 : Int).toNat), .int (Int32.ofInt x1), .int (Int32.ofInt x2), .int (Int32.ofInt x3)] (n := 4) (Nat.le_of_ble_eq_true rfl)
  rw [lg_entry_eq]
  generalize (lg_sl [.ref (base + (1 : Int).toNat), .int (Int32.ofInt x1), .int (Int32.ofInt x2), .int (Int32.ofInt x3)] ++ List.replicate (4 - (lg_sl [.ref (base + (1 : Int).toNat), .int (Int32.ofInt x1), .int (Int32.ofInt x2), .int (Int32.ofInt x3)]).length) Slot.unset).toArray = ls at hl ⊢
  have hl : lv_has ls 4 [(0, .ref (base + (1 : Int).toNat)), (1, .int (Int32.ofInt x1)), (2, .int (Int32.ofInt x2)), (3, .int (Int32.ofInt x3))] := hl
  unfold f_X11_many at hw
  exact u_X11_many_0 X hn σ x1 x2 x3 h_x1 h_x2 h_x3 _ (lv_sub hl [0, 1, 2, 3] rfl) hw s.heap [] hP va_S.rf hok hro
theorem dX11_made_0 : decode cX11_made 0 = .ok (.aload_n 0, 1) := by decide +kernel
theorem dX11_made_1 : decode cX11_made 1 = .ok (.iload_n 1, 1) := by decide +kernel
theorem dX11_made_2 : decode cX11_made 2 = .ok (.invokevirtual 219, 3) := by decide +kernel
theorem dX11_made_5 : decode cX11_made 5 = .ok (.ifCond .eq 15, 3) := by decide +kernel
theorem dX11_made_8 : decode cX11_made 8 = .ok (.aload_n 0, 1) := by decide +kernel
theorem dX11_made_9 : decode cX11_made 9 = .ok (.getfield 47, 3) := by decide +kernel
theorem dX11_made_12 : decode cX11_made 12 = .ok (.getfield 228, 3) := by decide +kernel
theorem dX11_made_15 : decode cX11_made 15 = .ok (.iconst 1, 1) := by decide +kernel
theorem dX11_made_16 : decode cX11_made 16 = .ok (.isub, 1) := by decide +kernel
theorem dX11_made_17 : decode cX11_made 17 = .ok (.goto 4, 3) := by decide +kernel
theorem dX11_made_20 : decode cX11_made 20 = .ok (.iconst (-1), 1) := by decide +kernel
theorem dX11_made_21 : decode cX11_made 21 = .ok (.ireturn, 1) := by decide +kernel
def f_X11_made_u21 (Q : Int → ml_St → Prop) (σ : ml_St) (s0 : Int) : Prop :=
Q s0 σ
def f_X11_made_u0 (Q : Int → ml_St → Prop) (σ : ml_St) (x1 : Int) : Prop :=
f_X11_openLetters σ x1 (fun r1 σ1 => ∀ _ : ml_B r1,
(r1 = 0 →
f_X11_made_u21 Q σ1 (-1)) ∧
(r1 ≠ 0 →
∀ _ : I32 (σ1 55 2),
I32 ((σ1 55 2) - 1) ∧
f_X11_made_u21 Q σ1 ((σ1 55 2) - 1)))
def f_X11_made (σ : ml_St) (x1 : Int) (Q : Int → ml_St → Prop) : Prop := f_X11_made_u0 Q σ x1
def rm_X11_made : Room := { frames := 6, cells := 0, slots := 0, locals := 186 }
set_option maxRecDepth 100000 in
set_option maxHeartbeats 4000000 in
theorem u_X11_made_21 {p : Program} {e : Env} {s : State} {m : MethodId} {args : Array Value} {below : List Frame} {meth : Method} {c : Code} {base : Nat} {D : va_G} {cA : Nat → ClassId} {n : Nat} {l : Launch} {Q : Int → ml_St → Prop} (X : ml_X p s m c meth args D cA cX11_made 2 RX11 (some .int)) (hn : 214 ≤ n) (σ : ml_St) (s0 : Int) (h_s0 : I32 s0) (ls : Array Slot) (hl : lv_has ls 2 []) (hw : f_X11_made_u21 Q σ s0) : ml_V p l e rm_X11_made s m args below meth c (MQ below (ml_Qi I32 base D cA n Q) args s 0 0 (ml_A base)) base D cA 0 0 n n σ (F0 m 21 ls [.int (Int32.ofInt s0)]) := by
  unfold f_X11_made_u21 at hw
  exact ml_iret (pc := 21) X h_s0 hw dX11_made_21
set_option maxRecDepth 100000 in
set_option maxHeartbeats 4000000 in
theorem u_X11_made_0 {p : Program} {e : Env} {s : State} {m : MethodId} {args : Array Value} {below : List Frame} {meth : Method} {c : Code} {base : Nat} {D : va_G} {cA : Nat → ClassId} {n : Nat} {l : Launch} {Q : Int → ml_St → Prop} (X : ml_X p s m c meth args D cA cX11_made 2 RX11 (some .int)) (hn : 214 ≤ n) (σ : ml_St) (x1 : Int) (h_x1 : I32 x1) (ls : Array Slot) (hl : lv_has ls 2 [(0, .ref (base + (1 : Int).toNat)), (1, .int (Int32.ofInt x1))]) (hw : f_X11_made_u0 Q σ x1) : ml_V p l e rm_X11_made s m args below meth c (MQ below (ml_Qi I32 base D cA n Q) args s 0 0 (ml_A base)) base D cA 0 0 n n σ (F0 m 0 ls []) := by
  unfold f_X11_made_u0 at hw
  refine ml_aload_n (pc := 0) X hl 0 rfl rfl dX11_made_0 ?_
  refine ml_iload_n (pc := 1) X hl 1 rfl rfl dX11_made_1 ?_
  refine ml_callzV (pc := 2) (rest := []) X [.int (Int32.ofInt x1)] (by decide) rfl (ml_c1 hn) (c_X11_openLetters l base D cA n hn σ x1 h_x1 _ hw) cv_X11_219 ⟨rfl, rfl⟩ ⟨by decide, by decide⟩ rfl rfl hl (Nat.le_of_ble_eq_true rfl) ⟨Nat.zero_le _, Nat.zero_le _⟩ dX11_made_2 (fun r1 σ1 t1 hw => ?_)
  have hw := hw t1
  refine ml_if_eq (pc := 5) (tgt := 20) X t1.i dX11_made_5 (by decide) (fun c2 => ?_) (fun c2 => ?_)
  · have hw := hw.1 c2
    refine ml_iconst (pc := 20) X dX11_made_20 ?_
    exact u_X11_made_21 X hn σ1 (-1) ⟨by decide, by decide⟩ _ (lv_sub hl [] rfl) hw
  · have hw := hw.2 c2
    refine ml_aload_n (pc := 8) X hl 0 rfl rfl dX11_made_8 ?_
    refine gf_X11_47 (pc := 9) X (ml_c1 hn) dX11_made_9 ?_
    refine gf_X11_228 (pc := 12) X (ml_c55 hn) dX11_made_12 (fun r3 => ?_)
    have hw := hw r3
    refine ml_iconst (pc := 15) X dX11_made_15 ?_
    obtain ⟨v4, hw⟩ := hw
    refine ml_isub (pc := 16) X dX11_made_16 ?_
    refine ml_goto (pc := 17) (tgt := 21) X dX11_made_17 (by decide) ?_
    exact u_X11_made_21 X hn σ1 ((σ1 55 2) - 1) v4 _ (lv_sub hl [] rfl) hw
set_option maxRecDepth 100000 in
theorem c_X11_made (l : Launch) (base : Nat) (D : va_G) (cA : Nat → ClassId) (n : Nat) (hn : 214 ≤ n) (σ : ml_St) (x1 : Int) (h_x1 : I32 x1) (Q : Int → ml_St → Prop) (hw : f_X11_made σ x1 Q) : Met l yX11_made (Cond.code yX11_made cX11_made 2 (some .int) :: ml_T) rm_X11_made (va_Pc [.ref (base + (1 : Int).toNat), .int (Int32.ofInt x1)] (ml_U base D cA n σ)) (ml_Qi I32 base D cA n Q) 0 0 (ml_A base) := by
  refine Met.ofW (cc := cX11_made) (maxL := 2) (ret := (some .int)) (by decide) rfl ?_
  intro p e s m args below meth c s₁ B hml hv
  obtain ⟨rfl, hP, hK, hok, hro⟩ := hv
  have X : ml_X p s m c meth _ D cA cX11_made 2 RX11 (some .int) := ⟨B.exec, B.bytes, hml, findClass_of_methodNamed B.named, fun w hw => atoms_spec (ws := Cond.code yX11_made cX11_made 2 (some .int) :: ml_T) B.pre w (List.mem_cons_of_mem _ hw), hK, B.notSynchronized, B.returns⟩
  have hl := lv_entry [.ref (base + (1 : Int).toNat), .int (Int32.ofInt x1)] (n := 2) (Nat.le_of_ble_eq_true rfl)
  rw [lg_entry_eq]
  generalize (lg_sl [.ref (base + (1 : Int).toNat), .int (Int32.ofInt x1)] ++ List.replicate (2 - (lg_sl [.ref (base + (1 : Int).toNat), .int (Int32.ofInt x1)]).length) Slot.unset).toArray = ls at hl ⊢
  have hl : lv_has ls 2 [(0, .ref (base + (1 : Int).toNat)), (1, .int (Int32.ofInt x1))] := hl
  unfold f_X11_made at hw
  exact u_X11_made_0 X hn σ x1 h_x1 _ (lv_sub hl [0, 1] rfl) hw s.heap [] hP va_S.rf hok hro
theorem dX1_answer_0 : decode cX1_answer 0 = .ok (.iload_n 1, 1) := by decide +kernel
theorem dX1_answer_1 : decode cX1_answer 1 = .ok (.iconst (-1), 1) := by decide +kernel
theorem dX1_answer_2 : decode cX1_answer 2 = .ok (.if_icmp .ne 8, 3) := by decide +kernel
theorem dX1_answer_5 : decode cX1_answer 5 = .ok (.aload_n 0, 1) := by decide +kernel
theorem dX1_answer_6 : decode cX1_answer 6 = .ok (.getfield 30, 3) := by decide +kernel
theorem dX1_answer_9 : decode cX1_answer 9 = .ok (.ireturn, 1) := by decide +kernel
theorem dX1_answer_10 : decode cX1_answer 10 = .ok (.iload_n 1, 1) := by decide +kernel
theorem dX1_answer_11 : decode cX1_answer 11 = .ok (.ifCond .lt 20, 3) := by decide +kernel
theorem dX1_answer_14 : decode cX1_answer 14 = .ok (.iload_n 1, 1) := by decide +kernel
theorem dX1_answer_15 : decode cX1_answer 15 = .ok (.aload_n 0, 1) := by decide +kernel
theorem dX1_answer_16 : decode cX1_answer 16 = .ok (.getfield 30, 3) := by decide +kernel
theorem dX1_answer_19 : decode cX1_answer 19 = .ok (.if_icmp .ge 12, 3) := by decide +kernel
theorem dX1_answer_22 : decode cX1_answer 22 = .ok (.aload_n 0, 1) := by decide +kernel
theorem dX1_answer_23 : decode cX1_answer 23 = .ok (.getfield 23, 3) := by decide +kernel
theorem dX1_answer_26 : decode cX1_answer 26 = .ok (.iload_n 1, 1) := by decide +kernel
theorem dX1_answer_27 : decode cX1_answer 27 = .ok (.iaload, 1) := by decide +kernel
theorem dX1_answer_28 : decode cX1_answer 28 = .ok (.goto 4, 3) := by decide +kernel
theorem dX1_answer_31 : decode cX1_answer 31 = .ok (.iconst (-1), 1) := by decide +kernel
theorem dX1_answer_32 : decode cX1_answer 32 = .ok (.ireturn, 1) := by decide +kernel
def f_X1_answer_u32 (Q : Int → ml_St → Prop) (σ : ml_St) (s0 : Int) : Prop :=
Q s0 σ
def f_X1_answer_u31 (Q : Int → ml_St → Prop) (σ : ml_St) : Prop :=
f_X1_answer_u32 Q σ (-1)
def f_X1_answer_u0 (Q : Int → ml_St → Prop) (σ : ml_St) (x1 : Int) : Prop :=
(x1 ≠ (-1) →
(x1 < 0 →
f_X1_answer_u31 Q σ) ∧
(¬ (x1 < 0) →
∀ _ : I32 (σ 70 5),
((σ 70 5) ≤ x1 →
f_X1_answer_u31 Q σ) ∧
(¬ ((σ 70 5) ≤ x1) →
(0 : Int) ≤ x1 ∧ (x1 : Int) < 2838 ∧
∀ _ : I32 (σ 74 x1),
f_X1_answer_u32 Q σ (σ 74 x1)))) ∧
(x1 = (-1) →
∀ _ : I32 (σ 70 5),
Q (σ 70 5) σ)
def f_X1_answer (σ : ml_St) (x1 : Int) (Q : Int → ml_St → Prop) : Prop := f_X1_answer_u0 Q σ x1
def rm_X1_answer : Room := { frames := 0, cells := 0, slots := 0, locals := 0 }
set_option maxRecDepth 100000 in
set_option maxHeartbeats 4000000 in
theorem u_X1_answer_32 {p : Program} {e : Env} {s : State} {m : MethodId} {args : Array Value} {below : List Frame} {meth : Method} {c : Code} {base : Nat} {D : va_G} {cA : Nat → ClassId} {n : Nat} {l : Launch} {Q : Int → ml_St → Prop} (X : ml_X p s m c meth args D cA cX1_answer 2 RX1 (some .int)) (hn : 214 ≤ n) (σ : ml_St) (s0 : Int) (h_s0 : I32 s0) (ls : Array Slot) (hl : lv_has ls 2 []) (hw : f_X1_answer_u32 Q σ s0) : ml_V p l e rm_X1_answer s m args below meth c (MQ below (ml_Qi I32 base D cA n Q) args s 0 0 (ml_A base)) base D cA 0 0 n n σ (F0 m 32 ls [.int (Int32.ofInt s0)]) := by
  unfold f_X1_answer_u32 at hw
  exact ml_iret (pc := 32) X h_s0 hw dX1_answer_32
set_option maxRecDepth 100000 in
set_option maxHeartbeats 4000000 in
theorem u_X1_answer_31 {p : Program} {e : Env} {s : State} {m : MethodId} {args : Array Value} {below : List Frame} {meth : Method} {c : Code} {base : Nat} {D : va_G} {cA : Nat → ClassId} {n : Nat} {l : Launch} {Q : Int → ml_St → Prop} (X : ml_X p s m c meth args D cA cX1_answer 2 RX1 (some .int)) (hn : 214 ≤ n) (σ : ml_St) (ls : Array Slot) (hl : lv_has ls 2 []) (hw : f_X1_answer_u31 Q σ) : ml_V p l e rm_X1_answer s m args below meth c (MQ below (ml_Qi I32 base D cA n Q) args s 0 0 (ml_A base)) base D cA 0 0 n n σ (F0 m 31 ls []) := by
  unfold f_X1_answer_u31 at hw
  refine ml_iconst (pc := 31) X dX1_answer_31 ?_
  exact u_X1_answer_32 X hn σ (-1) ⟨by decide, by decide⟩ _ (lv_sub hl [] rfl) hw
set_option maxRecDepth 100000 in
set_option maxHeartbeats 4000000 in
theorem u_X1_answer_0 {p : Program} {e : Env} {s : State} {m : MethodId} {args : Array Value} {below : List Frame} {meth : Method} {c : Code} {base : Nat} {D : va_G} {cA : Nat → ClassId} {n : Nat} {l : Launch} {Q : Int → ml_St → Prop} (X : ml_X p s m c meth args D cA cX1_answer 2 RX1 (some .int)) (hn : 214 ≤ n) (σ : ml_St) (x1 : Int) (h_x1 : I32 x1) (ls : Array Slot) (hl : lv_has ls 2 [(0, .ref (base + (70 : Int).toNat)), (1, .int (Int32.ofInt x1))]) (hw : f_X1_answer_u0 Q σ x1) : ml_V p l e rm_X1_answer s m args below meth c (MQ below (ml_Qi I32 base D cA n Q) args s 0 0 (ml_A base)) base D cA 0 0 n n σ (F0 m 0 ls []) := by
  unfold f_X1_answer_u0 at hw
  refine ml_iload_n (pc := 0) X hl 1 rfl rfl dX1_answer_0 ?_
  refine ml_iconst (pc := 1) X dX1_answer_1 ?_
  refine ml_icmp_ne (pc := 2) (tgt := 10) X h_x1 ⟨by decide, by decide⟩ dX1_answer_2 (by decide) (fun c1 => ?_) (fun c1 => ?_)
  · have hw := hw.1 c1
    refine ml_iload_n (pc := 10) X hl 1 rfl rfl dX1_answer_10 ?_
    refine ml_if_lt (pc := 11) (tgt := 31) X h_x1 dX1_answer_11 (by decide) (fun c2 => ?_) (fun c2 => ?_)
    · have hw := hw.1 c2
      exact u_X1_answer_31 X hn σ   _ (lv_sub hl [] rfl) hw
    · have hw := hw.2 c2
      refine ml_iload_n (pc := 14) X hl 1 rfl rfl dX1_answer_14 ?_
      refine ml_aload_n (pc := 15) X hl 0 rfl rfl dX1_answer_15 ?_
      refine gf_X1_30 (pc := 16) X (ml_c70 hn) dX1_answer_16 (fun r3 => ?_)
      have hw := hw r3
      refine ml_icmp_ge (pc := 19) (tgt := 31) X h_x1 r3 dX1_answer_19 (by decide) (fun c4 => ?_) (fun c4 => ?_)
      · have hw := hw.1 c4
        exact u_X1_answer_31 X hn σ   _ (lv_sub hl [] rfl) hw
      · have hw := hw.2 c4
        refine ml_aload_n (pc := 22) X hl 0 rfl rfl dX1_answer_22 ?_
        refine gf_X1_23 (pc := 23) X (ml_c70 hn) dX1_answer_23 ?_
        refine ml_iload_n (pc := 26) X hl 1 rfl rfl dX1_answer_26 ?_
        obtain ⟨a5, b5, hw⟩ := hw
        refine ml_iald (pc := 27) (N := 2838) X (ml_c74 hn) a5 b5 dX1_answer_27 (fun r5 => ?_)
        have hw := hw r5
        refine ml_goto (pc := 28) (tgt := 32) X dX1_answer_28 (by decide) ?_
        exact u_X1_answer_32 X hn σ (σ 74 x1) r5 _ (lv_sub hl [] rfl) hw
  · have hw := hw.2 c1
    refine ml_aload_n (pc := 5) X hl 0 rfl rfl dX1_answer_5 ?_
    refine gf_X1_30 (pc := 6) X (ml_c70 hn) dX1_answer_6 (fun r6 => ?_)
    have hw := hw r6
    exact ml_iret (pc := 9) X r6 hw dX1_answer_9
set_option maxRecDepth 100000 in
theorem c_X1_answer (l : Launch) (base : Nat) (D : va_G) (cA : Nat → ClassId) (n : Nat) (hn : 214 ≤ n) (σ : ml_St) (x1 : Int) (h_x1 : I32 x1) (Q : Int → ml_St → Prop) (hw : f_X1_answer σ x1 Q) : Met l yX1_answer (Cond.code yX1_answer cX1_answer 2 (some .int) :: ml_T) rm_X1_answer (va_Pc [.ref (base + (70 : Int).toNat), .int (Int32.ofInt x1)] (ml_U base D cA n σ)) (ml_Qi I32 base D cA n Q) 0 0 (ml_A base) := by
  refine Met.ofW (cc := cX1_answer) (maxL := 2) (ret := (some .int)) (by decide) rfl ?_
  intro p e s m args below meth c s₁ B hml hv
  obtain ⟨rfl, hP, hK, hok, hro⟩ := hv
  have X : ml_X p s m c meth _ D cA cX1_answer 2 RX1 (some .int) := ⟨B.exec, B.bytes, hml, findClass_of_methodNamed B.named, fun w hw => atoms_spec (ws := Cond.code yX1_answer cX1_answer 2 (some .int) :: ml_T) B.pre w (List.mem_cons_of_mem _ hw), hK, B.notSynchronized, B.returns⟩
  have hl := lv_entry [.ref (base + (70 : Int).toNat), .int (Int32.ofInt x1)] (n := 2) (Nat.le_of_ble_eq_true rfl)
  rw [lg_entry_eq]
  generalize (lg_sl [.ref (base + (70 : Int).toNat), .int (Int32.ofInt x1)] ++ List.replicate (2 - (lg_sl [.ref (base + (70 : Int).toNat), .int (Int32.ofInt x1)]).length) Slot.unset).toArray = ls at hl ⊢
  have hl : lv_has ls 2 [(0, .ref (base + (70 : Int).toNat)), (1, .int (Int32.ofInt x1))] := hl
  unfold f_X1_answer at hw
  exact u_X1_answer_0 X hn σ x1 h_x1 _ (lv_sub hl [0, 1] rfl) hw s.heap [] hP va_S.rf hok hro
theorem dX1_traceBack_0 : decode cX1_traceBack 0 = .ok (.aload_n 0, 1) := by decide +kernel
theorem dX1_traceBack_1 : decode cX1_traceBack 1 = .ok (.iconst 0, 1) := by decide +kernel
theorem dX1_traceBack_2 : decode cX1_traceBack 2 = .ok (.putfield 30, 3) := by decide +kernel
theorem dX1_traceBack_5 : decode cX1_traceBack 5 = .ok (.iload_n 1, 1) := by decide +kernel
theorem dX1_traceBack_6 : decode cX1_traceBack 6 = .ok (.istore_n 2, 1) := by decide +kernel
theorem dX1_traceBack_7 : decode cX1_traceBack 7 = .ok (.iload_n 2, 1) := by decide +kernel
theorem dX1_traceBack_8 : decode cX1_traceBack 8 = .ok (.ifCond .eq 33, 3) := by decide +kernel
theorem dX1_traceBack_11 : decode cX1_traceBack 11 = .ok (.aload_n 0, 1) := by decide +kernel
theorem dX1_traceBack_12 : decode cX1_traceBack 12 = .ok (.getfield 30, 3) := by decide +kernel
theorem dX1_traceBack_15 : decode cX1_traceBack 15 = .ok (.sipush 2838, 3) := by decide +kernel
theorem dX1_traceBack_18 : decode cX1_traceBack 18 = .ok (.if_icmp .ge 23, 3) := by decide +kernel
theorem dX1_traceBack_21 : decode cX1_traceBack 21 = .ok (.aload_n 0, 1) := by decide +kernel
theorem dX1_traceBack_22 : decode cX1_traceBack 22 = .ok (.dup, 1) := by decide +kernel
theorem dX1_traceBack_23 : decode cX1_traceBack 23 = .ok (.getfield 30, 3) := by decide +kernel
theorem dX1_traceBack_26 : decode cX1_traceBack 26 = .ok (.iconst 1, 1) := by decide +kernel
theorem dX1_traceBack_27 : decode cX1_traceBack 27 = .ok (.iadd, 1) := by decide +kernel
theorem dX1_traceBack_28 : decode cX1_traceBack 28 = .ok (.putfield 30, 3) := by decide +kernel
theorem dX1_traceBack_31 : decode cX1_traceBack 31 = .ok (.aload_n 0, 1) := by decide +kernel
theorem dX1_traceBack_32 : decode cX1_traceBack 32 = .ok (.getfield 17, 3) := by decide +kernel
theorem dX1_traceBack_35 : decode cX1_traceBack 35 = .ok (.iload_n 2, 1) := by decide +kernel
theorem dX1_traceBack_36 : decode cX1_traceBack 36 = .ok (.iaload, 1) := by decide +kernel
theorem dX1_traceBack_37 : decode cX1_traceBack 37 = .ok (.istore_n 2, 1) := by decide +kernel
theorem dX1_traceBack_38 : decode cX1_traceBack 38 = .ok (.goto (-31), 3) := by decide +kernel
theorem dX1_traceBack_41 : decode cX1_traceBack 41 = .ok (.iload_n 1, 1) := by decide +kernel
theorem dX1_traceBack_42 : decode cX1_traceBack 42 = .ok (.istore_n 2, 1) := by decide +kernel
theorem dX1_traceBack_43 : decode cX1_traceBack 43 = .ok (.aload_n 0, 1) := by decide +kernel
theorem dX1_traceBack_44 : decode cX1_traceBack 44 = .ok (.getfield 30, 3) := by decide +kernel
theorem dX1_traceBack_47 : decode cX1_traceBack 47 = .ok (.iconst 1, 1) := by decide +kernel
theorem dX1_traceBack_48 : decode cX1_traceBack 48 = .ok (.isub, 1) := by decide +kernel
theorem dX1_traceBack_49 : decode cX1_traceBack 49 = .ok (.istore_n 3, 1) := by decide +kernel
theorem dX1_traceBack_50 : decode cX1_traceBack 50 = .ok (.iload_n 3, 1) := by decide +kernel
theorem dX1_traceBack_51 : decode cX1_traceBack 51 = .ok (.ifCond .lt 28, 3) := by decide +kernel
theorem dX1_traceBack_54 : decode cX1_traceBack 54 = .ok (.aload_n 0, 1) := by decide +kernel
theorem dX1_traceBack_55 : decode cX1_traceBack 55 = .ok (.getfield 23, 3) := by decide +kernel
theorem dX1_traceBack_58 : decode cX1_traceBack 58 = .ok (.iload_n 3, 1) := by decide +kernel
theorem dX1_traceBack_59 : decode cX1_traceBack 59 = .ok (.aload_n 0, 1) := by decide +kernel
theorem dX1_traceBack_60 : decode cX1_traceBack 60 = .ok (.getfield 20, 3) := by decide +kernel
theorem dX1_traceBack_63 : decode cX1_traceBack 63 = .ok (.iload_n 2, 1) := by decide +kernel
theorem dX1_traceBack_64 : decode cX1_traceBack 64 = .ok (.iaload, 1) := by decide +kernel
theorem dX1_traceBack_65 : decode cX1_traceBack 65 = .ok (.iastore, 1) := by decide +kernel
theorem dX1_traceBack_66 : decode cX1_traceBack 66 = .ok (.aload_n 0, 1) := by decide +kernel
theorem dX1_traceBack_67 : decode cX1_traceBack 67 = .ok (.getfield 17, 3) := by decide +kernel
theorem dX1_traceBack_70 : decode cX1_traceBack 70 = .ok (.iload_n 2, 1) := by decide +kernel
theorem dX1_traceBack_71 : decode cX1_traceBack 71 = .ok (.iaload, 1) := by decide +kernel
theorem dX1_traceBack_72 : decode cX1_traceBack 72 = .ok (.istore_n 2, 1) := by decide +kernel
theorem dX1_traceBack_73 : decode cX1_traceBack 73 = .ok (.iinc 3 (-1), 3) := by decide +kernel
theorem dX1_traceBack_76 : decode cX1_traceBack 76 = .ok (.goto (-26), 3) := by decide +kernel
theorem dX1_traceBack_79 : decode cX1_traceBack 79 = .ok (.return_, 1) := by decide +kernel
def f_X1_traceBack_u7 (Q : ml_St → Prop) (K41 : ml_St → Int → Prop) : Nat → ml_St → Int → Int → Prop
| 0, _, _, _ => False
| N + 1, σ, x1, x2 =>
(x2 = 0 →
K41 σ x1) ∧
(x2 ≠ 0 →
∀ _ : I32 (σ 70 5),
(2838 ≤ ((σ 70 5) : Int) →
K41 σ x1) ∧
(¬ (2838 ≤ ((σ 70 5) : Int)) →
∀ _ : I32 (σ 70 5),
I32 ((σ 70 5) + 1) ∧
∀ σ6, σ6 = ml_up σ 70 5 ((σ 70 5) + 1) →
(0 : Int) ≤ x2 ∧ (x2 : Int) < 2838 ∧
∀ _ : I32 (σ6 72 x2),
∀ y8 : Int, y8 = σ6 72 x2 →
f_X1_traceBack_u7 Q K41 N σ6 x1 y8))
def f_X1_traceBack_u50 (Q : ml_St → Prop) (K79 : ml_St → Prop) : Nat → ml_St → Int → Int → Prop
| 0, _, _, _ => False
| N + 1, σ, x2, x3 =>
(x3 < 0 →
K79 σ) ∧
(¬ (x3 < 0) →
(0 : Int) ≤ x2 ∧ (x2 : Int) < 2838 ∧
∀ _ : I32 (σ 73 x2),
(0 : Int) ≤ x3 ∧ (x3 : Int) < 2838 ∧
∀ σ3, σ3 = ml_up σ 74 x3 (σ 73 x2) →
(0 : Int) ≤ x2 ∧ (x2 : Int) < 2838 ∧
∀ _ : I32 (σ3 72 x2),
∀ y5 : Int, y5 = σ3 72 x2 →
I32 (x3 + (-1)) ∧
∀ y6 : Int, y6 = x3 + (-1) →
f_X1_traceBack_u50 Q K79 N σ3 y5 y6)
def f_X1_traceBack_u79 (Q : ml_St → Prop) (σ : ml_St) : Prop :=
Q σ
def f_X1_traceBack_u41 (Q : ml_St → Prop) (σ : ml_St) (x1 : Int) : Prop :=
∀ _ : I32 (σ 70 5),
I32 ((σ 70 5) - 1) ∧
∀ y3 : Int, y3 = (σ 70 5) - 1 →
∃ N1, f_X1_traceBack_u50 Q (f_X1_traceBack_u79 Q) N1 σ x1 y3
def f_X1_traceBack_u0 (Q : ml_St → Prop) (σ : ml_St) (x1 : Int) : Prop :=
∀ σ1, σ1 = ml_up σ 70 5 0 →
∃ N1, f_X1_traceBack_u7 Q (f_X1_traceBack_u41 Q) N1 σ1 x1 x1
def f_X1_traceBack (σ : ml_St) (x1 : Int) (Q : ml_St → Prop) : Prop := f_X1_traceBack_u0 Q σ x1
def rm_X1_traceBack : Room := { frames := 0, cells := 0, slots := 0, locals := 0 }
set_option maxRecDepth 100000 in
set_option maxHeartbeats 4000000 in
theorem u_X1_traceBack_7 {p : Program} {e : Env} {s : State} {m : MethodId} {args : Array Value} {below : List Frame} {meth : Method} {c : Code} {base : Nat} {D : va_G} {cA : Nat → ClassId} {n : Nat} {l : Launch} {Q : ml_St → Prop} {K41 : ml_St → Int → Prop} (X : ml_X p s m c meth args D cA cX1_traceBack 4 RX1 none) (hn : 214 ≤ n) (hK41 : ∀ (σ : ml_St) (x1 : Int) (h_x1 : I32 x1) (ls : Array Slot), lv_has ls 4 [(0, .ref (base + (70 : Int).toNat)), (1, .int (Int32.ofInt x1))] → K41 σ x1 → ml_V p l e rm_X1_traceBack s m args below meth c (MQ below (ml_Qv base D cA n Q) args s 0 0 (ml_A base)) base D cA 0 0 n n σ (F0 m 41 ls [])) : ∀ (N : Nat) (σ : ml_St) (x1 : Int) (x2 : Int) (h_x1 : I32 x1) (h_x2 : I32 x2) (ls : Array Slot), lv_has ls 4 [(0, .ref (base + (70 : Int).toNat)), (1, .int (Int32.ofInt x1)), (2, .int (Int32.ofInt x2))] → f_X1_traceBack_u7 Q K41 N σ x1 x2 → ml_V p l e rm_X1_traceBack s m args below meth c (MQ below (ml_Qv base D cA n Q) args s 0 0 (ml_A base)) base D cA 0 0 n n σ (F0 m 7 ls []) := by
  intro N
  induction N with
  | zero => intro σ x1 x2 h_x1 h_x2 ls hl hw; exact False.elim hw
  | succ N ih =>
    intro σ x1 x2 h_x1 h_x2 ls hl hw
    unfold f_X1_traceBack_u7 at hw
    refine ml_iload_n (pc := 7) X hl 2 rfl rfl dX1_traceBack_7 ?_
    refine ml_if_eq (pc := 8) (tgt := 41) X h_x2 dX1_traceBack_8 (by decide) (fun c1 => ?_) (fun c1 => ?_)
    · have hw := hw.1 c1
      exact hK41 σ x1 h_x1 _ (lv_sub hl [0, 1] rfl) hw
    · have hw := hw.2 c1
      refine ml_aload_n (pc := 11) X hl 0 rfl rfl dX1_traceBack_11 ?_
      refine gf_X1_30 (pc := 12) X (ml_c70 hn) dX1_traceBack_12 (fun r2 => ?_)
      have hw := hw r2
      refine ml_sipush (pc := 15) X dX1_traceBack_15 (by decide) ?_
      refine ml_icmp_ge (pc := 18) (tgt := 41) X r2 ⟨by decide, by decide⟩ dX1_traceBack_18 (by decide) (fun c3 => ?_) (fun c3 => ?_)
      · have hw := hw.1 c3
        exact hK41 σ x1 h_x1 _ (lv_sub hl [0, 1] rfl) hw
      · have hw := hw.2 c3
        refine ml_aload_n (pc := 21) X hl 0 rfl rfl dX1_traceBack_21 ?_
        refine ml_dup (pc := 22) X dX1_traceBack_22 rfl ?_
        refine gf_X1_30 (pc := 23) X (ml_c70 hn) dX1_traceBack_23 (fun r4 => ?_)
        have hw := hw r4
        refine ml_iconst (pc := 26) X dX1_traceBack_26 ?_
        obtain ⟨v5, hw⟩ := hw
        refine ml_iadd (pc := 27) X dX1_traceBack_27 ?_
        refine pf_X1_30 (pc := 28) X (ml_c70 hn) v5 dX1_traceBack_28 (fun σ6 g6 => ?_)
        have hw := hw σ6 g6
        refine ml_aload_n (pc := 31) X hl 0 rfl rfl dX1_traceBack_31 ?_
        refine gf_X1_17 (pc := 32) X (ml_c70 hn) dX1_traceBack_32 ?_
        refine ml_iload_n (pc := 35) X hl 2 rfl rfl dX1_traceBack_35 ?_
        obtain ⟨a7, b7, hw⟩ := hw
        refine ml_iald (pc := 36) (N := 2838) X (ml_c72 hn) a7 b7 dX1_traceBack_36 (fun r7 => ?_)
        have hw := hw r7
        refine ml_topI (pc := 37) (fun y8 e8 => ?_)
        have hw := hw y8 e8
        have q8 : I32 y8 := by rw [e8]; exact r7
        refine ml_istore_n (pc := 37) X rfl hl (by decide) (lst' := [(2, .int (Int32.ofInt y8)), (0, .ref (base + (70 : Int).toNat)), (1, .int (Int32.ofInt x1))]) rfl dX1_traceBack_37 (fun ls hl => ?_)
        refine ml_goto (pc := 38) (tgt := 7) X dX1_traceBack_38 (by decide) ?_
        exact ih σ6 x1 y8 h_x1 q8 _ (lv_sub hl [1, 2, 0] rfl) hw
set_option maxRecDepth 100000 in
set_option maxHeartbeats 4000000 in
theorem u_X1_traceBack_50 {p : Program} {e : Env} {s : State} {m : MethodId} {args : Array Value} {below : List Frame} {meth : Method} {c : Code} {base : Nat} {D : va_G} {cA : Nat → ClassId} {n : Nat} {l : Launch} {Q : ml_St → Prop} {K79 : ml_St → Prop} (X : ml_X p s m c meth args D cA cX1_traceBack 4 RX1 none) (hn : 214 ≤ n) (hK79 : ∀ (σ : ml_St) (ls : Array Slot), lv_has ls 4 [] → K79 σ → ml_V p l e rm_X1_traceBack s m args below meth c (MQ below (ml_Qv base D cA n Q) args s 0 0 (ml_A base)) base D cA 0 0 n n σ (F0 m 79 ls [])) : ∀ (N : Nat) (σ : ml_St) (x2 : Int) (x3 : Int) (h_x2 : I32 x2) (h_x3 : I32 x3) (ls : Array Slot), lv_has ls 4 [(0, .ref (base + (70 : Int).toNat)), (2, .int (Int32.ofInt x2)), (3, .int (Int32.ofInt x3))] → f_X1_traceBack_u50 Q K79 N σ x2 x3 → ml_V p l e rm_X1_traceBack s m args below meth c (MQ below (ml_Qv base D cA n Q) args s 0 0 (ml_A base)) base D cA 0 0 n n σ (F0 m 50 ls []) := by
  intro N
  induction N with
  | zero => intro σ x2 x3 h_x2 h_x3 ls hl hw; exact False.elim hw
  | succ N ih =>
    intro σ x2 x3 h_x2 h_x3 ls hl hw
    unfold f_X1_traceBack_u50 at hw
    refine ml_iload_n (pc := 50) X hl 2 rfl rfl dX1_traceBack_50 ?_
    refine ml_if_lt (pc := 51) (tgt := 79) X h_x3 dX1_traceBack_51 (by decide) (fun c1 => ?_) (fun c1 => ?_)
    · have hw := hw.1 c1
      exact hK79 σ   _ (lv_sub hl [] rfl) hw
    · have hw := hw.2 c1
      refine ml_aload_n (pc := 54) X hl 0 rfl rfl dX1_traceBack_54 ?_
      refine gf_X1_23 (pc := 55) X (ml_c70 hn) dX1_traceBack_55 ?_
      refine ml_iload_n (pc := 58) X hl 2 rfl rfl dX1_traceBack_58 ?_
      refine ml_aload_n (pc := 59) X hl 0 rfl rfl dX1_traceBack_59 ?_
      refine gf_X1_20 (pc := 60) X (ml_c70 hn) dX1_traceBack_60 ?_
      refine ml_iload_n (pc := 63) X hl 1 rfl rfl dX1_traceBack_63 ?_
      obtain ⟨a2, b2, hw⟩ := hw
      refine ml_iald (pc := 64) (N := 2838) X (ml_c73 hn) a2 b2 dX1_traceBack_64 (fun r2 => ?_)
      have hw := hw r2
      obtain ⟨a3, b3, hw⟩ := hw
      refine ml_iast (pc := 65) (N := 2838) X (ml_c74 hn) a3 b3 r2 dX1_traceBack_65 (fun σ3 g3 => ?_)
      have hw := hw σ3 g3
      refine ml_aload_n (pc := 66) X hl 0 rfl rfl dX1_traceBack_66 ?_
      refine gf_X1_17 (pc := 67) X (ml_c70 hn) dX1_traceBack_67 ?_
      refine ml_iload_n (pc := 70) X hl 1 rfl rfl dX1_traceBack_70 ?_
      obtain ⟨a4, b4, hw⟩ := hw
      refine ml_iald (pc := 71) (N := 2838) X (ml_c72 hn) a4 b4 dX1_traceBack_71 (fun r4 => ?_)
      have hw := hw r4
      refine ml_topI (pc := 72) (fun y5 e5 => ?_)
      have hw := hw y5 e5
      have q5 : I32 y5 := by rw [e5]; exact r4
      refine ml_istore_n (pc := 72) X rfl hl (by decide) (lst' := [(2, .int (Int32.ofInt y5)), (0, .ref (base + (70 : Int).toNat)), (3, .int (Int32.ofInt x3))]) rfl dX1_traceBack_72 (fun ls hl => ?_)
      obtain ⟨v6, hw⟩ := hw
      obtain ⟨y6, e6⟩ : ∃ y : Int, y = x3 + (-1) := ⟨_, rfl⟩
      have hw := hw y6 e6
      rw [← e6] at v6
      refine ml_iinc (pc := 73) X e6 hl 2 rfl (by decide) (lst' := [(3, .int (Int32.ofInt y6)), (2, .int (Int32.ofInt y5)), (0, .ref (base + (70 : Int).toNat))]) rfl dX1_traceBack_73 (fun ls hl => ?_)
      refine ml_goto (pc := 76) (tgt := 50) X dX1_traceBack_76 (by decide) ?_
      exact ih σ3 y5 y6 q5 v6 _ (lv_sub hl [2, 1, 0] rfl) hw
set_option maxRecDepth 100000 in
set_option maxHeartbeats 4000000 in
theorem u_X1_traceBack_79 {p : Program} {e : Env} {s : State} {m : MethodId} {args : Array Value} {below : List Frame} {meth : Method} {c : Code} {base : Nat} {D : va_G} {cA : Nat → ClassId} {n : Nat} {l : Launch} {Q : ml_St → Prop} (X : ml_X p s m c meth args D cA cX1_traceBack 4 RX1 none) (hn : 214 ≤ n) (σ : ml_St) (ls : Array Slot) (hl : lv_has ls 4 []) (hw : f_X1_traceBack_u79 Q σ) : ml_V p l e rm_X1_traceBack s m args below meth c (MQ below (ml_Qv base D cA n Q) args s 0 0 (ml_A base)) base D cA 0 0 n n σ (F0 m 79 ls []) := by
  unfold f_X1_traceBack_u79 at hw
  exact ml_vret (pc := 79) X hw dX1_traceBack_79
set_option maxRecDepth 100000 in
set_option maxHeartbeats 4000000 in
theorem u_X1_traceBack_41 {p : Program} {e : Env} {s : State} {m : MethodId} {args : Array Value} {below : List Frame} {meth : Method} {c : Code} {base : Nat} {D : va_G} {cA : Nat → ClassId} {n : Nat} {l : Launch} {Q : ml_St → Prop} (X : ml_X p s m c meth args D cA cX1_traceBack 4 RX1 none) (hn : 214 ≤ n) (σ : ml_St) (x1 : Int) (h_x1 : I32 x1) (ls : Array Slot) (hl : lv_has ls 4 [(0, .ref (base + (70 : Int).toNat)), (1, .int (Int32.ofInt x1))]) (hw : f_X1_traceBack_u41 Q σ x1) : ml_V p l e rm_X1_traceBack s m args below meth c (MQ below (ml_Qv base D cA n Q) args s 0 0 (ml_A base)) base D cA 0 0 n n σ (F0 m 41 ls []) := by
  unfold f_X1_traceBack_u41 at hw
  refine ml_iload_n (pc := 41) X hl 1 rfl rfl dX1_traceBack_41 ?_
  refine ml_istore_n (pc := 42) X rfl hl (by decide) (lst' := [(2, .int (Int32.ofInt x1)), (0, .ref (base + (70 : Int).toNat)), (1, .int (Int32.ofInt x1))]) rfl dX1_traceBack_42 (fun ls hl => ?_)
  refine ml_aload_n (pc := 43) X hl 1 rfl rfl dX1_traceBack_43 ?_
  refine gf_X1_30 (pc := 44) X (ml_c70 hn) dX1_traceBack_44 (fun r1 => ?_)
  have hw := hw r1
  refine ml_iconst (pc := 47) X dX1_traceBack_47 ?_
  obtain ⟨v2, hw⟩ := hw
  refine ml_isub (pc := 48) X dX1_traceBack_48 ?_
  refine ml_topI (pc := 49) (fun y3 e3 => ?_)
  have hw := hw y3 e3
  have q3 : I32 y3 := by rw [e3]; exact v2
  refine ml_istore_n (pc := 49) X rfl hl (by decide) (lst' := [(3, .int (Int32.ofInt y3)), (2, .int (Int32.ofInt x1)), (0, .ref (base + (70 : Int).toNat)), (1, .int (Int32.ofInt x1))]) rfl dX1_traceBack_49 (fun ls hl => ?_)
  obtain ⟨N0, hw⟩ := hw
  exact u_X1_traceBack_50 X hn (fun σ   ls hl hw => u_X1_traceBack_79 X hn σ   ls hl hw) N0 σ x1 y3 h_x1 q3 _ (lv_sub hl [2, 1, 0] rfl) hw
set_option maxRecDepth 100000 in
set_option maxHeartbeats 4000000 in
theorem u_X1_traceBack_0 {p : Program} {e : Env} {s : State} {m : MethodId} {args : Array Value} {below : List Frame} {meth : Method} {c : Code} {base : Nat} {D : va_G} {cA : Nat → ClassId} {n : Nat} {l : Launch} {Q : ml_St → Prop} (X : ml_X p s m c meth args D cA cX1_traceBack 4 RX1 none) (hn : 214 ≤ n) (σ : ml_St) (x1 : Int) (h_x1 : I32 x1) (ls : Array Slot) (hl : lv_has ls 4 [(0, .ref (base + (70 : Int).toNat)), (1, .int (Int32.ofInt x1))]) (hw : f_X1_traceBack_u0 Q σ x1) : ml_V p l e rm_X1_traceBack s m args below meth c (MQ below (ml_Qv base D cA n Q) args s 0 0 (ml_A base)) base D cA 0 0 n n σ (F0 m 0 ls []) := by
  unfold f_X1_traceBack_u0 at hw
  refine ml_aload_n (pc := 0) X hl 0 rfl rfl dX1_traceBack_0 ?_
  refine ml_iconst (pc := 1) X dX1_traceBack_1 ?_
  refine pf_X1_30 (pc := 2) X (ml_c70 hn) ⟨by decide, by decide⟩ dX1_traceBack_2 (fun σ1 g1 => ?_)
  have hw := hw σ1 g1
  refine ml_iload_n (pc := 5) X hl 1 rfl rfl dX1_traceBack_5 ?_
  refine ml_istore_n (pc := 6) X rfl hl (by decide) (lst' := [(2, .int (Int32.ofInt x1)), (0, .ref (base + (70 : Int).toNat)), (1, .int (Int32.ofInt x1))]) rfl dX1_traceBack_6 (fun ls hl => ?_)
  obtain ⟨N0, hw⟩ := hw
  exact u_X1_traceBack_7 X hn (fun σ x1 h_x1 ls hl hw => u_X1_traceBack_41 X hn σ x1 h_x1 ls hl hw) N0 σ1 x1 x1 h_x1 h_x1 _ (lv_sub hl [1, 2, 0] rfl) hw
set_option maxRecDepth 100000 in
theorem c_X1_traceBack (l : Launch) (base : Nat) (D : va_G) (cA : Nat → ClassId) (n : Nat) (hn : 214 ≤ n) (σ : ml_St) (x1 : Int) (h_x1 : I32 x1) (Q : ml_St → Prop) (hw : f_X1_traceBack σ x1 Q) : Met l yX1_traceBack (Cond.code yX1_traceBack cX1_traceBack 4 none :: ml_T) rm_X1_traceBack (va_Pc [.ref (base + (70 : Int).toNat), .int (Int32.ofInt x1)] (ml_U base D cA n σ)) (ml_Qv base D cA n Q) 0 0 (ml_A base) := by
  refine Met.ofW (cc := cX1_traceBack) (maxL := 4) (ret := none) (by decide) rfl ?_
  intro p e s m args below meth c s₁ B hml hv
  obtain ⟨rfl, hP, hK, hok, hro⟩ := hv
  have X : ml_X p s m c meth _ D cA cX1_traceBack 4 RX1 none := ⟨B.exec, B.bytes, hml, findClass_of_methodNamed B.named, fun w hw => atoms_spec (ws := Cond.code yX1_traceBack cX1_traceBack 4 none :: ml_T) B.pre w (List.mem_cons_of_mem _ hw), hK, B.notSynchronized, B.returns⟩
  have hl := lv_entry [.ref (base + (70 : Int).toNat), .int (Int32.ofInt x1)] (n := 4) (Nat.le_of_ble_eq_true rfl)
  rw [lg_entry_eq]
  generalize (lg_sl [.ref (base + (70 : Int).toNat), .int (Int32.ofInt x1)] ++ List.replicate (4 - (lg_sl [.ref (base + (70 : Int).toNat), .int (Int32.ofInt x1)]).length) Slot.unset).toArray = ls at hl ⊢
  have hl : lv_has ls 4 [(0, .ref (base + (70 : Int).toNat)), (1, .int (Int32.ofInt x1))] := hl
  unfold f_X1_traceBack at hw
  exact u_X1_traceBack_0 X hn σ x1 h_x1 _ (lv_sub hl [0, 1] rfl) hw s.heap [] hP va_S.rf hok hro
theorem dX1_findShortest_0 : decode cX1_findShortest 0 = .ok (.aload_n 0, 1) := by decide +kernel
theorem dX1_findShortest_1 : decode cX1_findShortest 1 = .ok (.iconst (-1), 1) := by decide +kernel
theorem dX1_findShortest_2 : decode cX1_findShortest 2 = .ok (.putfield 30, 3) := by decide +kernel
theorem dX1_findShortest_5 : decode cX1_findShortest 5 = .ok (.aload_n 0, 1) := by decide +kernel
theorem dX1_findShortest_6 : decode cX1_findShortest 6 = .ok (.getfield 17, 3) := by decide +kernel
theorem dX1_findShortest_9 : decode cX1_findShortest 9 = .ok (.iconst (-1), 1) := by decide +kernel
theorem dX1_findShortest_10 : decode cX1_findShortest 10 = .ok (.invokestatic 37, 3) := by decide +kernel
theorem dX1_findShortest_13 : decode cX1_findShortest 13 = .ok (.aload_n 0, 1) := by decide +kernel
theorem dX1_findShortest_14 : decode cX1_findShortest 14 = .ok (.getfield 17, 3) := by decide +kernel
theorem dX1_findShortest_17 : decode cX1_findShortest 17 = .ok (.iconst 0, 1) := by decide +kernel
theorem dX1_findShortest_18 : decode cX1_findShortest 18 = .ok (.iconst 0, 1) := by decide +kernel
theorem dX1_findShortest_19 : decode cX1_findShortest 19 = .ok (.iastore, 1) := by decide +kernel
theorem dX1_findShortest_20 : decode cX1_findShortest 20 = .ok (.aload_n 0, 1) := by decide +kernel
theorem dX1_findShortest_21 : decode cX1_findShortest 21 = .ok (.getfield 13, 3) := by decide +kernel
theorem dX1_findShortest_24 : decode cX1_findShortest 24 = .ok (.iconst 0, 1) := by decide +kernel
theorem dX1_findShortest_25 : decode cX1_findShortest 25 = .ok (.iconst 0, 1) := by decide +kernel
theorem dX1_findShortest_26 : decode cX1_findShortest 26 = .ok (.iastore, 1) := by decide +kernel
theorem dX1_findShortest_27 : decode cX1_findShortest 27 = .ok (.iconst 1, 1) := by decide +kernel
theorem dX1_findShortest_28 : decode cX1_findShortest 28 = .ok (.istore_n 3, 1) := by decide +kernel
theorem dX1_findShortest_29 : decode cX1_findShortest 29 = .ok (.iconst 0, 1) := by decide +kernel
theorem dX1_findShortest_30 : decode cX1_findShortest 30 = .ok (.istore 4, 2) := by decide +kernel
theorem dX1_findShortest_32 : decode cX1_findShortest 32 = .ok (.iload 4, 2) := by decide +kernel
theorem dX1_findShortest_34 : decode cX1_findShortest 34 = .ok (.iload_n 3, 1) := by decide +kernel
theorem dX1_findShortest_35 : decode cX1_findShortest 35 = .ok (.if_icmp .ge 180, 3) := by decide +kernel
theorem dX1_findShortest_38 : decode cX1_findShortest 38 = .ok (.iload 4, 2) := by decide +kernel
theorem dX1_findShortest_40 : decode cX1_findShortest 40 = .ok (.sipush 2838, 3) := by decide +kernel
theorem dX1_findShortest_43 : decode cX1_findShortest 43 = .ok (.if_icmp .ge 172, 3) := by decide +kernel
theorem dX1_findShortest_46 : decode cX1_findShortest 46 = .ok (.aload_n 0, 1) := by decide +kernel
theorem dX1_findShortest_47 : decode cX1_findShortest 47 = .ok (.getfield 30, 3) := by decide +kernel
theorem dX1_findShortest_50 : decode cX1_findShortest 50 = .ok (.iconst (-1), 1) := by decide +kernel
theorem dX1_findShortest_51 : decode cX1_findShortest 51 = .ok (.if_icmp .ne 164, 3) := by decide +kernel
theorem dX1_findShortest_54 : decode cX1_findShortest 54 = .ok (.aload_n 0, 1) := by decide +kernel
theorem dX1_findShortest_55 : decode cX1_findShortest 55 = .ok (.getfield 13, 3) := by decide +kernel
theorem dX1_findShortest_58 : decode cX1_findShortest 58 = .ok (.iload 4, 2) := by decide +kernel
theorem dX1_findShortest_60 : decode cX1_findShortest 60 = .ok (.iaload, 1) := by decide +kernel
theorem dX1_findShortest_61 : decode cX1_findShortest 61 = .ok (.istore 5, 2) := by decide +kernel
theorem dX1_findShortest_63 : decode cX1_findShortest 63 = .ok (.iload 5, 2) := by decide +kernel
theorem dX1_findShortest_65 : decode cX1_findShortest 65 = .ok (.iconst 3, 1) := by decide +kernel
theorem dX1_findShortest_66 : decode cX1_findShortest 66 = .ok (.idiv, 1) := by decide +kernel
theorem dX1_findShortest_67 : decode cX1_findShortest 67 = .ok (.istore 6, 2) := by decide +kernel
theorem dX1_findShortest_69 : decode cX1_findShortest 69 = .ok (.iconst 0, 1) := by decide +kernel
theorem dX1_findShortest_70 : decode cX1_findShortest 70 = .ok (.istore 7, 2) := by decide +kernel
theorem dX1_findShortest_72 : decode cX1_findShortest 72 = .ok (.iload 7, 2) := by decide +kernel
theorem dX1_findShortest_74 : decode cX1_findShortest 74 = .ok (.aload_n 1, 1) := by decide +kernel
theorem dX1_findShortest_75 : decode cX1_findShortest 75 = .ok (.getfield 43, 3) := by decide +kernel
theorem dX1_findShortest_78 : decode cX1_findShortest 78 = .ok (.if_icmp .ge 131, 3) := by decide +kernel
theorem dX1_findShortest_81 : decode cX1_findShortest 81 = .ok (.aload_n 0, 1) := by decide +kernel
theorem dX1_findShortest_82 : decode cX1_findShortest 82 = .ok (.getfield 30, 3) := by decide +kernel
theorem dX1_findShortest_85 : decode cX1_findShortest 85 = .ok (.iconst (-1), 1) := by decide +kernel
theorem dX1_findShortest_86 : decode cX1_findShortest 86 = .ok (.if_icmp .ne 123, 3) := by decide +kernel
theorem dX1_findShortest_89 : decode cX1_findShortest 89 = .ok (.iload 6, 2) := by decide +kernel
theorem dX1_findShortest_91 : decode cX1_findShortest 91 = .ok (.bipush 6, 2) := by decide +kernel
theorem dX1_findShortest_93 : decode cX1_findShortest 93 = .ok (.imul, 1) := by decide +kernel
theorem dX1_findShortest_94 : decode cX1_findShortest 94 = .ok (.iload 7, 2) := by decide +kernel
theorem dX1_findShortest_96 : decode cX1_findShortest 96 = .ok (.iadd, 1) := by decide +kernel
theorem dX1_findShortest_97 : decode cX1_findShortest 97 = .ok (.istore 8, 2) := by decide +kernel
theorem dX1_findShortest_99 : decode cX1_findShortest 99 = .ok (.iload 5, 2) := by decide +kernel
theorem dX1_findShortest_101 : decode cX1_findShortest 101 = .ok (.iconst 3, 1) := by decide +kernel
theorem dX1_findShortest_102 : decode cX1_findShortest 102 = .ok (.irem, 1) := by decide +kernel
theorem dX1_findShortest_103 : decode cX1_findShortest 103 = .ok (.aload_n 1, 1) := by decide +kernel
theorem dX1_findShortest_104 : decode cX1_findShortest 104 = .ok (.getfield 46, 3) := by decide +kernel
theorem dX1_findShortest_107 : decode cX1_findShortest 107 = .ok (.iload 8, 2) := by decide +kernel
theorem dX1_findShortest_109 : decode cX1_findShortest 109 = .ok (.iaload, 1) := by decide +kernel
theorem dX1_findShortest_110 : decode cX1_findShortest 110 = .ok (.iadd, 1) := by decide +kernel
theorem dX1_findShortest_111 : decode cX1_findShortest 111 = .ok (.istore 9, 2) := by decide +kernel
theorem dX1_findShortest_113 : decode cX1_findShortest 113 = .ok (.aload_n 1, 1) := by decide +kernel
theorem dX1_findShortest_114 : decode cX1_findShortest 114 = .ok (.getfield 49, 3) := by decide +kernel
theorem dX1_findShortest_117 : decode cX1_findShortest 117 = .ok (.iload 8, 2) := by decide +kernel
theorem dX1_findShortest_119 : decode cX1_findShortest 119 = .ok (.iaload, 1) := by decide +kernel
theorem dX1_findShortest_120 : decode cX1_findShortest 120 = .ok (.iconst 3, 1) := by decide +kernel
theorem dX1_findShortest_121 : decode cX1_findShortest 121 = .ok (.imul, 1) := by decide +kernel
theorem dX1_findShortest_122 : decode cX1_findShortest 122 = .ok (.iload 9, 2) := by decide +kernel
theorem dX1_findShortest_124 : decode cX1_findShortest 124 = .ok (.iadd, 1) := by decide +kernel
theorem dX1_findShortest_125 : decode cX1_findShortest 125 = .ok (.istore 10, 2) := by decide +kernel
theorem dX1_findShortest_127 : decode cX1_findShortest 127 = .ok (.iload 9, 2) := by decide +kernel
theorem dX1_findShortest_129 : decode cX1_findShortest 129 = .ok (.iconst 3, 1) := by decide +kernel
theorem dX1_findShortest_130 : decode cX1_findShortest 130 = .ok (.if_icmp .ge 73, 3) := by decide +kernel
theorem dX1_findShortest_133 : decode cX1_findShortest 133 = .ok (.aload_n 0, 1) := by decide +kernel
theorem dX1_findShortest_134 : decode cX1_findShortest 134 = .ok (.getfield 17, 3) := by decide +kernel
theorem dX1_findShortest_137 : decode cX1_findShortest 137 = .ok (.iload 10, 2) := by decide +kernel
theorem dX1_findShortest_139 : decode cX1_findShortest 139 = .ok (.iaload, 1) := by decide +kernel
theorem dX1_findShortest_140 : decode cX1_findShortest 140 = .ok (.iconst (-1), 1) := by decide +kernel
theorem dX1_findShortest_141 : decode cX1_findShortest 141 = .ok (.if_icmp .ne 62, 3) := by decide +kernel
theorem dX1_findShortest_144 : decode cX1_findShortest 144 = .ok (.aload_n 0, 1) := by decide +kernel
theorem dX1_findShortest_145 : decode cX1_findShortest 145 = .ok (.getfield 17, 3) := by decide +kernel
theorem dX1_findShortest_148 : decode cX1_findShortest 148 = .ok (.iload 10, 2) := by decide +kernel
theorem dX1_findShortest_150 : decode cX1_findShortest 150 = .ok (.iload 5, 2) := by decide +kernel
theorem dX1_findShortest_152 : decode cX1_findShortest 152 = .ok (.iastore, 1) := by decide +kernel
theorem dX1_findShortest_153 : decode cX1_findShortest 153 = .ok (.aload_n 0, 1) := by decide +kernel
theorem dX1_findShortest_154 : decode cX1_findShortest 154 = .ok (.getfield 20, 3) := by decide +kernel
theorem dX1_findShortest_157 : decode cX1_findShortest 157 = .ok (.iload 10, 2) := by decide +kernel
theorem dX1_findShortest_159 : decode cX1_findShortest 159 = .ok (.aload_n 1, 1) := by decide +kernel
theorem dX1_findShortest_160 : decode cX1_findShortest 160 = .ok (.getfield 52, 3) := by decide +kernel
theorem dX1_findShortest_163 : decode cX1_findShortest 163 = .ok (.iload 7, 2) := by decide +kernel
theorem dX1_findShortest_165 : decode cX1_findShortest 165 = .ok (.iaload, 1) := by decide +kernel
theorem dX1_findShortest_166 : decode cX1_findShortest 166 = .ok (.iastore, 1) := by decide +kernel
theorem dX1_findShortest_167 : decode cX1_findShortest 167 = .ok (.aload_n 0, 1) := by decide +kernel
theorem dX1_findShortest_168 : decode cX1_findShortest 168 = .ok (.getfield 13, 3) := by decide +kernel
theorem dX1_findShortest_171 : decode cX1_findShortest 171 = .ok (.iload_n 3, 1) := by decide +kernel
theorem dX1_findShortest_172 : decode cX1_findShortest 172 = .ok (.iload 10, 2) := by decide +kernel
theorem dX1_findShortest_174 : decode cX1_findShortest 174 = .ok (.iastore, 1) := by decide +kernel
theorem dX1_findShortest_175 : decode cX1_findShortest 175 = .ok (.iinc 3 1, 3) := by decide +kernel
theorem dX1_findShortest_178 : decode cX1_findShortest 178 = .ok (.iload 9, 2) := by decide +kernel
theorem dX1_findShortest_180 : decode cX1_findShortest 180 = .ok (.aload_n 1, 1) := by decide +kernel
theorem dX1_findShortest_181 : decode cX1_findShortest 181 = .ok (.getfield 55, 3) := by decide +kernel
theorem dX1_findShortest_184 : decode cX1_findShortest 184 = .ok (.aload_n 1, 1) := by decide +kernel
theorem dX1_findShortest_185 : decode cX1_findShortest 185 = .ok (.getfield 49, 3) := by decide +kernel
theorem dX1_findShortest_188 : decode cX1_findShortest 188 = .ok (.iload 8, 2) := by decide +kernel
theorem dX1_findShortest_190 : decode cX1_findShortest 190 = .ok (.iaload, 1) := by decide +kernel
theorem dX1_findShortest_191 : decode cX1_findShortest 191 = .ok (.iaload, 1) := by decide +kernel
theorem dX1_findShortest_192 : decode cX1_findShortest 192 = .ok (.iadd, 1) := by decide +kernel
theorem dX1_findShortest_193 : decode cX1_findShortest 193 = .ok (.iload_n 2, 1) := by decide +kernel
theorem dX1_findShortest_194 : decode cX1_findShortest 194 = .ok (.if_icmp .ne 9, 3) := by decide +kernel
theorem dX1_findShortest_197 : decode cX1_findShortest 197 = .ok (.aload_n 0, 1) := by decide +kernel
theorem dX1_findShortest_198 : decode cX1_findShortest 198 = .ok (.iload 10, 2) := by decide +kernel
theorem dX1_findShortest_200 : decode cX1_findShortest 200 = .ok (.invokevirtual 58, 3) := by decide +kernel
theorem dX1_findShortest_203 : decode cX1_findShortest 203 = .ok (.iinc 7 1, 3) := by decide +kernel
theorem dX1_findShortest_206 : decode cX1_findShortest 206 = .ok (.goto (-134), 3) := by decide +kernel
theorem dX1_findShortest_209 : decode cX1_findShortest 209 = .ok (.iinc 4 1, 3) := by decide +kernel
theorem dX1_findShortest_212 : decode cX1_findShortest 212 = .ok (.goto (-180), 3) := by decide +kernel
theorem dX1_findShortest_215 : decode cX1_findShortest 215 = .ok (.return_, 1) := by decide +kernel
def f_X1_findShortest_u203 (Q : ml_St → Prop) (K72 : ml_St → Int → Int → Int → Int → Int → Int → Prop) (σ : ml_St) (x2 : Int) (x3 : Int) (x4 : Int) (x5 : Int) (x6 : Int) (x7 : Int) : Prop :=
I32 (x7 + 1) ∧
∀ y1 : Int, y1 = x7 + 1 →
K72 σ x2 x3 x4 x5 x6 y1
def f_X1_findShortest_u72 (Q : ml_St → Prop) (K209 : ml_St → Int → Int → Int → Prop) : Nat → ml_St → Int → Int → Int → Int → Int → Int → Prop
| 0, _, _, _, _, _, _, _ => False
| N + 1, σ, x2, x3, x4, x5, x6, x7 =>
∀ _ : I32 (σ 55 1),
((σ 55 1) ≤ x7 →
K209 σ x2 x3 x4) ∧
(¬ ((σ 55 1) ≤ x7) →
∀ _ : I32 (σ 70 5),
(((σ 70 5) : Int) ≠ (-1) →
K209 σ x2 x3 x4) ∧
((σ 70 5) = (-1) →
I32 (x6 * 6) ∧
I32 ((x6 * 6) + x7) ∧
∀ y7 : Int, y7 = (x6 * 6) + x7 →
(3 : Int) ≠ 0 ∧ I32 (Int.tmod x5 3) ∧
(0 : Int) ≤ y7 ∧ (y7 : Int) < 5676 ∧
∀ _ : I32 (σ 59 y7),
I32 ((Int.tmod x5 3) + (σ 59 y7)) ∧
∀ y11 : Int, y11 = (Int.tmod x5 3) + (σ 59 y7) →
(0 : Int) ≤ y7 ∧ (y7 : Int) < 5676 ∧
∀ _ : I32 (σ 58 y7),
I32 ((σ 58 y7) * 3) ∧
I32 (((σ 58 y7) * 3) + y11) ∧
∀ y15 : Int, y15 = ((σ 58 y7) * 3) + y11 →
(3 ≤ y11 →
f_X1_findShortest_u203 Q (f_X1_findShortest_u72 Q K209 N) σ x2 x3 x4 x5 x6 x7) ∧
(¬ (3 ≤ y11) →
(0 : Int) ≤ y15 ∧ (y15 : Int) < 2838 ∧
∀ _ : I32 (σ 72 y15),
(((σ 72 y15) : Int) ≠ (-1) →
f_X1_findShortest_u203 Q (f_X1_findShortest_u72 Q K209 N) σ x2 x3 x4 x5 x6 x7) ∧
((σ 72 y15) = (-1) →
(0 : Int) ≤ y15 ∧ (y15 : Int) < 2838 ∧
∀ σ19, σ19 = ml_up σ 72 y15 x5 →
(0 : Int) ≤ x7 ∧ (x7 : Int) < 6 ∧
∀ _ : I32 (σ19 56 x7),
(0 : Int) ≤ y15 ∧ (y15 : Int) < 2838 ∧
∀ σ21, σ21 = ml_up σ19 73 y15 (σ19 56 x7) →
(0 : Int) ≤ x3 ∧ (x3 : Int) < 2838 ∧
∀ σ22, σ22 = ml_up σ21 71 x3 y15 →
I32 (x3 + 1) ∧
∀ y23 : Int, y23 = x3 + 1 →
(0 : Int) ≤ y7 ∧ (y7 : Int) < 5676 ∧
∀ _ : I32 (σ22 58 y7),
(0 : Int) ≤ (σ22 58 y7) ∧ ((σ22 58 y7) : Int) < 946 ∧
∀ _ : I32 (σ22 60 (σ22 58 y7)),
I32 (y11 + (σ22 60 (σ22 58 y7))) ∧
((y11 + (σ22 60 (σ22 58 y7))) ≠ x2 →
f_X1_findShortest_u203 Q (f_X1_findShortest_u72 Q K209 N) σ22 x2 y23 x4 x5 x6 x7) ∧
((y11 + (σ22 60 (σ22 58 y7))) = x2 →
f_X1_traceBack σ22 y15 (fun σ28 =>
f_X1_findShortest_u203 Q (f_X1_findShortest_u72 Q K209 N) σ28 x2 y23 x4 x5 x6 x7))))))
def f_X1_findShortest_u209 (Q : ml_St → Prop) (K32 : ml_St → Int → Int → Int → Prop) (σ : ml_St) (x2 : Int) (x3 : Int) (x4 : Int) : Prop :=
I32 (x4 + 1) ∧
∀ y1 : Int, y1 = x4 + 1 →
K32 σ x2 x3 y1
def f_X1_findShortest_u32 (Q : ml_St → Prop) (K215 : ml_St → Prop) : Nat → ml_St → Int → Int → Int → Prop
| 0, _, _, _, _ => False
| N + 1, σ, x2, x3, x4 =>
(x3 ≤ x4 →
K215 σ) ∧
(¬ (x3 ≤ x4) →
(2838 ≤ x4 →
K215 σ) ∧
(¬ (2838 ≤ x4) →
∀ _ : I32 (σ 70 5),
(((σ 70 5) : Int) ≠ (-1) →
K215 σ) ∧
((σ 70 5) = (-1) →
(0 : Int) ≤ x4 ∧ (x4 : Int) < 2838 ∧
∀ _ : I32 (σ 71 x4),
∀ y6 : Int, y6 = σ 71 x4 →
(3 : Int) ≠ 0 ∧ I32 (Int.tdiv y6 3) ∧
∀ y8 : Int, y8 = Int.tdiv y6 3 →
∃ N1, f_X1_findShortest_u72 Q (f_X1_findShortest_u209 Q (f_X1_findShortest_u32 Q K215 N)) N1 σ x2 x3 x4 y6 y8 0)))
def f_X1_findShortest_u215 (Q : ml_St → Prop) (σ : ml_St) : Prop :=
Q σ
def f_X1_findShortest_u0 (Q : ml_St → Prop) (σ : ml_St) (x2 : Int) : Prop :=
∀ σ1, σ1 = ml_up σ 70 5 (-1) →
f_J7_fill_53178 σ1 2838 72 (-1) (fun σ2 =>
(0 : Int) ≤ 0 ∧ (0 : Int) < 2838 ∧
∀ σ3, σ3 = ml_up σ2 72 0 0 →
(0 : Int) ≤ 0 ∧ (0 : Int) < 2838 ∧
∀ σ4, σ4 = ml_up σ3 71 0 0 →
∃ N1, f_X1_findShortest_u32 Q (f_X1_findShortest_u215 Q) N1 σ4 x2 1 0)
def f_X1_findShortest (σ : ml_St) (x2 : Int) (Q : ml_St → Prop) : Prop := f_X1_findShortest_u0 Q σ x2
def rm_X1_findShortest : Room := { frames := 1, cells := 0, slots := 0, locals := 23 }
set_option maxRecDepth 100000 in
set_option maxHeartbeats 4000000 in
theorem u_X1_findShortest_203 {p : Program} {e : Env} {s : State} {m : MethodId} {args : Array Value} {below : List Frame} {meth : Method} {c : Code} {base : Nat} {D : va_G} {cA : Nat → ClassId} {n : Nat} {l : Launch} {Q : ml_St → Prop} {K72 : ml_St → Int → Int → Int → Int → Int → Int → Prop} (X : ml_X p s m c meth args D cA cX1_findShortest 11 RX1 none) (hn : 214 ≤ n) (hK72 : ∀ (σ : ml_St) (x2 : Int) (x3 : Int) (x4 : Int) (x5 : Int) (x6 : Int) (x7 : Int) (h_x2 : I32 x2) (h_x3 : I32 x3) (h_x4 : I32 x4) (h_x5 : I32 x5) (h_x6 : I32 x6) (h_x7 : I32 x7) (ls : Array Slot), lv_has ls 11 [(0, .ref (base + (70 : Int).toNat)), (1, .ref (base + (55 : Int).toNat)), (2, .int (Int32.ofInt x2)), (3, .int (Int32.ofInt x3)), (4, .int (Int32.ofInt x4)), (5, .int (Int32.ofInt x5)), (6, .int (Int32.ofInt x6)), (7, .int (Int32.ofInt x7))] → K72 σ x2 x3 x4 x5 x6 x7 → ml_V p l e rm_X1_findShortest s m args below meth c (MQ below (ml_Qv base D cA n Q) args s 0 0 (ml_A base)) base D cA 0 0 n n σ (F0 m 72 ls [])) (σ : ml_St) (x2 : Int) (x3 : Int) (x4 : Int) (x5 : Int) (x6 : Int) (x7 : Int) (h_x2 : I32 x2) (h_x3 : I32 x3) (h_x4 : I32 x4) (h_x5 : I32 x5) (h_x6 : I32 x6) (h_x7 : I32 x7) (ls : Array Slot) (hl : lv_has ls 11 [(0, .ref (base + (70 : Int).toNat)), (1, .ref (base + (55 : Int).toNat)), (2, .int (Int32.ofInt x2)), (3, .int (Int32.ofInt x3)), (4, .int (Int32.ofInt x4)), (5, .int (Int32.ofInt x5)), (6, .int (Int32.ofInt x6)), (7, .int (Int32.ofInt x7))]) (hw : f_X1_findShortest_u203 Q K72 σ x2 x3 x4 x5 x6 x7) : ml_V p l e rm_X1_findShortest s m args below meth c (MQ below (ml_Qv base D cA n Q) args s 0 0 (ml_A base)) base D cA 0 0 n n σ (F0 m 203 ls []) := by
  unfold f_X1_findShortest_u203 at hw
  obtain ⟨v1, hw⟩ := hw
  obtain ⟨y1, e1⟩ : ∃ y : Int, y = x7 + 1 := ⟨_, rfl⟩
  have hw := hw y1 e1
  rw [← e1] at v1
  refine ml_iinc (pc := 203) X e1 hl 7 rfl (by decide) (lst' := [(7, .int (Int32.ofInt y1)), (0, .ref (base + (70 : Int).toNat)), (1, .ref (base + (55 : Int).toNat)), (2, .int (Int32.ofInt x2)), (3, .int (Int32.ofInt x3)), (4, .int (Int32.ofInt x4)), (5, .int (Int32.ofInt x5)), (6, .int (Int32.ofInt x6))]) rfl dX1_findShortest_203 (fun ls hl => ?_)
  refine ml_goto (pc := 206) (tgt := 72) X dX1_findShortest_206 (by decide) ?_
  exact hK72 σ x2 x3 x4 x5 x6 y1 h_x2 h_x3 h_x4 h_x5 h_x6 v1 _ (lv_sub hl [1, 2, 3, 4, 5, 6, 7, 0] rfl) hw
set_option maxRecDepth 100000 in
set_option maxHeartbeats 4000000 in
theorem u_X1_findShortest_72 {p : Program} {e : Env} {s : State} {m : MethodId} {args : Array Value} {below : List Frame} {meth : Method} {c : Code} {base : Nat} {D : va_G} {cA : Nat → ClassId} {n : Nat} {l : Launch} {Q : ml_St → Prop} {K209 : ml_St → Int → Int → Int → Prop} (X : ml_X p s m c meth args D cA cX1_findShortest 11 RX1 none) (hn : 214 ≤ n) (hK209 : ∀ (σ : ml_St) (x2 : Int) (x3 : Int) (x4 : Int) (h_x2 : I32 x2) (h_x3 : I32 x3) (h_x4 : I32 x4) (ls : Array Slot), lv_has ls 11 [(0, .ref (base + (70 : Int).toNat)), (1, .ref (base + (55 : Int).toNat)), (2, .int (Int32.ofInt x2)), (3, .int (Int32.ofInt x3)), (4, .int (Int32.ofInt x4))] → K209 σ x2 x3 x4 → ml_V p l e rm_X1_findShortest s m args below meth c (MQ below (ml_Qv base D cA n Q) args s 0 0 (ml_A base)) base D cA 0 0 n n σ (F0 m 209 ls [])) : ∀ (N : Nat) (σ : ml_St) (x2 : Int) (x3 : Int) (x4 : Int) (x5 : Int) (x6 : Int) (x7 : Int) (h_x2 : I32 x2) (h_x3 : I32 x3) (h_x4 : I32 x4) (h_x5 : I32 x5) (h_x6 : I32 x6) (h_x7 : I32 x7) (ls : Array Slot), lv_has ls 11 [(0, .ref (base + (70 : Int).toNat)), (1, .ref (base + (55 : Int).toNat)), (2, .int (Int32.ofInt x2)), (3, .int (Int32.ofInt x3)), (4, .int (Int32.ofInt x4)), (5, .int (Int32.ofInt x5)), (6, .int (Int32.ofInt x6)), (7, .int (Int32.ofInt x7))] → f_X1_findShortest_u72 Q K209 N σ x2 x3 x4 x5 x6 x7 → ml_V p l e rm_X1_findShortest s m args below meth c (MQ below (ml_Qv base D cA n Q) args s 0 0 (ml_A base)) base D cA 0 0 n n σ (F0 m 72 ls []) := by
  intro N
  induction N with
  | zero => intro σ x2 x3 x4 x5 x6 x7 h_x2 h_x3 h_x4 h_x5 h_x6 h_x7 ls hl hw; exact False.elim hw
  | succ N ih =>
    intro σ x2 x3 x4 x5 x6 x7 h_x2 h_x3 h_x4 h_x5 h_x6 h_x7 ls hl hw
    unfold f_X1_findShortest_u72 at hw
    refine ml_iload (pc := 72) X hl 7 rfl dX1_findShortest_72 ?_
    refine ml_aload_n (pc := 74) X hl 1 rfl rfl dX1_findShortest_74 ?_
    refine gf_X1_43 (pc := 75) X (ml_c55 hn) dX1_findShortest_75 (fun r1 => ?_)
    have hw := hw r1
    refine ml_icmp_ge (pc := 78) (tgt := 209) X h_x7 r1 dX1_findShortest_78 (by decide) (fun c2 => ?_) (fun c2 => ?_)
    · have hw := hw.1 c2
      exact hK209 σ x2 x3 x4 h_x2 h_x3 h_x4 _ (lv_sub hl [0, 1, 2, 3, 4] rfl) hw
    · have hw := hw.2 c2
      refine ml_aload_n (pc := 81) X hl 0 rfl rfl dX1_findShortest_81 ?_
      refine gf_X1_30 (pc := 82) X (ml_c70 hn) dX1_findShortest_82 (fun r3 => ?_)
      have hw := hw r3
      refine ml_iconst (pc := 85) X dX1_findShortest_85 ?_
      refine ml_icmp_ne (pc := 86) (tgt := 209) X r3 ⟨by decide, by decide⟩ dX1_findShortest_86 (by decide) (fun c4 => ?_) (fun c4 => ?_)
      · have hw := hw.1 c4
        exact hK209 σ x2 x3 x4 h_x2 h_x3 h_x4 _ (lv_sub hl [0, 1, 2, 3, 4] rfl) hw
      · have hw := hw.2 c4
        refine ml_iload (pc := 89) X hl 6 rfl dX1_findShortest_89 ?_
        refine ml_bipush (pc := 91) X dX1_findShortest_91 (by decide) ?_
        obtain ⟨v5, hw⟩ := hw
        refine ml_imul (pc := 93) X dX1_findShortest_93 ?_
        refine ml_iload (pc := 94) X hl 7 rfl dX1_findShortest_94 ?_
        obtain ⟨v6, hw⟩ := hw
        refine ml_iadd (pc := 96) X dX1_findShortest_96 ?_
        refine ml_topI (pc := 97) (fun y7 e7 => ?_)
        have hw := hw y7 e7
        have q7 : I32 y7 := by rw [e7]; exact v6
        refine ml_istore (pc := 97) X hl (by decide) (lst' := [(8, .int (Int32.ofInt y7)), (0, .ref (base + (70 : Int).toNat)), (1, .ref (base + (55 : Int).toNat)), (2, .int (Int32.ofInt x2)), (3, .int (Int32.ofInt x3)), (4, .int (Int32.ofInt x4)), (5, .int (Int32.ofInt x5)), (6, .int (Int32.ofInt x6)), (7, .int (Int32.ofInt x7))]) rfl dX1_findShortest_97 (fun ls hl => ?_)
        refine ml_iload (pc := 99) X hl 6 rfl dX1_findShortest_99 ?_
        refine ml_iconst (pc := 101) X dX1_findShortest_101 ?_
        obtain ⟨z8, v8, hw⟩ := hw
        refine ml_irem (pc := 102) X h_x5 ⟨by decide, by decide⟩ z8 dX1_findShortest_102 ?_
        refine ml_aload_n (pc := 103) X hl 2 rfl rfl dX1_findShortest_103 ?_
        refine gf_X1_46 (pc := 104) X (ml_c55 hn) dX1_findShortest_104 ?_
        refine ml_iload (pc := 107) X hl 0 rfl dX1_findShortest_107 ?_
        obtain ⟨a9, b9, hw⟩ := hw
        refine ml_iald (pc := 109) (N := 5676) X (ml_c59 hn) a9 b9 dX1_findShortest_109 (fun r9 => ?_)
        have hw := hw r9
        obtain ⟨v10, hw⟩ := hw
        refine ml_iadd (pc := 110) X dX1_findShortest_110 ?_
        refine ml_topI (pc := 111) (fun y11 e11 => ?_)
        have hw := hw y11 e11
        have q11 : I32 y11 := by rw [e11]; exact v10
        refine ml_istore (pc := 111) X hl (by decide) (lst' := [(9, .int (Int32.ofInt y11)), (8, .int (Int32.ofInt y7)), (0, .ref (base + (70 : Int).toNat)), (1, .ref (base + (55 : Int).toNat)), (2, .int (Int32.ofInt x2)), (3, .int (Int32.ofInt x3)), (4, .int (Int32.ofInt x4)), (5, .int (Int32.ofInt x5)), (6, .int (Int32.ofInt x6)), (7, .int (Int32.ofInt x7))]) rfl dX1_findShortest_111 (fun ls hl => ?_)
        refine ml_aload_n (pc := 113) X hl 3 rfl rfl dX1_findShortest_113 ?_
        refine gf_X1_49 (pc := 114) X (ml_c55 hn) dX1_findShortest_114 ?_
        refine ml_iload (pc := 117) X hl 1 rfl dX1_findShortest_117 ?_
        obtain ⟨a12, b12, hw⟩ := hw
        refine ml_iald (pc := 119) (N := 5676) X (ml_c58 hn) a12 b12 dX1_findShortest_119 (fun r12 => ?_)
        have hw := hw r12
        refine ml_iconst (pc := 120) X dX1_findShortest_120 ?_
        obtain ⟨v13, hw⟩ := hw
        refine ml_imul (pc := 121) X dX1_findShortest_121 ?_
        refine ml_iload (pc := 122) X hl 0 rfl dX1_findShortest_122 ?_
        obtain ⟨v14, hw⟩ := hw
        refine ml_iadd (pc := 124) X dX1_findShortest_124 ?_
        refine ml_topI (pc := 125) (fun y15 e15 => ?_)
        have hw := hw y15 e15
        have q15 : I32 y15 := by rw [e15]; exact v14
        refine ml_istore (pc := 125) X hl (by decide) (lst' := [(10, .int (Int32.ofInt y15)), (9, .int (Int32.ofInt y11)), (8, .int (Int32.ofInt y7)), (0, .ref (base + (70 : Int).toNat)), (1, .ref (base + (55 : Int).toNat)), (2, .int (Int32.ofInt x2)), (3, .int (Int32.ofInt x3)), (4, .int (Int32.ofInt x4)), (5, .int (Int32.ofInt x5)), (6, .int (Int32.ofInt x6)), (7, .int (Int32.ofInt x7))]) rfl dX1_findShortest_125 (fun ls hl => ?_)
        refine ml_iload (pc := 127) X hl 1 rfl dX1_findShortest_127 ?_
        refine ml_iconst (pc := 129) X dX1_findShortest_129 ?_
        refine ml_icmp_ge (pc := 130) (tgt := 203) X q11 ⟨by decide, by decide⟩ dX1_findShortest_130 (by decide) (fun c16 => ?_) (fun c16 => ?_)
        · have hw := hw.1 c16
          exact u_X1_findShortest_203 X hn ih σ x2 x3 x4 x5 x6 x7 h_x2 h_x3 h_x4 h_x5 h_x6 h_x7 _ (lv_sub hl [3, 4, 5, 6, 7, 8, 9, 10] rfl) hw
        · have hw := hw.2 c16
          refine ml_aload_n (pc := 133) X hl 3 rfl rfl dX1_findShortest_133 ?_
          refine gf_X1_17 (pc := 134) X (ml_c70 hn) dX1_findShortest_134 ?_
          refine ml_iload (pc := 137) X hl 0 rfl dX1_findShortest_137 ?_
          obtain ⟨a17, b17, hw⟩ := hw
          refine ml_iald (pc := 139) (N := 2838) X (ml_c72 hn) a17 b17 dX1_findShortest_139 (fun r17 => ?_)
          have hw := hw r17
          refine ml_iconst (pc := 140) X dX1_findShortest_140 ?_
          refine ml_icmp_ne (pc := 141) (tgt := 203) X r17 ⟨by decide, by decide⟩ dX1_findShortest_141 (by decide) (fun c18 => ?_) (fun c18 => ?_)
          · have hw := hw.1 c18
            exact u_X1_findShortest_203 X hn ih σ x2 x3 x4 x5 x6 x7 h_x2 h_x3 h_x4 h_x5 h_x6 h_x7 _ (lv_sub hl [3, 4, 5, 6, 7, 8, 9, 10] rfl) hw
          · have hw := hw.2 c18
            refine ml_aload_n (pc := 144) X hl 3 rfl rfl dX1_findShortest_144 ?_
            refine gf_X1_17 (pc := 145) X (ml_c70 hn) dX1_findShortest_145 ?_
            refine ml_iload (pc := 148) X hl 0 rfl dX1_findShortest_148 ?_
            refine ml_iload (pc := 150) X hl 8 rfl dX1_findShortest_150 ?_
            obtain ⟨a19, b19, hw⟩ := hw
            refine ml_iast (pc := 152) (N := 2838) X (ml_c72 hn) a19 b19 h_x5 dX1_findShortest_152 (fun σ19 g19 => ?_)
            have hw := hw σ19 g19
            refine ml_aload_n (pc := 153) X hl 3 rfl rfl dX1_findShortest_153 ?_
            refine gf_X1_20 (pc := 154) X (ml_c70 hn) dX1_findShortest_154 ?_
            refine ml_iload (pc := 157) X hl 0 rfl dX1_findShortest_157 ?_
            refine ml_aload_n (pc := 159) X hl 4 rfl rfl dX1_findShortest_159 ?_
            refine gf_X1_52 (pc := 160) X (ml_c55 hn) dX1_findShortest_160 ?_
            refine ml_iload (pc := 163) X hl 10 rfl dX1_findShortest_163 ?_
            obtain ⟨a20, b20, hw⟩ := hw
            refine ml_iald (pc := 165) (N := 6) X (ml_c56 hn) a20 b20 dX1_findShortest_165 (fun r20 => ?_)
            have hw := hw r20
            obtain ⟨a21, b21, hw⟩ := hw
            refine ml_iast (pc := 166) (N := 2838) X (ml_c73 hn) a21 b21 r20 dX1_findShortest_166 (fun σ21 g21 => ?_)
            have hw := hw σ21 g21
            refine ml_aload_n (pc := 167) X hl 3 rfl rfl dX1_findShortest_167 ?_
            refine gf_X1_13 (pc := 168) X (ml_c70 hn) dX1_findShortest_168 ?_
            refine ml_iload_n (pc := 171) X hl 6 rfl rfl dX1_findShortest_171 ?_
            refine ml_iload (pc := 172) X hl 0 rfl dX1_findShortest_172 ?_
            obtain ⟨a22, b22, hw⟩ := hw
            refine ml_iast (pc := 174) (N := 2838) X (ml_c71 hn) a22 b22 q15 dX1_findShortest_174 (fun σ22 g22 => ?_)
            have hw := hw σ22 g22
            obtain ⟨v23, hw⟩ := hw
            obtain ⟨y23, e23⟩ : ∃ y : Int, y = x3 + 1 := ⟨_, rfl⟩
            have hw := hw y23 e23
            rw [← e23] at v23
            refine ml_iinc (pc := 175) X e23 hl 6 rfl (by decide) (lst' := [(3, .int (Int32.ofInt y23)), (10, .int (Int32.ofInt y15)), (9, .int (Int32.ofInt y11)), (8, .int (Int32.ofInt y7)), (0, .ref (base + (70 : Int).toNat)), (1, .ref (base + (55 : Int).toNat)), (2, .int (Int32.ofInt x2)), (4, .int (Int32.ofInt x4)), (5, .int (Int32.ofInt x5)), (6, .int (Int32.ofInt x6)), (7, .int (Int32.ofInt x7))]) rfl dX1_findShortest_175 (fun ls hl => ?_)
            refine ml_iload (pc := 178) X hl 2 rfl dX1_findShortest_178 ?_
            refine ml_aload_n (pc := 180) X hl 5 rfl rfl dX1_findShortest_180 ?_
            refine gf_X1_55 (pc := 181) X (ml_c55 hn) dX1_findShortest_181 ?_
            refine ml_aload_n (pc := 184) X hl 5 rfl rfl dX1_findShortest_184 ?_
            refine gf_X1_49 (pc := 185) X (ml_c55 hn) dX1_findShortest_185 ?_
            refine ml_iload (pc := 188) X hl 3 rfl dX1_findShortest_188 ?_
            obtain ⟨a24, b24, hw⟩ := hw
            refine ml_iald (pc := 190) (N := 5676) X (ml_c58 hn) a24 b24 dX1_findShortest_190 (fun r24 => ?_)
            have hw := hw r24
            obtain ⟨a25, b25, hw⟩ := hw
            refine ml_iald (pc := 191) (N := 946) X (ml_c60 hn) a25 b25 dX1_findShortest_191 (fun r25 => ?_)
            have hw := hw r25
            obtain ⟨v26, hw⟩ := hw
            refine ml_iadd (pc := 192) X dX1_findShortest_192 ?_
            refine ml_iload_n (pc := 193) X hl 6 rfl rfl dX1_findShortest_193 ?_
            refine ml_icmp_ne (pc := 194) (tgt := 203) X v26 h_x2 dX1_findShortest_194 (by decide) (fun c27 => ?_) (fun c27 => ?_)
            · have hw := hw.1 c27
              exact u_X1_findShortest_203 X hn ih σ22 x2 y23 x4 x5 x6 x7 h_x2 v23 h_x4 h_x5 h_x6 h_x7 _ (lv_sub hl [4, 5, 6, 0, 7, 8, 9, 10] rfl) hw
            · have hw := hw.2 c27
              refine ml_aload_n (pc := 197) X hl 4 rfl rfl dX1_findShortest_197 ?_
              refine ml_iload (pc := 198) X hl 1 rfl dX1_findShortest_198 ?_
              refine ml_callvV (pc := 200) (rest := []) X [.int (Int32.ofInt y15)] (by decide) rfl (ml_c70 hn) (c_X1_traceBack l base D cA n hn σ22 y15 q15 _ hw) cv_X1_58 ⟨rfl, rfl⟩ ⟨by decide, by decide⟩ rfl rfl hl (Nat.le_of_ble_eq_true rfl) ⟨Nat.zero_le _, Nat.zero_le _⟩ dX1_findShortest_200 (fun σ28 hw => ?_)
              exact u_X1_findShortest_203 X hn ih σ28 x2 y23 x4 x5 x6 x7 h_x2 v23 h_x4 h_x5 h_x6 h_x7 _ (lv_sub hl [4, 5, 6, 0, 7, 8, 9, 10] rfl) hw
set_option maxRecDepth 100000 in
set_option maxHeartbeats 4000000 in
theorem u_X1_findShortest_209 {p : Program} {e : Env} {s : State} {m : MethodId} {args : Array Value} {below : List Frame} {meth : Method} {c : Code} {base : Nat} {D : va_G} {cA : Nat → ClassId} {n : Nat} {l : Launch} {Q : ml_St → Prop} {K32 : ml_St → Int → Int → Int → Prop} (X : ml_X p s m c meth args D cA cX1_findShortest 11 RX1 none) (hn : 214 ≤ n) (hK32 : ∀ (σ : ml_St) (x2 : Int) (x3 : Int) (x4 : Int) (h_x2 : I32 x2) (h_x3 : I32 x3) (h_x4 : I32 x4) (ls : Array Slot), lv_has ls 11 [(0, .ref (base + (70 : Int).toNat)), (1, .ref (base + (55 : Int).toNat)), (2, .int (Int32.ofInt x2)), (3, .int (Int32.ofInt x3)), (4, .int (Int32.ofInt x4))] → K32 σ x2 x3 x4 → ml_V p l e rm_X1_findShortest s m args below meth c (MQ below (ml_Qv base D cA n Q) args s 0 0 (ml_A base)) base D cA 0 0 n n σ (F0 m 32 ls [])) (σ : ml_St) (x2 : Int) (x3 : Int) (x4 : Int) (h_x2 : I32 x2) (h_x3 : I32 x3) (h_x4 : I32 x4) (ls : Array Slot) (hl : lv_has ls 11 [(0, .ref (base + (70 : Int).toNat)), (1, .ref (base + (55 : Int).toNat)), (2, .int (Int32.ofInt x2)), (3, .int (Int32.ofInt x3)), (4, .int (Int32.ofInt x4))]) (hw : f_X1_findShortest_u209 Q K32 σ x2 x3 x4) : ml_V p l e rm_X1_findShortest s m args below meth c (MQ below (ml_Qv base D cA n Q) args s 0 0 (ml_A base)) base D cA 0 0 n n σ (F0 m 209 ls []) := by
  unfold f_X1_findShortest_u209 at hw
  obtain ⟨v1, hw⟩ := hw
  obtain ⟨y1, e1⟩ : ∃ y : Int, y = x4 + 1 := ⟨_, rfl⟩
  have hw := hw y1 e1
  rw [← e1] at v1
  refine ml_iinc (pc := 209) X e1 hl 4 rfl (by decide) (lst' := [(4, .int (Int32.ofInt y1)), (0, .ref (base + (70 : Int).toNat)), (1, .ref (base + (55 : Int).toNat)), (2, .int (Int32.ofInt x2)), (3, .int (Int32.ofInt x3))]) rfl dX1_findShortest_209 (fun ls hl => ?_)
  refine ml_goto (pc := 212) (tgt := 32) X dX1_findShortest_212 (by decide) ?_
  exact hK32 σ x2 x3 y1 h_x2 h_x3 v1 _ (lv_sub hl [1, 2, 3, 4, 0] rfl) hw
set_option maxRecDepth 100000 in
set_option maxHeartbeats 4000000 in
theorem u_X1_findShortest_32 {p : Program} {e : Env} {s : State} {m : MethodId} {args : Array Value} {below : List Frame} {meth : Method} {c : Code} {base : Nat} {D : va_G} {cA : Nat → ClassId} {n : Nat} {l : Launch} {Q : ml_St → Prop} {K215 : ml_St → Prop} (X : ml_X p s m c meth args D cA cX1_findShortest 11 RX1 none) (hn : 214 ≤ n) (hK215 : ∀ (σ : ml_St) (ls : Array Slot), lv_has ls 11 [] → K215 σ → ml_V p l e rm_X1_findShortest s m args below meth c (MQ below (ml_Qv base D cA n Q) args s 0 0 (ml_A base)) base D cA 0 0 n n σ (F0 m 215 ls [])) : ∀ (N : Nat) (σ : ml_St) (x2 : Int) (x3 : Int) (x4 : Int) (h_x2 : I32 x2) (h_x3 : I32 x3) (h_x4 : I32 x4) (ls : Array Slot), lv_has ls 11 [(0, .ref (base + (70 : Int).toNat)), (1, .ref (base + (55 : Int).toNat)), (2, .int (Int32.ofInt x2)), (3, .int (Int32.ofInt x3)), (4, .int (Int32.ofInt x4))] → f_X1_findShortest_u32 Q K215 N σ x2 x3 x4 → ml_V p l e rm_X1_findShortest s m args below meth c (MQ below (ml_Qv base D cA n Q) args s 0 0 (ml_A base)) base D cA 0 0 n n σ (F0 m 32 ls []) := by
  intro N
  induction N with
  | zero => intro σ x2 x3 x4 h_x2 h_x3 h_x4 ls hl hw; exact False.elim hw
  | succ N ih =>
    intro σ x2 x3 x4 h_x2 h_x3 h_x4 ls hl hw
    unfold f_X1_findShortest_u32 at hw
    refine ml_iload (pc := 32) X hl 4 rfl dX1_findShortest_32 ?_
    refine ml_iload_n (pc := 34) X hl 3 rfl rfl dX1_findShortest_34 ?_
    refine ml_icmp_ge (pc := 35) (tgt := 215) X h_x4 h_x3 dX1_findShortest_35 (by decide) (fun c1 => ?_) (fun c1 => ?_)
    · have hw := hw.1 c1
      exact hK215 σ   _ (lv_sub hl [] rfl) hw
    · have hw := hw.2 c1
      refine ml_iload (pc := 38) X hl 4 rfl dX1_findShortest_38 ?_
      refine ml_sipush (pc := 40) X dX1_findShortest_40 (by decide) ?_
      refine ml_icmp_ge (pc := 43) (tgt := 215) X h_x4 ⟨by decide, by decide⟩ dX1_findShortest_43 (by decide) (fun c2 => ?_) (fun c2 => ?_)
      · have hw := hw.1 c2
        exact hK215 σ   _ (lv_sub hl [] rfl) hw
      · have hw := hw.2 c2
        refine ml_aload_n (pc := 46) X hl 0 rfl rfl dX1_findShortest_46 ?_
        refine gf_X1_30 (pc := 47) X (ml_c70 hn) dX1_findShortest_47 (fun r3 => ?_)
        have hw := hw r3
        refine ml_iconst (pc := 50) X dX1_findShortest_50 ?_
        refine ml_icmp_ne (pc := 51) (tgt := 215) X r3 ⟨by decide, by decide⟩ dX1_findShortest_51 (by decide) (fun c4 => ?_) (fun c4 => ?_)
        · have hw := hw.1 c4
          exact hK215 σ   _ (lv_sub hl [] rfl) hw
        · have hw := hw.2 c4
          refine ml_aload_n (pc := 54) X hl 0 rfl rfl dX1_findShortest_54 ?_
          refine gf_X1_13 (pc := 55) X (ml_c70 hn) dX1_findShortest_55 ?_
          refine ml_iload (pc := 58) X hl 4 rfl dX1_findShortest_58 ?_
          obtain ⟨a5, b5, hw⟩ := hw
          refine ml_iald (pc := 60) (N := 2838) X (ml_c71 hn) a5 b5 dX1_findShortest_60 (fun r5 => ?_)
          have hw := hw r5
          refine ml_topI (pc := 61) (fun y6 e6 => ?_)
          have hw := hw y6 e6
          have q6 : I32 y6 := by rw [e6]; exact r5
          refine ml_istore (pc := 61) X hl (by decide) (lst' := [(5, .int (Int32.ofInt y6)), (0, .ref (base + (70 : Int).toNat)), (1, .ref (base + (55 : Int).toNat)), (2, .int (Int32.ofInt x2)), (3, .int (Int32.ofInt x3)), (4, .int (Int32.ofInt x4))]) rfl dX1_findShortest_61 (fun ls hl => ?_)
          refine ml_iload (pc := 63) X hl 0 rfl dX1_findShortest_63 ?_
          refine ml_iconst (pc := 65) X dX1_findShortest_65 ?_
          obtain ⟨z7, v7, hw⟩ := hw
          refine ml_idiv (pc := 66) X q6 ⟨by decide, by decide⟩ z7 dX1_findShortest_66 ?_
          refine ml_topI (pc := 67) (fun y8 e8 => ?_)
          have hw := hw y8 e8
          have q8 : I32 y8 := by rw [e8]; exact v7
          refine ml_istore (pc := 67) X hl (by decide) (lst' := [(6, .int (Int32.ofInt y8)), (5, .int (Int32.ofInt y6)), (0, .ref (base + (70 : Int).toNat)), (1, .ref (base + (55 : Int).toNat)), (2, .int (Int32.ofInt x2)), (3, .int (Int32.ofInt x3)), (4, .int (Int32.ofInt x4))]) rfl dX1_findShortest_67 (fun ls hl => ?_)
          refine ml_iconst (pc := 69) X dX1_findShortest_69 ?_
          refine ml_istore (pc := 70) X hl (by decide) (lst' := [(7, .int (Int32.ofInt 0)), (6, .int (Int32.ofInt y8)), (5, .int (Int32.ofInt y6)), (0, .ref (base + (70 : Int).toNat)), (1, .ref (base + (55 : Int).toNat)), (2, .int (Int32.ofInt x2)), (3, .int (Int32.ofInt x3)), (4, .int (Int32.ofInt x4))]) rfl dX1_findShortest_70 (fun ls hl => ?_)
          obtain ⟨N0, hw⟩ := hw
          exact u_X1_findShortest_72 X hn (fun σ x2 x3 x4 h_x2 h_x3 h_x4 ls hl hw => u_X1_findShortest_209 X hn ih σ x2 x3 x4 h_x2 h_x3 h_x4 ls hl hw) N0 σ x2 x3 x4 y6 y8 0 h_x2 h_x3 h_x4 q6 q8 ⟨by decide, by decide⟩ _ (lv_sub hl [3, 4, 5, 6, 7, 2, 1, 0] rfl) hw
set_option maxRecDepth 100000 in
set_option maxHeartbeats 4000000 in
theorem u_X1_findShortest_215 {p : Program} {e : Env} {s : State} {m : MethodId} {args : Array Value} {below : List Frame} {meth : Method} {c : Code} {base : Nat} {D : va_G} {cA : Nat → ClassId} {n : Nat} {l : Launch} {Q : ml_St → Prop} (X : ml_X p s m c meth args D cA cX1_findShortest 11 RX1 none) (hn : 214 ≤ n) (σ : ml_St) (ls : Array Slot) (hl : lv_has ls 11 []) (hw : f_X1_findShortest_u215 Q σ) : ml_V p l e rm_X1_findShortest s m args below meth c (MQ below (ml_Qv base D cA n Q) args s 0 0 (ml_A base)) base D cA 0 0 n n σ (F0 m 215 ls []) := by
  unfold f_X1_findShortest_u215 at hw
  exact ml_vret (pc := 215) X hw dX1_findShortest_215
set_option maxRecDepth 100000 in
set_option maxHeartbeats 4000000 in
theorem u_X1_findShortest_0 {p : Program} {e : Env} {s : State} {m : MethodId} {args : Array Value} {below : List Frame} {meth : Method} {c : Code} {base : Nat} {D : va_G} {cA : Nat → ClassId} {n : Nat} {l : Launch} {Q : ml_St → Prop} (X : ml_X p s m c meth args D cA cX1_findShortest 11 RX1 none) (hn : 214 ≤ n) (σ : ml_St) (x2 : Int) (h_x2 : I32 x2) (ls : Array Slot) (hl : lv_has ls 11 [(0, .ref (base + (70 : Int).toNat)), (1, .ref (base + (55 : Int).toNat)), (2, .int (Int32.ofInt x2))]) (hw : f_X1_findShortest_u0 Q σ x2) : ml_V p l e rm_X1_findShortest s m args below meth c (MQ below (ml_Qv base D cA n Q) args s 0 0 (ml_A base)) base D cA 0 0 n n σ (F0 m 0 ls []) := by
  unfold f_X1_findShortest_u0 at hw
  refine ml_aload_n (pc := 0) X hl 0 rfl rfl dX1_findShortest_0 ?_
  refine ml_iconst (pc := 1) X dX1_findShortest_1 ?_
  refine pf_X1_30 (pc := 2) X (ml_c70 hn) ⟨by decide, by decide⟩ dX1_findShortest_2 (fun σ1 g1 => ?_)
  have hw := hw σ1 g1
  refine ml_aload_n (pc := 5) X hl 0 rfl rfl dX1_findShortest_5 ?_
  refine gf_X1_17 (pc := 6) X (ml_c70 hn) dX1_findShortest_6 ?_
  refine ml_iconst (pc := 9) X dX1_findShortest_9 ?_
  refine ml_callvS (pc := 10) (rest := []) X [.ref (base + (72 : Int).toNat), .int (Int32.ofInt (-1))] (c_J7_fill_53178 l base D cA n hn σ1 2838 72 (ml_c72 hn) (-1) ⟨by decide, by decide⟩ _ hw) cv_X1_37 ⟨rfl, rfl⟩ ⟨by decide, by decide⟩ rfl rfl hl (Nat.le_of_ble_eq_true rfl) ⟨Nat.zero_le _, Nat.zero_le _⟩ dX1_findShortest_10 (fun σ2 hw => ?_)
  refine ml_aload_n (pc := 13) X hl 0 rfl rfl dX1_findShortest_13 ?_
  refine gf_X1_17 (pc := 14) X (ml_c70 hn) dX1_findShortest_14 ?_
  refine ml_iconst (pc := 17) X dX1_findShortest_17 ?_
  refine ml_iconst (pc := 18) X dX1_findShortest_18 ?_
  obtain ⟨a3, b3, hw⟩ := hw
  refine ml_iast (pc := 19) (N := 2838) X (ml_c72 hn) a3 b3 ⟨by decide, by decide⟩ dX1_findShortest_19 (fun σ3 g3 => ?_)
  have hw := hw σ3 g3
  refine ml_aload_n (pc := 20) X hl 0 rfl rfl dX1_findShortest_20 ?_
  refine gf_X1_13 (pc := 21) X (ml_c70 hn) dX1_findShortest_21 ?_
  refine ml_iconst (pc := 24) X dX1_findShortest_24 ?_
  refine ml_iconst (pc := 25) X dX1_findShortest_25 ?_
  obtain ⟨a4, b4, hw⟩ := hw
  refine ml_iast (pc := 26) (N := 2838) X (ml_c71 hn) a4 b4 ⟨by decide, by decide⟩ dX1_findShortest_26 (fun σ4 g4 => ?_)
  have hw := hw σ4 g4
  refine ml_iconst (pc := 27) X dX1_findShortest_27 ?_
  refine ml_istore_n (pc := 28) X rfl hl (by decide) (lst' := [(3, .int (Int32.ofInt 1)), (0, .ref (base + (70 : Int).toNat)), (1, .ref (base + (55 : Int).toNat)), (2, .int (Int32.ofInt x2))]) rfl dX1_findShortest_28 (fun ls hl => ?_)
  refine ml_iconst (pc := 29) X dX1_findShortest_29 ?_
  refine ml_istore (pc := 30) X hl (by decide) (lst' := [(4, .int (Int32.ofInt 0)), (3, .int (Int32.ofInt 1)), (0, .ref (base + (70 : Int).toNat)), (1, .ref (base + (55 : Int).toNat)), (2, .int (Int32.ofInt x2))]) rfl dX1_findShortest_30 (fun ls hl => ?_)
  obtain ⟨N0, hw⟩ := hw
  exact u_X1_findShortest_32 X hn (fun σ   ls hl hw => u_X1_findShortest_215 X hn σ   ls hl hw) N0 σ4 x2 1 0 h_x2 ⟨by decide, by decide⟩ ⟨by decide, by decide⟩ _ (lv_sub hl [2, 3, 4, 1, 0] rfl) hw
set_option maxRecDepth 100000 in
theorem c_X1_findShortest (l : Launch) (base : Nat) (D : va_G) (cA : Nat → ClassId) (n : Nat) (hn : 214 ≤ n) (σ : ml_St) (x2 : Int) (h_x2 : I32 x2) (Q : ml_St → Prop) (hw : f_X1_findShortest σ x2 Q) : Met l yX1_findShortest (Cond.code yX1_findShortest cX1_findShortest 11 none :: ml_T) rm_X1_findShortest (va_Pc [.ref (base + (70 : Int).toNat), .ref (base + (55 : Int).toNat), .int (Int32.ofInt x2)] (ml_U base D cA n σ)) (ml_Qv base D cA n Q) 0 0 (ml_A base) := by
  refine Met.ofW (cc := cX1_findShortest) (maxL := 11) (ret := none) (by decide) rfl ?_
  intro p e s m args below meth c s₁ B hml hv
  obtain ⟨rfl, hP, hK, hok, hro⟩ := hv
  have X : ml_X p s m c meth _ D cA cX1_findShortest 11 RX1 none := ⟨B.exec, B.bytes, hml, findClass_of_methodNamed B.named, fun w hw => atoms_spec (ws := Cond.code yX1_findShortest cX1_findShortest 11 none :: ml_T) B.pre w (List.mem_cons_of_mem _ hw), hK, B.notSynchronized, B.returns⟩
  have hl := lv_entry [.ref (base + (70 : Int).toNat), .ref (base + (55 : Int).toNat), .int (Int32.ofInt x2)] (n := 11) (Nat.le_of_ble_eq_true rfl)
  rw [lg_entry_eq]
  generalize (lg_sl [.ref (base + (70 : Int).toNat), .ref (base + (55 : Int).toNat), .int (Int32.ofInt x2)] ++ List.replicate (11 - (lg_sl [.ref (base + (70 : Int).toNat), .ref (base + (55 : Int).toNat), .int (Int32.ofInt x2)]).length) Slot.unset).toArray = ls at hl ⊢
  have hl : lv_has ls 11 [(0, .ref (base + (70 : Int).toNat)), (1, .ref (base + (55 : Int).toNat)), (2, .int (Int32.ofInt x2))] := hl
  unfold f_X1_findShortest at hw
  exact u_X1_findShortest_0 X hn σ x2 h_x2 _ (lv_sub hl [0, 1, 2] rfl) hw s.heap [] hP va_S.rf hok hro
theorem dX11_shortest_0 : decode cX11_shortest 0 = .ok (.iload_n 2, 1) := by decide +kernel
theorem dX11_shortest_1 : decode cX11_shortest 1 = .ok (.ifCond .lt 21, 3) := by decide +kernel
theorem dX11_shortest_4 : decode cX11_shortest 4 = .ok (.iload_n 2, 1) := by decide +kernel
theorem dX11_shortest_5 : decode cX11_shortest 5 = .ok (.iconst 3, 1) := by decide +kernel
theorem dX11_shortest_6 : decode cX11_shortest 6 = .ok (.if_icmp .gt 16, 3) := by decide +kernel
theorem dX11_shortest_9 : decode cX11_shortest 9 = .ok (.iload_n 3, 1) := by decide +kernel
theorem dX11_shortest_10 : decode cX11_shortest 10 = .ok (.iconst (-1), 1) := by decide +kernel
theorem dX11_shortest_11 : decode cX11_shortest 11 = .ok (.if_icmp .lt 11, 3) := by decide +kernel
theorem dX11_shortest_14 : decode cX11_shortest 14 = .ok (.aload_n 0, 1) := by decide +kernel
theorem dX11_shortest_15 : decode cX11_shortest 15 = .ok (.iload_n 1, 1) := by decide +kernel
theorem dX11_shortest_16 : decode cX11_shortest 16 = .ok (.invokevirtual 219, 3) := by decide +kernel
theorem dX11_shortest_19 : decode cX11_shortest 19 = .ok (.ifCond .ne 5, 3) := by decide +kernel
theorem dX11_shortest_22 : decode cX11_shortest 22 = .ok (.iconst (-1), 1) := by decide +kernel
theorem dX11_shortest_23 : decode cX11_shortest 23 = .ok (.ireturn, 1) := by decide +kernel
theorem dX11_shortest_24 : decode cX11_shortest 24 = .ok (.aload_n 0, 1) := by decide +kernel
theorem dX11_shortest_25 : decode cX11_shortest 25 = .ok (.getfield 47, 3) := by decide +kernel
theorem dX11_shortest_28 : decode cX11_shortest 28 = .ok (.aload_n 0, 1) := by decide +kernel
theorem dX11_shortest_29 : decode cX11_shortest 29 = .ok (.getfield 19, 3) := by decide +kernel
theorem dX11_shortest_32 : decode cX11_shortest 32 = .ok (.aload_n 0, 1) := by decide +kernel
theorem dX11_shortest_33 : decode cX11_shortest 33 = .ok (.getfield 82, 3) := by decide +kernel
theorem dX11_shortest_36 : decode cX11_shortest 36 = .ok (.invokevirtual 222, 3) := by decide +kernel
theorem dX11_shortest_39 : decode cX11_shortest 39 = .ok (.aload_n 0, 1) := by decide +kernel
theorem dX11_shortest_40 : decode cX11_shortest 40 = .ok (.getfield 54, 3) := by decide +kernel
theorem dX11_shortest_43 : decode cX11_shortest 43 = .ok (.aload_n 0, 1) := by decide +kernel
theorem dX11_shortest_44 : decode cX11_shortest 44 = .ok (.getfield 47, 3) := by decide +kernel
theorem dX11_shortest_47 : decode cX11_shortest 47 = .ok (.iload_n 2, 1) := by decide +kernel
theorem dX11_shortest_48 : decode cX11_shortest 48 = .ok (.invokevirtual 231, 3) := by decide +kernel
theorem dX11_shortest_51 : decode cX11_shortest 51 = .ok (.aload_n 0, 1) := by decide +kernel
theorem dX11_shortest_52 : decode cX11_shortest 52 = .ok (.getfield 54, 3) := by decide +kernel
theorem dX11_shortest_55 : decode cX11_shortest 55 = .ok (.iload_n 3, 1) := by decide +kernel
theorem dX11_shortest_56 : decode cX11_shortest 56 = .ok (.invokevirtual 235, 3) := by decide +kernel
theorem dX11_shortest_59 : decode cX11_shortest 59 = .ok (.ireturn, 1) := by decide +kernel
def f_X11_shortest_u22 (Q : Int → ml_St → Prop) (σ : ml_St) : Prop :=
Q (-1) σ
def f_X11_shortest_u0 (Q : Int → ml_St → Prop) (σ : ml_St) (x1 : Int) (x2 : Int) (x3 : Int) : Prop :=
(x2 < 0 →
f_X11_shortest_u22 Q σ) ∧
(¬ (x2 < 0) →
(3 < x2 →
f_X11_shortest_u22 Q σ) ∧
(¬ (3 < x2) →
(x3 < (-1) →
f_X11_shortest_u22 Q σ) ∧
(¬ (x3 < (-1)) →
f_X11_openLetters σ x1 (fun r4 σ4 => ∀ _ : ml_B r4,
(r4 ≠ 0 →
∀ _ : I32 (σ4 1 11),
f_X7_closeAll σ4 (σ4 1 11) (fun σ7 =>
f_X1_findShortest σ7 x2 (fun σ8 =>
f_X1_answer σ8 x3 (fun r9 σ9 => ∀ _ : I32 r9,
Q r9 σ9)))) ∧
(r4 = 0 →
f_X11_shortest_u22 Q σ4)))))
def f_X11_shortest (σ : ml_St) (x1 : Int) (x2 : Int) (x3 : Int) (Q : Int → ml_St → Prop) : Prop := f_X11_shortest_u0 Q σ x1 x2 x3
def rm_X11_shortest : Room := { frames := 6, cells := 0, slots := 0, locals := 186 }
set_option maxRecDepth 100000 in
set_option maxHeartbeats 4000000 in
theorem u_X11_shortest_22 {p : Program} {e : Env} {s : State} {m : MethodId} {args : Array Value} {below : List Frame} {meth : Method} {c : Code} {base : Nat} {D : va_G} {cA : Nat → ClassId} {n : Nat} {l : Launch} {Q : Int → ml_St → Prop} (X : ml_X p s m c meth args D cA cX11_shortest 4 RX11 (some .int)) (hn : 214 ≤ n) (σ : ml_St) (ls : Array Slot) (hl : lv_has ls 4 []) (hw : f_X11_shortest_u22 Q σ) : ml_V p l e rm_X11_shortest s m args below meth c (MQ below (ml_Qi I32 base D cA n Q) args s 0 0 (ml_A base)) base D cA 0 0 n n σ (F0 m 22 ls []) := by
  unfold f_X11_shortest_u22 at hw
  refine ml_iconst (pc := 22) X dX11_shortest_22 ?_
  exact ml_iret (pc := 23) X ⟨by decide, by decide⟩ hw dX11_shortest_23
set_option maxRecDepth 100000 in
set_option maxHeartbeats 4000000 in
theorem u_X11_shortest_0 {p : Program} {e : Env} {s : State} {m : MethodId} {args : Array Value} {below : List Frame} {meth : Method} {c : Code} {base : Nat} {D : va_G} {cA : Nat → ClassId} {n : Nat} {l : Launch} {Q : Int → ml_St → Prop} (X : ml_X p s m c meth args D cA cX11_shortest 4 RX11 (some .int)) (hn : 214 ≤ n) (σ : ml_St) (x1 : Int) (x2 : Int) (x3 : Int) (h_x1 : I32 x1) (h_x2 : I32 x2) (h_x3 : I32 x3) (ls : Array Slot) (hl : lv_has ls 4 [(0, .ref (base + (1 : Int).toNat)), (1, .int (Int32.ofInt x1)), (2, .int (Int32.ofInt x2)), (3, .int (Int32.ofInt x3))]) (hw : f_X11_shortest_u0 Q σ x1 x2 x3) : ml_V p l e rm_X11_shortest s m args below meth c (MQ below (ml_Qi I32 base D cA n Q) args s 0 0 (ml_A base)) base D cA 0 0 n n σ (F0 m 0 ls []) := by
  unfold f_X11_shortest_u0 at hw
  refine ml_iload_n (pc := 0) X hl 2 rfl rfl dX11_shortest_0 ?_
  refine ml_if_lt (pc := 1) (tgt := 22) X h_x2 dX11_shortest_1 (by decide) (fun c1 => ?_) (fun c1 => ?_)
  · have hw := hw.1 c1
    exact u_X11_shortest_22 X hn σ   _ (lv_sub hl [] rfl) hw
  · have hw := hw.2 c1
    refine ml_iload_n (pc := 4) X hl 2 rfl rfl dX11_shortest_4 ?_
    refine ml_iconst (pc := 5) X dX11_shortest_5 ?_
    refine ml_icmp_gt (pc := 6) (tgt := 22) X h_x2 ⟨by decide, by decide⟩ dX11_shortest_6 (by decide) (fun c2 => ?_) (fun c2 => ?_)
    · have hw := hw.1 c2
      exact u_X11_shortest_22 X hn σ   _ (lv_sub hl [] rfl) hw
    · have hw := hw.2 c2
      refine ml_iload_n (pc := 9) X hl 3 rfl rfl dX11_shortest_9 ?_
      refine ml_iconst (pc := 10) X dX11_shortest_10 ?_
      refine ml_icmp_lt (pc := 11) (tgt := 22) X h_x3 ⟨by decide, by decide⟩ dX11_shortest_11 (by decide) (fun c3 => ?_) (fun c3 => ?_)
      · have hw := hw.1 c3
        exact u_X11_shortest_22 X hn σ   _ (lv_sub hl [] rfl) hw
      · have hw := hw.2 c3
        refine ml_aload_n (pc := 14) X hl 0 rfl rfl dX11_shortest_14 ?_
        refine ml_iload_n (pc := 15) X hl 1 rfl rfl dX11_shortest_15 ?_
        refine ml_callzV (pc := 16) (rest := []) X [.int (Int32.ofInt x1)] (by decide) rfl (ml_c1 hn) (c_X11_openLetters l base D cA n hn σ x1 h_x1 _ hw) cv_X11_219 ⟨rfl, rfl⟩ ⟨by decide, by decide⟩ rfl rfl hl (Nat.le_of_ble_eq_true rfl) ⟨Nat.zero_le _, Nat.zero_le _⟩ dX11_shortest_16 (fun r4 σ4 t4 hw => ?_)
        have hw := hw t4
        refine ml_if_ne (pc := 19) (tgt := 24) X t4.i dX11_shortest_19 (by decide) (fun c5 => ?_) (fun c5 => ?_)
        · have hw := hw.1 c5
          refine ml_aload_n (pc := 24) X hl 0 rfl rfl dX11_shortest_24 ?_
          refine gf_X11_47 (pc := 25) X (ml_c1 hn) dX11_shortest_25 ?_
          refine ml_aload_n (pc := 28) X hl 0 rfl rfl dX11_shortest_28 ?_
          refine gf_X11_19 (pc := 29) X (ml_c1 hn) dX11_shortest_29 ?_
          refine ml_aload_n (pc := 32) X hl 0 rfl rfl dX11_shortest_32 ?_
          refine gf_X11_82 (pc := 33) X (ml_c1 hn) dX11_shortest_33 (fun r6 => ?_)
          have hw := hw r6
          refine ml_callvV (pc := 36) (rest := []) X [.ref (base + (4 : Int).toNat), .int (Int32.ofInt (σ4 1 11))] (by decide) rfl (ml_c55 hn) (c_X7_closeAll l base D cA n hn σ4 (σ4 1 11) r6 _ hw) cv_X11_222 ⟨rfl, rfl⟩ ⟨by decide, by decide⟩ rfl rfl hl (Nat.le_of_ble_eq_true rfl) ⟨Nat.zero_le _, Nat.zero_le _⟩ dX11_shortest_36 (fun σ7 hw => ?_)
          refine ml_aload_n (pc := 39) X hl 0 rfl rfl dX11_shortest_39 ?_
          refine gf_X11_54 (pc := 40) X (ml_c1 hn) dX11_shortest_40 ?_
          refine ml_aload_n (pc := 43) X hl 0 rfl rfl dX11_shortest_43 ?_
          refine gf_X11_47 (pc := 44) X (ml_c1 hn) dX11_shortest_44 ?_
          refine ml_iload_n (pc := 47) X hl 2 rfl rfl dX11_shortest_47 ?_
          refine ml_callvV (pc := 48) (rest := []) X [.ref (base + (55 : Int).toNat), .int (Int32.ofInt x2)] (by decide) rfl (ml_c70 hn) (c_X1_findShortest l base D cA n hn σ7 x2 h_x2 _ hw) cv_X11_231 ⟨rfl, rfl⟩ ⟨by decide, by decide⟩ rfl rfl hl (Nat.le_of_ble_eq_true rfl) ⟨Nat.zero_le _, Nat.zero_le _⟩ dX11_shortest_48 (fun σ8 hw => ?_)
          refine ml_aload_n (pc := 51) X hl 0 rfl rfl dX11_shortest_51 ?_
          refine gf_X11_54 (pc := 52) X (ml_c1 hn) dX11_shortest_52 ?_
          refine ml_iload_n (pc := 55) X hl 3 rfl rfl dX11_shortest_55 ?_
          refine ml_calliV (pc := 56) (rest := []) X [.int (Int32.ofInt x3)] (by decide) rfl (ml_c70 hn) (c_X1_answer l base D cA n hn σ8 x3 h_x3 _ hw) cv_X11_235 ⟨rfl, rfl⟩ ⟨by decide, by decide⟩ rfl rfl hl (Nat.le_of_ble_eq_true rfl) ⟨Nat.zero_le _, Nat.zero_le _⟩ dX11_shortest_56 (fun r9 σ9 t9 hw => ?_)
          have hw := hw t9
          exact ml_iret (pc := 59) X t9 hw dX11_shortest_59
        · have hw := hw.2 c5
          exact u_X11_shortest_22 X hn σ4   _ (lv_sub hl [] rfl) hw
set_option maxRecDepth 100000 in
theorem c_X11_shortest (l : Launch) (base : Nat) (D : va_G) (cA : Nat → ClassId) (n : Nat) (hn : 214 ≤ n) (σ : ml_St) (x1 : Int) (x2 : Int) (x3 : Int) (h_x1 : I32 x1) (h_x2 : I32 x2) (h_x3 : I32 x3) (Q : Int → ml_St → Prop) (hw : f_X11_shortest σ x1 x2 x3 Q) : Met l yX11_shortest (Cond.code yX11_shortest cX11_shortest 4 (some .int) :: ml_T) rm_X11_shortest (va_Pc [.ref (base + (1 : Int).toNat), .int (Int32.ofInt x1), .int (Int32.ofInt x2), .int (Int32.ofInt x3)] (ml_U base D cA n σ)) (ml_Qi I32 base D cA n Q) 0 0 (ml_A base) := by
  refine Met.ofW (cc := cX11_shortest) (maxL := 4) (ret := (some .int)) (by decide) rfl ?_
  intro p e s m args below meth c s₁ B hml hv
  obtain ⟨rfl, hP, hK, hok, hro⟩ := hv
  have X : ml_X p s m c meth _ D cA cX11_shortest 4 RX11 (some .int) := ⟨B.exec, B.bytes, hml, findClass_of_methodNamed B.named, fun w hw => atoms_spec (ws := Cond.code yX11_shortest cX11_shortest 4 (some .int) :: ml_T) B.pre w (List.mem_cons_of_mem _ hw), hK, B.notSynchronized, B.returns⟩
  have hl := lv_entry [.ref (base + (1 : Int).toNat), .int (Int32.ofInt x1), .int (Int32.ofInt x2), .int (Int32.ofInt x3)] (n := 4) (Nat.le_of_ble_eq_true rfl)
  rw [lg_entry_eq]
  generalize (lg_sl [.ref (base + (1 : Int).toNat), .int (Int32.ofInt x1), .int (Int32.ofInt x2), .int (Int32.ofInt x3)] ++ List.replicate (4 - (lg_sl [.ref (base + (1 : Int).toNat), .int (Int32.ofInt x1), .int (Int32.ofInt x2), .int (Int32.ofInt x3)]).length) Slot.unset).toArray = ls at hl ⊢
  have hl : lv_has ls 4 [(0, .ref (base + (1 : Int).toNat)), (1, .int (Int32.ofInt x1)), (2, .int (Int32.ofInt x2)), (3, .int (Int32.ofInt x3))] := hl
  unfold f_X11_shortest at hw
  exact u_X11_shortest_0 X hn σ x1 x2 x3 h_x1 h_x2 h_x3 _ (lv_sub hl [0, 1, 2, 3] rfl) hw s.heap [] hP va_S.rf hok hro
theorem dX11_cost_0 : decode cX11_cost 0 = .ok (.aload_n 0, 1) := by decide +kernel
theorem dX11_cost_1 : decode cX11_cost 1 = .ok (.iload_n 1, 1) := by decide +kernel
theorem dX11_cost_2 : decode cX11_cost 2 = .ok (.invokevirtual 104, 3) := by decide +kernel
theorem dX11_cost_5 : decode cX11_cost 5 = .ok (.ifCond .eq 15, 3) := by decide +kernel
theorem dX11_cost_8 : decode cX11_cost 8 = .ok (.iload_n 2, 1) := by decide +kernel
theorem dX11_cost_9 : decode cX11_cost 9 = .ok (.iconst 1, 1) := by decide +kernel
theorem dX11_cost_10 : decode cX11_cost 10 = .ok (.if_icmp .lt 10, 3) := by decide +kernel
theorem dX11_cost_13 : decode cX11_cost 13 = .ok (.iload_n 2, 1) := by decide +kernel
theorem dX11_cost_14 : decode cX11_cost 14 = .ok (.sipush 1000, 3) := by decide +kernel
theorem dX11_cost_17 : decode cX11_cost 17 = .ok (.if_icmp .le 5, 3) := by decide +kernel
theorem dX11_cost_20 : decode cX11_cost 20 = .ok (.iconst 0, 1) := by decide +kernel
theorem dX11_cost_21 : decode cX11_cost 21 = .ok (.ireturn, 1) := by decide +kernel
theorem dX11_cost_22 : decode cX11_cost 22 = .ok (.aload_n 0, 1) := by decide +kernel
theorem dX11_cost_23 : decode cX11_cost 23 = .ok (.getfield 67, 3) := by decide +kernel
theorem dX11_cost_26 : decode cX11_cost 26 = .ok (.iload_n 1, 1) := by decide +kernel
theorem dX11_cost_27 : decode cX11_cost 27 = .ok (.aaload, 1) := by decide +kernel
theorem dX11_cost_28 : decode cX11_cost 28 = .ok (.iload_n 2, 1) := by decide +kernel
theorem dX11_cost_29 : decode cX11_cost 29 = .ok (.putfield 239, 3) := by decide +kernel
theorem dX11_cost_32 : decode cX11_cost 32 = .ok (.iconst 1, 1) := by decide +kernel
theorem dX11_cost_33 : decode cX11_cost 33 = .ok (.ireturn, 1) := by decide +kernel
def f_X11_cost_u20 (Q : Int → ml_St → Prop) (σ : ml_St) : Prop :=
Q 0 σ
def f_X11_cost_u0 (Q : Int → ml_St → Prop) (σ : ml_St) (x1 : Int) (x2 : Int) : Prop :=
f_X11_isTold σ x1 (fun r1 σ1 => ∀ _ : ml_B r1,
(r1 = 0 →
f_X11_cost_u20 Q σ1) ∧
(r1 ≠ 0 →
(x2 < 1 →
f_X11_cost_u20 Q σ1) ∧
(¬ (x2 < 1) →
(x2 ≤ 1000 →
(0 : Int) ≤ x1 ∧ (x1 : Int) < 16 ∧
∀ σ6, σ6 = ml_up σ1 (119 + 6 * x1) 3 x2 →
Q 1 σ6) ∧
(¬ (x2 ≤ 1000) →
f_X11_cost_u20 Q σ1))))
def f_X11_cost (σ : ml_St) (x1 : Int) (x2 : Int) (Q : Int → ml_St → Prop) : Prop := f_X11_cost_u0 Q σ x1 x2
def rm_X11_cost : Room := { frames := 1, cells := 0, slots := 0, locals := 21 }
set_option maxRecDepth 100000 in
set_option maxHeartbeats 4000000 in
theorem u_X11_cost_20 {p : Program} {e : Env} {s : State} {m : MethodId} {args : Array Value} {below : List Frame} {meth : Method} {c : Code} {base : Nat} {D : va_G} {cA : Nat → ClassId} {n : Nat} {l : Launch} {Q : Int → ml_St → Prop} (X : ml_X p s m c meth args D cA cX11_cost 3 RX11 (some .boolean)) (hn : 214 ≤ n) (σ : ml_St) (ls : Array Slot) (hl : lv_has ls 3 []) (hw : f_X11_cost_u20 Q σ) : ml_V p l e rm_X11_cost s m args below meth c (MQ below (ml_Qi ml_B base D cA n Q) args s 0 0 (ml_A base)) base D cA 0 0 n n σ (F0 m 20 ls []) := by
  unfold f_X11_cost_u20 at hw
  refine ml_iconst (pc := 20) X dX11_cost_20 ?_
  exact ml_zret (pc := 21) X ⟨by decide, by decide⟩ hw dX11_cost_21
set_option maxRecDepth 100000 in
set_option maxHeartbeats 4000000 in
theorem u_X11_cost_0 {p : Program} {e : Env} {s : State} {m : MethodId} {args : Array Value} {below : List Frame} {meth : Method} {c : Code} {base : Nat} {D : va_G} {cA : Nat → ClassId} {n : Nat} {l : Launch} {Q : Int → ml_St → Prop} (X : ml_X p s m c meth args D cA cX11_cost 3 RX11 (some .boolean)) (hn : 214 ≤ n) (σ : ml_St) (x1 : Int) (x2 : Int) (h_x1 : I32 x1) (h_x2 : I32 x2) (ls : Array Slot) (hl : lv_has ls 3 [(0, .ref (base + (1 : Int).toNat)), (1, .int (Int32.ofInt x1)), (2, .int (Int32.ofInt x2))]) (hw : f_X11_cost_u0 Q σ x1 x2) : ml_V p l e rm_X11_cost s m args below meth c (MQ below (ml_Qi ml_B base D cA n Q) args s 0 0 (ml_A base)) base D cA 0 0 n n σ (F0 m 0 ls []) := by
  unfold f_X11_cost_u0 at hw
  refine ml_aload_n (pc := 0) X hl 0 rfl rfl dX11_cost_0 ?_
  refine ml_iload_n (pc := 1) X hl 1 rfl rfl dX11_cost_1 ?_
  refine ml_callzV (pc := 2) (rest := []) X [.int (Int32.ofInt x1)] (by decide) rfl (ml_c1 hn) (c_X11_isTold l base D cA n hn σ x1 h_x1 _ hw) cv_X11_104 ⟨rfl, rfl⟩ ⟨by decide, by decide⟩ rfl rfl hl (Nat.le_of_ble_eq_true rfl) ⟨Nat.zero_le _, Nat.zero_le _⟩ dX11_cost_2 (fun r1 σ1 t1 hw => ?_)
  have hw := hw t1
  refine ml_if_eq (pc := 5) (tgt := 20) X t1.i dX11_cost_5 (by decide) (fun c2 => ?_) (fun c2 => ?_)
  · have hw := hw.1 c2
    exact u_X11_cost_20 X hn σ1   _ (lv_sub hl [] rfl) hw
  · have hw := hw.2 c2
    refine ml_iload_n (pc := 8) X hl 2 rfl rfl dX11_cost_8 ?_
    refine ml_iconst (pc := 9) X dX11_cost_9 ?_
    refine ml_icmp_lt (pc := 10) (tgt := 20) X h_x2 ⟨by decide, by decide⟩ dX11_cost_10 (by decide) (fun c3 => ?_) (fun c3 => ?_)
    · have hw := hw.1 c3
      exact u_X11_cost_20 X hn σ1   _ (lv_sub hl [] rfl) hw
    · have hw := hw.2 c3
      refine ml_iload_n (pc := 13) X hl 2 rfl rfl dX11_cost_13 ?_
      refine ml_sipush (pc := 14) X dX11_cost_14 (by decide) ?_
      refine ml_icmp_le (pc := 17) (tgt := 22) X h_x2 ⟨by decide, by decide⟩ dX11_cost_17 (by decide) (fun c4 => ?_) (fun c4 => ?_)
      · have hw := hw.1 c4
        refine ml_aload_n (pc := 22) X hl 0 rfl rfl dX11_cost_22 ?_
        refine gf_X11_67 (pc := 23) X (ml_c1 hn) dX11_cost_23 ?_
        refine ml_iload_n (pc := 26) X hl 1 rfl rfl dX11_cost_26 ?_
        obtain ⟨a5, b5, hw⟩ := hw
        refine ml_aald_words (pc := 27) X hn a5 b5 dX11_cost_27 ?_
        refine ml_iload_n (pc := 28) X hl 2 rfl rfl dX11_cost_28 ?_
        refine pf_X11_239 (pc := 29) X (ml_at_words hn a5 b5) h_x2 dX11_cost_29 (fun σ6 g6 => ?_)
        have hw := hw σ6 g6
        refine ml_iconst (pc := 32) X dX11_cost_32 ?_
        exact ml_zret (pc := 33) X ⟨by decide, by decide⟩ hw dX11_cost_33
      · have hw := hw.2 c4
        exact u_X11_cost_20 X hn σ1   _ (lv_sub hl [] rfl) hw
set_option maxRecDepth 100000 in
theorem c_X11_cost (l : Launch) (base : Nat) (D : va_G) (cA : Nat → ClassId) (n : Nat) (hn : 214 ≤ n) (σ : ml_St) (x1 : Int) (x2 : Int) (h_x1 : I32 x1) (h_x2 : I32 x2) (Q : Int → ml_St → Prop) (hw : f_X11_cost σ x1 x2 Q) : Met l yX11_cost (Cond.code yX11_cost cX11_cost 3 (some .boolean) :: ml_T) rm_X11_cost (va_Pc [.ref (base + (1 : Int).toNat), .int (Int32.ofInt x1), .int (Int32.ofInt x2)] (ml_U base D cA n σ)) (ml_Qi ml_B base D cA n Q) 0 0 (ml_A base) := by
  refine Met.ofW (cc := cX11_cost) (maxL := 3) (ret := (some .boolean)) (by decide) rfl ?_
  intro p e s m args below meth c s₁ B hml hv
  obtain ⟨rfl, hP, hK, hok, hro⟩ := hv
  have X : ml_X p s m c meth _ D cA cX11_cost 3 RX11 (some .boolean) := ⟨B.exec, B.bytes, hml, findClass_of_methodNamed B.named, fun w hw => atoms_spec (ws := Cond.code yX11_cost cX11_cost 3 (some .boolean) :: ml_T) B.pre w (List.mem_cons_of_mem _ hw), hK, B.notSynchronized, B.returns⟩
  have hl := lv_entry [.ref (base + (1 : Int).toNat), .int (Int32.ofInt x1), .int (Int32.ofInt x2)] (n := 3) (Nat.le_of_ble_eq_true rfl)
  rw [lg_entry_eq]
  generalize (lg_sl [.ref (base + (1 : Int).toNat), .int (Int32.ofInt x1), .int (Int32.ofInt x2)] ++ List.replicate (3 - (lg_sl [.ref (base + (1 : Int).toNat), .int (Int32.ofInt x1), .int (Int32.ofInt x2)]).length) Slot.unset).toArray = ls at hl ⊢
  have hl : lv_has ls 3 [(0, .ref (base + (1 : Int).toNat)), (1, .int (Int32.ofInt x1)), (2, .int (Int32.ofInt x2))] := hl
  unfold f_X11_cost at hw
  exact u_X11_cost_0 X hn σ x1 x2 h_x1 h_x2 _ (lv_sub hl [0, 1, 2] rfl) hw s.heap [] hP va_S.rf hok hro
theorem dX1_weightBy_0 : decode cX1_weightBy 0 = .ok (.aload_n 2, 1) := by decide +kernel
theorem dX1_weightBy_1 : decode cX1_weightBy 1 = .ok (.aload_n 1, 1) := by decide +kernel
theorem dX1_weightBy_2 : decode cX1_weightBy 2 = .ok (.getfield 52, 3) := by decide +kernel
theorem dX1_weightBy_5 : decode cX1_weightBy 5 = .ok (.iload 4, 2) := by decide +kernel
theorem dX1_weightBy_7 : decode cX1_weightBy 7 = .ok (.iaload, 1) := by decide +kernel
theorem dX1_weightBy_8 : decode cX1_weightBy 8 = .ok (.aaload, 1) := by decide +kernel
theorem dX1_weightBy_9 : decode cX1_weightBy 9 = .ok (.getfield 70, 3) := by decide +kernel
theorem dX1_weightBy_12 : decode cX1_weightBy 12 = .ok (.i2l, 1) := by decide +kernel
theorem dX1_weightBy_13 : decode cX1_weightBy 13 = .ok (.ldc2_w 81, 3) := by decide +kernel
theorem dX1_weightBy_16 : decode cX1_weightBy 16 = .ok (.lmul, 1) := by decide +kernel
theorem dX1_weightBy_17 : decode cX1_weightBy 17 = .ok (.lconst 1, 1) := by decide +kernel
theorem dX1_weightBy_18 : decode cX1_weightBy 18 = .ok (.ladd, 1) := by decide +kernel
theorem dX1_weightBy_19 : decode cX1_weightBy 19 = .ok (.lstore 5, 2) := by decide +kernel
theorem dX1_weightBy_21 : decode cX1_weightBy 21 = .ok (.lload 5, 2) := by decide +kernel
theorem dX1_weightBy_23 : decode cX1_weightBy 23 = .ok (.aload_n 0, 1) := by decide +kernel
theorem dX1_weightBy_24 : decode cX1_weightBy 24 = .ok (.getfield 26, 3) := by decide +kernel
theorem dX1_weightBy_27 : decode cX1_weightBy 27 = .ok (.aload_n 1, 1) := by decide +kernel
theorem dX1_weightBy_28 : decode cX1_weightBy 28 = .ok (.getfield 49, 3) := by decide +kernel
theorem dX1_weightBy_31 : decode cX1_weightBy 31 = .ok (.iload_n 3, 1) := by decide +kernel
theorem dX1_weightBy_32 : decode cX1_weightBy 32 = .ok (.bipush 6, 2) := by decide +kernel
theorem dX1_weightBy_34 : decode cX1_weightBy 34 = .ok (.imul, 1) := by decide +kernel
theorem dX1_weightBy_35 : decode cX1_weightBy 35 = .ok (.iload 4, 2) := by decide +kernel
theorem dX1_weightBy_37 : decode cX1_weightBy 37 = .ok (.iadd, 1) := by decide +kernel
theorem dX1_weightBy_38 : decode cX1_weightBy 38 = .ok (.iaload, 1) := by decide +kernel
theorem dX1_weightBy_39 : decode cX1_weightBy 39 = .ok (.laload, 1) := by decide +kernel
theorem dX1_weightBy_40 : decode cX1_weightBy 40 = .ok (.ladd, 1) := by decide +kernel
theorem dX1_weightBy_41 : decode cX1_weightBy 41 = .ok (.lreturn, 1) := by decide +kernel
def f_X1_weightBy_u0 (Q : Int → ml_St → Prop) (σ : ml_St) (x3 : Int) (x4 : Int) : Prop :=
(0 : Int) ≤ x4 ∧ (x4 : Int) < 6 ∧
∀ _ : I32 (σ 56 x4),
(0 : Int) ≤ (σ 56 x4) ∧ ((σ 56 x4) : Int) < 16 ∧
∀ _ : I32 (σ (119 + 6 * (σ 56 x4)) 3),
∀ y6 : Int, y6 = w64 ((w64 ((σ (119 + 6 * (σ 56 x4)) 3) * 1048576)) + 1) →
I32 (x3 * 6) ∧
I32 ((x3 * 6) + x4) ∧
(0 : Int) ≤ ((x3 * 6) + x4) ∧ (((x3 * 6) + x4) : Int) < 5676 ∧
∀ _ : I32 (σ 58 ((x3 * 6) + x4)),
(0 : Int) ≤ (σ 58 ((x3 * 6) + x4)) ∧ ((σ 58 ((x3 * 6) + x4)) : Int) < 946 ∧
∀ _ : I64 (σ 75 (σ 58 ((x3 * 6) + x4))),
Q (w64 (y6 + (σ 75 (σ 58 ((x3 * 6) + x4))))) σ
def f_X1_weightBy (σ : ml_St) (x3 : Int) (x4 : Int) (Q : Int → ml_St → Prop) : Prop := f_X1_weightBy_u0 Q σ x3 x4
def rm_X1_weightBy : Room := { frames := 0, cells := 0, slots := 0, locals := 0 }
set_option maxRecDepth 100000 in
set_option maxHeartbeats 4000000 in
theorem u_X1_weightBy_0 {p : Program} {e : Env} {s : State} {m : MethodId} {args : Array Value} {below : List Frame} {meth : Method} {c : Code} {base : Nat} {D : va_G} {cA : Nat → ClassId} {n : Nat} {l : Launch} {Q : Int → ml_St → Prop} (X : ml_X p s m c meth args D cA cX1_weightBy 7 RX1 (some .long)) (hn : 214 ≤ n) (σ : ml_St) (x3 : Int) (x4 : Int) (h_x3 : I32 x3) (h_x4 : I32 x4) (ls : Array Slot) (hl : lv_has ls 7 [(0, .ref (base + (70 : Int).toNat)), (1, .ref (base + (55 : Int).toNat)), (2, .ref (base + (114 : Int).toNat)), (3, .int (Int32.ofInt x3)), (4, .int (Int32.ofInt x4))]) (hw : f_X1_weightBy_u0 Q σ x3 x4) : ml_V p l e rm_X1_weightBy s m args below meth c (MQ below (ml_Ql base D cA n Q) args s 0 0 (ml_A base)) base D cA 0 0 n n σ (F0 m 0 ls []) := by
  unfold f_X1_weightBy_u0 at hw
  refine ml_aload_n (pc := 0) X hl 2 rfl rfl dX1_weightBy_0 ?_
  refine ml_aload_n (pc := 1) X hl 1 rfl rfl dX1_weightBy_1 ?_
  refine gf_X1_52 (pc := 2) X (ml_c55 hn) dX1_weightBy_2 ?_
  refine ml_iload (pc := 5) X hl 4 rfl dX1_weightBy_5 ?_
  obtain ⟨a1, b1, hw⟩ := hw
  refine ml_iald (pc := 7) (N := 6) X (ml_c56 hn) a1 b1 dX1_weightBy_7 (fun r1 => ?_)
  have hw := hw r1
  obtain ⟨a2, b2, hw⟩ := hw
  refine ml_aald_words (pc := 8) X hn a2 b2 dX1_weightBy_8 ?_
  refine gf_X1_70 (pc := 9) X (ml_at_words hn a2 b2) dX1_weightBy_9 (fun r3 => ?_)
  have hw := hw r3
  refine ml_i2l (pc := 12) X r3 dX1_weightBy_12 ?_
  refine ml_ldc2 (pc := 13) (v := 1048576) X dX1_weightBy_13 tc_4_118 ?_
  refine ml_lmulW (pc := 16) X dX1_weightBy_16 ?_
  refine ml_lconst1 (pc := 17) X dX1_weightBy_17 ?_
  refine ml_laddW (pc := 18) X dX1_weightBy_18 ?_
  refine ml_topL (pc := 19) (fun y6 e6 => ?_)
  have hw := hw y6 e6
  have q6 : I64 y6 := by rw [e6]; exact (w64_r _)
  refine ml_lstore (pc := 19) X hl (by decide) (lst' := [(5, .long (Int64.ofInt y6)), (0, .ref (base + (70 : Int).toNat)), (1, .ref (base + (55 : Int).toNat)), (2, .ref (base + (114 : Int).toNat)), (3, .int (Int32.ofInt x3)), (4, .int (Int32.ofInt x4))]) rfl dX1_weightBy_19 (fun ls hl => ?_)
  refine ml_lload (pc := 21) X hl 0 rfl dX1_weightBy_21 ?_
  refine ml_aload_n (pc := 23) X hl 1 rfl rfl dX1_weightBy_23 ?_
  refine gf_X1_26 (pc := 24) X (ml_c70 hn) dX1_weightBy_24 ?_
  refine ml_aload_n (pc := 27) X hl 2 rfl rfl dX1_weightBy_27 ?_
  refine gf_X1_49 (pc := 28) X (ml_c55 hn) dX1_weightBy_28 ?_
  refine ml_iload_n (pc := 31) X hl 4 rfl rfl dX1_weightBy_31 ?_
  refine ml_bipush (pc := 32) X dX1_weightBy_32 (by decide) ?_
  obtain ⟨v7, hw⟩ := hw
  refine ml_imul (pc := 34) X dX1_weightBy_34 ?_
  refine ml_iload (pc := 35) X hl 5 rfl dX1_weightBy_35 ?_
  obtain ⟨v8, hw⟩ := hw
  refine ml_iadd (pc := 37) X dX1_weightBy_37 ?_
  obtain ⟨a9, b9, hw⟩ := hw
  refine ml_iald (pc := 38) (N := 5676) X (ml_c58 hn) a9 b9 dX1_weightBy_38 (fun r9 => ?_)
  have hw := hw r9
  obtain ⟨a10, b10, hw⟩ := hw
  refine ml_lald (pc := 39) (N := 946) X (ml_c75 hn) a10 b10 dX1_weightBy_39 (fun r10 => ?_)
  have hw := hw r10
  refine ml_laddW (pc := 40) X dX1_weightBy_40 ?_
  exact ml_lret (pc := 41) X (w64_r _) hw dX1_weightBy_41
set_option maxRecDepth 100000 in
theorem c_X1_weightBy (l : Launch) (base : Nat) (D : va_G) (cA : Nat → ClassId) (n : Nat) (hn : 214 ≤ n) (σ : ml_St) (x3 : Int) (x4 : Int) (h_x3 : I32 x3) (h_x4 : I32 x4) (Q : Int → ml_St → Prop) (hw : f_X1_weightBy σ x3 x4 Q) : Met l yX1_weightBy (Cond.code yX1_weightBy cX1_weightBy 7 (some .long) :: ml_T) rm_X1_weightBy (va_Pc [.ref (base + (70 : Int).toNat), .ref (base + (55 : Int).toNat), .ref (base + (114 : Int).toNat), .int (Int32.ofInt x3), .int (Int32.ofInt x4)] (ml_U base D cA n σ)) (ml_Ql base D cA n Q) 0 0 (ml_A base) := by
  refine Met.ofW (cc := cX1_weightBy) (maxL := 7) (ret := (some .long)) (by decide) rfl ?_
  intro p e s m args below meth c s₁ B hml hv
  obtain ⟨rfl, hP, hK, hok, hro⟩ := hv
  have X : ml_X p s m c meth _ D cA cX1_weightBy 7 RX1 (some .long) := ⟨B.exec, B.bytes, hml, findClass_of_methodNamed B.named, fun w hw => atoms_spec (ws := Cond.code yX1_weightBy cX1_weightBy 7 (some .long) :: ml_T) B.pre w (List.mem_cons_of_mem _ hw), hK, B.notSynchronized, B.returns⟩
  have hl := lv_entry [.ref (base + (70 : Int).toNat), .ref (base + (55 : Int).toNat), .ref (base + (114 : Int).toNat), .int (Int32.ofInt x3), .int (Int32.ofInt x4)] (n := 7) (Nat.le_of_ble_eq_true rfl)
  rw [lg_entry_eq]
  generalize (lg_sl [.ref (base + (70 : Int).toNat), .ref (base + (55 : Int).toNat), .ref (base + (114 : Int).toNat), .int (Int32.ofInt x3), .int (Int32.ofInt x4)] ++ List.replicate (7 - (lg_sl [.ref (base + (70 : Int).toNat), .ref (base + (55 : Int).toNat), .ref (base + (114 : Int).toNat), .int (Int32.ofInt x3), .int (Int32.ofInt x4)]).length) Slot.unset).toArray = ls at hl ⊢
  have hl : lv_has ls 7 [(0, .ref (base + (70 : Int).toNat)), (1, .ref (base + (55 : Int).toNat)), (2, .ref (base + (114 : Int).toNat)), (3, .int (Int32.ofInt x3)), (4, .int (Int32.ofInt x4))] := hl
  unfold f_X1_weightBy at hw
  exact u_X1_weightBy_0 X hn σ x3 x4 h_x3 h_x4 _ (lv_sub hl [0, 1, 2, 3, 4] rfl) hw s.heap [] hP va_S.rf hok hro
theorem dX1_weighRests_0 : decode cX1_weighRests 0 = .ok (.aload_n 0, 1) := by decide +kernel
theorem dX1_weighRests_1 : decode cX1_weighRests 1 = .ok (.getfield 26, 3) := by decide +kernel
theorem dX1_weighRests_4 : decode cX1_weighRests 4 = .ok (.ldc2_w 73, 3) := by decide +kernel
theorem dX1_weighRests_7 : decode cX1_weighRests 7 = .ok (.invokestatic 75, 3) := by decide +kernel
theorem dX1_weighRests_10 : decode cX1_weighRests 10 = .ok (.aload_n 0, 1) := by decide +kernel
theorem dX1_weighRests_11 : decode cX1_weighRests 11 = .ok (.getfield 26, 3) := by decide +kernel
theorem dX1_weighRests_14 : decode cX1_weighRests 14 = .ok (.iload_n 3, 1) := by decide +kernel
theorem dX1_weighRests_15 : decode cX1_weighRests 15 = .ok (.lconst 0, 1) := by decide +kernel
theorem dX1_weighRests_16 : decode cX1_weighRests 16 = .ok (.lastore, 1) := by decide +kernel
theorem dX1_weighRests_17 : decode cX1_weighRests 17 = .ok (.iconst 1, 1) := by decide +kernel
theorem dX1_weighRests_18 : decode cX1_weighRests 18 = .ok (.istore 4, 2) := by decide +kernel
theorem dX1_weighRests_20 : decode cX1_weighRests 20 = .ok (.iconst 0, 1) := by decide +kernel
theorem dX1_weighRests_21 : decode cX1_weighRests 21 = .ok (.istore 5, 2) := by decide +kernel
theorem dX1_weighRests_23 : decode cX1_weighRests 23 = .ok (.iload 4, 2) := by decide +kernel
theorem dX1_weighRests_25 : decode cX1_weighRests 25 = .ok (.ifCond .eq 94, 3) := by decide +kernel
theorem dX1_weighRests_28 : decode cX1_weighRests 28 = .ok (.iload 5, 2) := by decide +kernel
theorem dX1_weighRests_30 : decode cX1_weighRests 30 = .ok (.sipush 946, 3) := by decide +kernel
theorem dX1_weighRests_33 : decode cX1_weighRests 33 = .ok (.if_icmp .ge 86, 3) := by decide +kernel
theorem dX1_weighRests_36 : decode cX1_weighRests 36 = .ok (.iconst 0, 1) := by decide +kernel
theorem dX1_weighRests_37 : decode cX1_weighRests 37 = .ok (.istore 4, 2) := by decide +kernel
theorem dX1_weighRests_39 : decode cX1_weighRests 39 = .ok (.aload_n 1, 1) := by decide +kernel
theorem dX1_weighRests_40 : decode cX1_weighRests 40 = .ok (.getfield 78, 3) := by decide +kernel
theorem dX1_weighRests_43 : decode cX1_weighRests 43 = .ok (.iconst 1, 1) := by decide +kernel
theorem dX1_weighRests_44 : decode cX1_weighRests 44 = .ok (.isub, 1) := by decide +kernel
theorem dX1_weighRests_45 : decode cX1_weighRests 45 = .ok (.istore 6, 2) := by decide +kernel
theorem dX1_weighRests_47 : decode cX1_weighRests 47 = .ok (.iload 6, 2) := by decide +kernel
theorem dX1_weighRests_49 : decode cX1_weighRests 49 = .ok (.ifCond .lt 64, 3) := by decide +kernel
theorem dX1_weighRests_52 : decode cX1_weighRests 52 = .ok (.iconst 0, 1) := by decide +kernel
theorem dX1_weighRests_53 : decode cX1_weighRests 53 = .ok (.istore 7, 2) := by decide +kernel
theorem dX1_weighRests_55 : decode cX1_weighRests 55 = .ok (.iload 7, 2) := by decide +kernel
theorem dX1_weighRests_57 : decode cX1_weighRests 57 = .ok (.aload_n 1, 1) := by decide +kernel
theorem dX1_weighRests_58 : decode cX1_weighRests 58 = .ok (.getfield 43, 3) := by decide +kernel
theorem dX1_weighRests_61 : decode cX1_weighRests 61 = .ok (.if_icmp .ge 46, 3) := by decide +kernel
theorem dX1_weighRests_64 : decode cX1_weighRests 64 = .ok (.aload_n 0, 1) := by decide +kernel
theorem dX1_weighRests_65 : decode cX1_weighRests 65 = .ok (.aload_n 1, 1) := by decide +kernel
theorem dX1_weighRests_66 : decode cX1_weighRests 66 = .ok (.aload_n 2, 1) := by decide +kernel
theorem dX1_weighRests_67 : decode cX1_weighRests 67 = .ok (.iload 6, 2) := by decide +kernel
theorem dX1_weighRests_69 : decode cX1_weighRests 69 = .ok (.iload 7, 2) := by decide +kernel
theorem dX1_weighRests_71 : decode cX1_weighRests 71 = .ok (.invokevirtual 66, 3) := by decide +kernel
theorem dX1_weighRests_74 : decode cX1_weighRests 74 = .ok (.lstore 8, 2) := by decide +kernel
theorem dX1_weighRests_76 : decode cX1_weighRests 76 = .ok (.lload 8, 2) := by decide +kernel
theorem dX1_weighRests_78 : decode cX1_weighRests 78 = .ok (.aload_n 0, 1) := by decide +kernel
theorem dX1_weighRests_79 : decode cX1_weighRests 79 = .ok (.getfield 26, 3) := by decide +kernel
theorem dX1_weighRests_82 : decode cX1_weighRests 82 = .ok (.iload 6, 2) := by decide +kernel
theorem dX1_weighRests_84 : decode cX1_weighRests 84 = .ok (.laload, 1) := by decide +kernel
theorem dX1_weighRests_85 : decode cX1_weighRests 85 = .ok (.lcmp, 1) := by decide +kernel
theorem dX1_weighRests_86 : decode cX1_weighRests 86 = .ok (.ifCond .ge 15, 3) := by decide +kernel
theorem dX1_weighRests_89 : decode cX1_weighRests 89 = .ok (.aload_n 0, 1) := by decide +kernel
theorem dX1_weighRests_90 : decode cX1_weighRests 90 = .ok (.getfield 26, 3) := by decide +kernel
theorem dX1_weighRests_93 : decode cX1_weighRests 93 = .ok (.iload 6, 2) := by decide +kernel
theorem dX1_weighRests_95 : decode cX1_weighRests 95 = .ok (.lload 8, 2) := by decide +kernel
theorem dX1_weighRests_97 : decode cX1_weighRests 97 = .ok (.lastore, 1) := by decide +kernel
theorem dX1_weighRests_98 : decode cX1_weighRests 98 = .ok (.iconst 1, 1) := by decide +kernel
theorem dX1_weighRests_99 : decode cX1_weighRests 99 = .ok (.istore 4, 2) := by decide +kernel
theorem dX1_weighRests_101 : decode cX1_weighRests 101 = .ok (.iinc 7 1, 3) := by decide +kernel
theorem dX1_weighRests_104 : decode cX1_weighRests 104 = .ok (.goto (-49), 3) := by decide +kernel
theorem dX1_weighRests_107 : decode cX1_weighRests 107 = .ok (.iinc 6 (-1), 3) := by decide +kernel
theorem dX1_weighRests_110 : decode cX1_weighRests 110 = .ok (.goto (-63), 3) := by decide +kernel
theorem dX1_weighRests_113 : decode cX1_weighRests 113 = .ok (.iinc 5 1, 3) := by decide +kernel
theorem dX1_weighRests_116 : decode cX1_weighRests 116 = .ok (.goto (-93), 3) := by decide +kernel
theorem dX1_weighRests_119 : decode cX1_weighRests 119 = .ok (.return_, 1) := by decide +kernel
def f_X1_weighRests_u101 (Q : ml_St → Prop) (K55 : ml_St → Int → Int → Int → Int → Prop) (σ : ml_St) (x4 : Int) (x5 : Int) (x6 : Int) (x7 : Int) : Prop :=
I32 (x7 + 1) ∧
∀ y1 : Int, y1 = x7 + 1 →
K55 σ x4 x5 x6 y1
def f_X1_weighRests_u55 (Q : ml_St → Prop) (K107 : ml_St → Int → Int → Int → Prop) : Nat → ml_St → Int → Int → Int → Int → Prop
| 0, _, _, _, _, _ => False
| N + 1, σ, x4, x5, x6, x7 =>
∀ _ : I32 (σ 55 1),
((σ 55 1) ≤ x7 →
K107 σ x4 x5 x6) ∧
(¬ ((σ 55 1) ≤ x7) →
f_X1_weightBy σ x6 x7 (fun r3 σ3 => ∀ _ : I64 r3,
(0 : Int) ≤ x6 ∧ (x6 : Int) < 946 ∧
∀ _ : I64 (σ3 75 x6),
((σ3 75 x6) ≤ r3 →
f_X1_weighRests_u101 Q (f_X1_weighRests_u55 Q K107 N) σ3 x4 x5 x6 x7) ∧
(¬ ((σ3 75 x6) ≤ r3) →
(0 : Int) ≤ x6 ∧ (x6 : Int) < 946 ∧
∀ σ6, σ6 = ml_up σ3 75 x6 r3 →
f_X1_weighRests_u101 Q (f_X1_weighRests_u55 Q K107 N) σ6 1 x5 x6 x7)))
def f_X1_weighRests_u107 (Q : ml_St → Prop) (K47 : ml_St → Int → Int → Int → Prop) (σ : ml_St) (x4 : Int) (x5 : Int) (x6 : Int) : Prop :=
I32 (x6 + (-1)) ∧
∀ y1 : Int, y1 = x6 + (-1) →
K47 σ x4 x5 y1
def f_X1_weighRests_u47 (Q : ml_St → Prop) (K113 : ml_St → Int → Int → Prop) : Nat → ml_St → Int → Int → Int → Prop
| 0, _, _, _, _ => False
| N + 1, σ, x4, x5, x6 =>
(x6 < 0 →
K113 σ x4 x5) ∧
(¬ (x6 < 0) →
∃ N1, f_X1_weighRests_u55 Q (f_X1_weighRests_u107 Q (f_X1_weighRests_u47 Q K113 N)) N1 σ x4 x5 x6 0)
def f_X1_weighRests_u113 (Q : ml_St → Prop) (K23 : ml_St → Int → Int → Prop) (σ : ml_St) (x4 : Int) (x5 : Int) : Prop :=
I32 (x5 + 1) ∧
∀ y1 : Int, y1 = x5 + 1 →
K23 σ x4 y1
def f_X1_weighRests_u23 (Q : ml_St → Prop) (K119 : ml_St → Prop) : Nat → ml_St → Int → Int → Prop
| 0, _, _, _ => False
| N + 1, σ, x4, x5 =>
(x4 = 0 →
K119 σ) ∧
(x4 ≠ 0 →
(946 ≤ x5 →
K119 σ) ∧
(¬ (946 ≤ x5) →
∀ _ : I32 (σ 55 2),
I32 ((σ 55 2) - 1) ∧
∀ y5 : Int, y5 = (σ 55 2) - 1 →
∃ N1, f_X1_weighRests_u47 Q (f_X1_weighRests_u113 Q (f_X1_weighRests_u23 Q K119 N)) N1 σ 0 x5 y5))
def f_X1_weighRests_u119 (Q : ml_St → Prop) (σ : ml_St) : Prop :=
Q σ
def f_X1_weighRests_u0 (Q : ml_St → Prop) (σ : ml_St) (x3 : Int) : Prop :=
f_J7_fill_d0a16 σ 946 75 1000000000000000000 (fun σ1 =>
(0 : Int) ≤ x3 ∧ (x3 : Int) < 946 ∧
∀ σ2, σ2 = ml_up σ1 75 x3 0 →
∃ N1, f_X1_weighRests_u23 Q (f_X1_weighRests_u119 Q) N1 σ2 1 0)
def f_X1_weighRests (σ : ml_St) (x3 : Int) (Q : ml_St → Prop) : Prop := f_X1_weighRests_u0 Q σ x3
def rm_X1_weighRests : Room := { frames := 1, cells := 0, slots := 0, locals := 26 }
set_option maxRecDepth 100000 in
set_option maxHeartbeats 4000000 in
theorem u_X1_weighRests_101 {p : Program} {e : Env} {s : State} {m : MethodId} {args : Array Value} {below : List Frame} {meth : Method} {c : Code} {base : Nat} {D : va_G} {cA : Nat → ClassId} {n : Nat} {l : Launch} {Q : ml_St → Prop} {K55 : ml_St → Int → Int → Int → Int → Prop} (X : ml_X p s m c meth args D cA cX1_weighRests 10 RX1 none) (hn : 214 ≤ n) (hK55 : ∀ (σ : ml_St) (x4 : Int) (x5 : Int) (x6 : Int) (x7 : Int) (h_x4 : ml_B x4) (h_x5 : I32 x5) (h_x6 : I32 x6) (h_x7 : I32 x7) (ls : Array Slot), lv_has ls 10 [(0, .ref (base + (70 : Int).toNat)), (1, .ref (base + (55 : Int).toNat)), (2, .ref (base + (114 : Int).toNat)), (4, .int (Int32.ofInt x4)), (5, .int (Int32.ofInt x5)), (6, .int (Int32.ofInt x6)), (7, .int (Int32.ofInt x7))] → K55 σ x4 x5 x6 x7 → ml_V p l e rm_X1_weighRests s m args below meth c (MQ below (ml_Qv base D cA n Q) args s 0 0 (ml_A base)) base D cA 0 0 n n σ (F0 m 55 ls [])) (σ : ml_St) (x4 : Int) (x5 : Int) (x6 : Int) (x7 : Int) (h_x4 : ml_B x4) (h_x5 : I32 x5) (h_x6 : I32 x6) (h_x7 : I32 x7) (ls : Array Slot) (hl : lv_has ls 10 [(0, .ref (base + (70 : Int).toNat)), (1, .ref (base + (55 : Int).toNat)), (2, .ref (base + (114 : Int).toNat)), (4, .int (Int32.ofInt x4)), (5, .int (Int32.ofInt x5)), (6, .int (Int32.ofInt x6)), (7, .int (Int32.ofInt x7))]) (hw : f_X1_weighRests_u101 Q K55 σ x4 x5 x6 x7) : ml_V p l e rm_X1_weighRests s m args below meth c (MQ below (ml_Qv base D cA n Q) args s 0 0 (ml_A base)) base D cA 0 0 n n σ (F0 m 101 ls []) := by
  unfold f_X1_weighRests_u101 at hw
  obtain ⟨v1, hw⟩ := hw
  obtain ⟨y1, e1⟩ : ∃ y : Int, y = x7 + 1 := ⟨_, rfl⟩
  have hw := hw y1 e1
  rw [← e1] at v1
  refine ml_iinc (pc := 101) X e1 hl 6 rfl (by decide) (lst' := [(7, .int (Int32.ofInt y1)), (0, .ref (base + (70 : Int).toNat)), (1, .ref (base + (55 : Int).toNat)), (2, .ref (base + (114 : Int).toNat)), (4, .int (Int32.ofInt x4)), (5, .int (Int32.ofInt x5)), (6, .int (Int32.ofInt x6))]) rfl dX1_weighRests_101 (fun ls hl => ?_)
  refine ml_goto (pc := 104) (tgt := 55) X dX1_weighRests_104 (by decide) ?_
  exact hK55 σ x4 x5 x6 y1 h_x4 h_x5 h_x6 v1 _ (lv_sub hl [1, 2, 3, 4, 5, 6, 0] rfl) hw
set_option maxRecDepth 100000 in
set_option maxHeartbeats 4000000 in
theorem u_X1_weighRests_55 {p : Program} {e : Env} {s : State} {m : MethodId} {args : Array Value} {below : List Frame} {meth : Method} {c : Code} {base : Nat} {D : va_G} {cA : Nat → ClassId} {n : Nat} {l : Launch} {Q : ml_St → Prop} {K107 : ml_St → Int → Int → Int → Prop} (X : ml_X p s m c meth args D cA cX1_weighRests 10 RX1 none) (hn : 214 ≤ n) (hK107 : ∀ (σ : ml_St) (x4 : Int) (x5 : Int) (x6 : Int) (h_x4 : ml_B x4) (h_x5 : I32 x5) (h_x6 : I32 x6) (ls : Array Slot), lv_has ls 10 [(0, .ref (base + (70 : Int).toNat)), (1, .ref (base + (55 : Int).toNat)), (2, .ref (base + (114 : Int).toNat)), (4, .int (Int32.ofInt x4)), (5, .int (Int32.ofInt x5)), (6, .int (Int32.ofInt x6))] → K107 σ x4 x5 x6 → ml_V p l e rm_X1_weighRests s m args below meth c (MQ below (ml_Qv base D cA n Q) args s 0 0 (ml_A base)) base D cA 0 0 n n σ (F0 m 107 ls [])) : ∀ (N : Nat) (σ : ml_St) (x4 : Int) (x5 : Int) (x6 : Int) (x7 : Int) (h_x4 : ml_B x4) (h_x5 : I32 x5) (h_x6 : I32 x6) (h_x7 : I32 x7) (ls : Array Slot), lv_has ls 10 [(0, .ref (base + (70 : Int).toNat)), (1, .ref (base + (55 : Int).toNat)), (2, .ref (base + (114 : Int).toNat)), (4, .int (Int32.ofInt x4)), (5, .int (Int32.ofInt x5)), (6, .int (Int32.ofInt x6)), (7, .int (Int32.ofInt x7))] → f_X1_weighRests_u55 Q K107 N σ x4 x5 x6 x7 → ml_V p l e rm_X1_weighRests s m args below meth c (MQ below (ml_Qv base D cA n Q) args s 0 0 (ml_A base)) base D cA 0 0 n n σ (F0 m 55 ls []) := by
  intro N
  induction N with
  | zero => intro σ x4 x5 x6 x7 h_x4 h_x5 h_x6 h_x7 ls hl hw; exact False.elim hw
  | succ N ih =>
    intro σ x4 x5 x6 x7 h_x4 h_x5 h_x6 h_x7 ls hl hw
    unfold f_X1_weighRests_u55 at hw
    refine ml_iload (pc := 55) X hl 6 rfl dX1_weighRests_55 ?_
    refine ml_aload_n (pc := 57) X hl 1 rfl rfl dX1_weighRests_57 ?_
    refine gf_X1_43 (pc := 58) X (ml_c55 hn) dX1_weighRests_58 (fun r1 => ?_)
    have hw := hw r1
    refine ml_icmp_ge (pc := 61) (tgt := 107) X h_x7 r1 dX1_weighRests_61 (by decide) (fun c2 => ?_) (fun c2 => ?_)
    · have hw := hw.1 c2
      exact hK107 σ x4 x5 x6 h_x4 h_x5 h_x6 _ (lv_sub hl [0, 1, 2, 3, 4, 5] rfl) hw
    · have hw := hw.2 c2
      refine ml_aload_n (pc := 64) X hl 0 rfl rfl dX1_weighRests_64 ?_
      refine ml_aload_n (pc := 65) X hl 1 rfl rfl dX1_weighRests_65 ?_
      refine ml_aload_n (pc := 66) X hl 2 rfl rfl dX1_weighRests_66 ?_
      refine ml_iload (pc := 67) X hl 5 rfl dX1_weighRests_67 ?_
      refine ml_iload (pc := 69) X hl 6 rfl dX1_weighRests_69 ?_
      refine ml_calllV (pc := 71) (rest := []) X [.ref (base + (55 : Int).toNat), .ref (base + (114 : Int).toNat), .int (Int32.ofInt x6), .int (Int32.ofInt x7)] (by decide) rfl (ml_c70 hn) (c_X1_weightBy l base D cA n hn σ x6 x7 h_x6 h_x7 _ hw) cv_X1_66 ⟨rfl, rfl⟩ ⟨by decide, by decide⟩ rfl rfl hl (Nat.le_of_ble_eq_true rfl) ⟨Nat.zero_le _, Nat.zero_le _⟩ dX1_weighRests_71 (fun r3 σ3 t3 hw => ?_)
      have hw := hw t3
      refine ml_lstore (pc := 74) X hl (by decide) (lst' := [(8, .long (Int64.ofInt r3)), (0, .ref (base + (70 : Int).toNat)), (1, .ref (base + (55 : Int).toNat)), (2, .ref (base + (114 : Int).toNat)), (4, .int (Int32.ofInt x4)), (5, .int (Int32.ofInt x5)), (6, .int (Int32.ofInt x6)), (7, .int (Int32.ofInt x7))]) rfl dX1_weighRests_74 (fun ls hl => ?_)
      refine ml_lload (pc := 76) X hl 0 rfl dX1_weighRests_76 ?_
      refine ml_aload_n (pc := 78) X hl 1 rfl rfl dX1_weighRests_78 ?_
      refine gf_X1_26 (pc := 79) X (ml_c70 hn) dX1_weighRests_79 ?_
      refine ml_iload (pc := 82) X hl 6 rfl dX1_weighRests_82 ?_
      obtain ⟨a4, b4, hw⟩ := hw
      refine ml_lald (pc := 84) (N := 946) X (ml_c75 hn) a4 b4 dX1_weighRests_84 (fun r4 => ?_)
      have hw := hw r4
      refine ml_lcmp_ge (pc := 85) (tgt := 101) X t3 r4 dX1_weighRests_85 dX1_weighRests_86 (by decide) (fun c5 => ?_) (fun c5 => ?_)
      · have hw := hw.1 c5
        exact u_X1_weighRests_101 X hn ih σ3 x4 x5 x6 x7 h_x4 h_x5 h_x6 h_x7 _ (lv_sub hl [1, 2, 3, 4, 5, 6, 7] rfl) hw
      · have hw := hw.2 c5
        refine ml_aload_n (pc := 89) X hl 1 rfl rfl dX1_weighRests_89 ?_
        refine gf_X1_26 (pc := 90) X (ml_c70 hn) dX1_weighRests_90 ?_
        refine ml_iload (pc := 93) X hl 6 rfl dX1_weighRests_93 ?_
        refine ml_lload (pc := 95) X hl 0 rfl dX1_weighRests_95 ?_
        obtain ⟨a6, b6, hw⟩ := hw
        refine ml_last (pc := 97) (N := 946) X (ml_c75 hn) a6 b6 t3 dX1_weighRests_97 (fun σ6 g6 => ?_)
        have hw := hw σ6 g6
        refine ml_iconst (pc := 98) X dX1_weighRests_98 ?_
        refine ml_istore (pc := 99) X hl (by decide) (lst' := [(4, .int (Int32.ofInt 1)), (8, .long (Int64.ofInt r3)), (0, .ref (base + (70 : Int).toNat)), (1, .ref (base + (55 : Int).toNat)), (2, .ref (base + (114 : Int).toNat)), (5, .int (Int32.ofInt x5)), (6, .int (Int32.ofInt x6)), (7, .int (Int32.ofInt x7))]) rfl dX1_weighRests_99 (fun ls hl => ?_)
        exact u_X1_weighRests_101 X hn ih σ6 1 x5 x6 x7 ⟨by decide, by decide⟩ h_x5 h_x6 h_x7 _ (lv_sub hl [2, 3, 4, 0, 5, 6, 7] rfl) hw
set_option maxRecDepth 100000 in
set_option maxHeartbeats 4000000 in
theorem u_X1_weighRests_107 {p : Program} {e : Env} {s : State} {m : MethodId} {args : Array Value} {below : List Frame} {meth : Method} {c : Code} {base : Nat} {D : va_G} {cA : Nat → ClassId} {n : Nat} {l : Launch} {Q : ml_St → Prop} {K47 : ml_St → Int → Int → Int → Prop} (X : ml_X p s m c meth args D cA cX1_weighRests 10 RX1 none) (hn : 214 ≤ n) (hK47 : ∀ (σ : ml_St) (x4 : Int) (x5 : Int) (x6 : Int) (h_x4 : ml_B x4) (h_x5 : I32 x5) (h_x6 : I32 x6) (ls : Array Slot), lv_has ls 10 [(0, .ref (base + (70 : Int).toNat)), (1, .ref (base + (55 : Int).toNat)), (2, .ref (base + (114 : Int).toNat)), (4, .int (Int32.ofInt x4)), (5, .int (Int32.ofInt x5)), (6, .int (Int32.ofInt x6))] → K47 σ x4 x5 x6 → ml_V p l e rm_X1_weighRests s m args below meth c (MQ below (ml_Qv base D cA n Q) args s 0 0 (ml_A base)) base D cA 0 0 n n σ (F0 m 47 ls [])) (σ : ml_St) (x4 : Int) (x5 : Int) (x6 : Int) (h_x4 : ml_B x4) (h_x5 : I32 x5) (h_x6 : I32 x6) (ls : Array Slot) (hl : lv_has ls 10 [(0, .ref (base + (70 : Int).toNat)), (1, .ref (base + (55 : Int).toNat)), (2, .ref (base + (114 : Int).toNat)), (4, .int (Int32.ofInt x4)), (5, .int (Int32.ofInt x5)), (6, .int (Int32.ofInt x6))]) (hw : f_X1_weighRests_u107 Q K47 σ x4 x5 x6) : ml_V p l e rm_X1_weighRests s m args below meth c (MQ below (ml_Qv base D cA n Q) args s 0 0 (ml_A base)) base D cA 0 0 n n σ (F0 m 107 ls []) := by
  unfold f_X1_weighRests_u107 at hw
  obtain ⟨v1, hw⟩ := hw
  obtain ⟨y1, e1⟩ : ∃ y : Int, y = x6 + (-1) := ⟨_, rfl⟩
  have hw := hw y1 e1
  rw [← e1] at v1
  refine ml_iinc (pc := 107) X e1 hl 5 rfl (by decide) (lst' := [(6, .int (Int32.ofInt y1)), (0, .ref (base + (70 : Int).toNat)), (1, .ref (base + (55 : Int).toNat)), (2, .ref (base + (114 : Int).toNat)), (4, .int (Int32.ofInt x4)), (5, .int (Int32.ofInt x5))]) rfl dX1_weighRests_107 (fun ls hl => ?_)
  refine ml_goto (pc := 110) (tgt := 47) X dX1_weighRests_110 (by decide) ?_
  exact hK47 σ x4 x5 y1 h_x4 h_x5 v1 _ (lv_sub hl [1, 2, 3, 4, 5, 0] rfl) hw
set_option maxRecDepth 100000 in
set_option maxHeartbeats 4000000 in
theorem u_X1_weighRests_47 {p : Program} {e : Env} {s : State} {m : MethodId} {args : Array Value} {below : List Frame} {meth : Method} {c : Code} {base : Nat} {D : va_G} {cA : Nat → ClassId} {n : Nat} {l : Launch} {Q : ml_St → Prop} {K113 : ml_St → Int → Int → Prop} (X : ml_X p s m c meth args D cA cX1_weighRests 10 RX1 none) (hn : 214 ≤ n) (hK113 : ∀ (σ : ml_St) (x4 : Int) (x5 : Int) (h_x4 : ml_B x4) (h_x5 : I32 x5) (ls : Array Slot), lv_has ls 10 [(0, .ref (base + (70 : Int).toNat)), (1, .ref (base + (55 : Int).toNat)), (2, .ref (base + (114 : Int).toNat)), (4, .int (Int32.ofInt x4)), (5, .int (Int32.ofInt x5))] → K113 σ x4 x5 → ml_V p l e rm_X1_weighRests s m args below meth c (MQ below (ml_Qv base D cA n Q) args s 0 0 (ml_A base)) base D cA 0 0 n n σ (F0 m 113 ls [])) : ∀ (N : Nat) (σ : ml_St) (x4 : Int) (x5 : Int) (x6 : Int) (h_x4 : ml_B x4) (h_x5 : I32 x5) (h_x6 : I32 x6) (ls : Array Slot), lv_has ls 10 [(0, .ref (base + (70 : Int).toNat)), (1, .ref (base + (55 : Int).toNat)), (2, .ref (base + (114 : Int).toNat)), (4, .int (Int32.ofInt x4)), (5, .int (Int32.ofInt x5)), (6, .int (Int32.ofInt x6))] → f_X1_weighRests_u47 Q K113 N σ x4 x5 x6 → ml_V p l e rm_X1_weighRests s m args below meth c (MQ below (ml_Qv base D cA n Q) args s 0 0 (ml_A base)) base D cA 0 0 n n σ (F0 m 47 ls []) := by
  intro N
  induction N with
  | zero => intro σ x4 x5 x6 h_x4 h_x5 h_x6 ls hl hw; exact False.elim hw
  | succ N ih =>
    intro σ x4 x5 x6 h_x4 h_x5 h_x6 ls hl hw
    unfold f_X1_weighRests_u47 at hw
    refine ml_iload (pc := 47) X hl 5 rfl dX1_weighRests_47 ?_
    refine ml_if_lt (pc := 49) (tgt := 113) X h_x6 dX1_weighRests_49 (by decide) (fun c1 => ?_) (fun c1 => ?_)
    · have hw := hw.1 c1
      exact hK113 σ x4 x5 h_x4 h_x5 _ (lv_sub hl [0, 1, 2, 3, 4] rfl) hw
    · have hw := hw.2 c1
      refine ml_iconst (pc := 52) X dX1_weighRests_52 ?_
      refine ml_istore (pc := 53) X hl (by decide) (lst' := [(7, .int (Int32.ofInt 0)), (0, .ref (base + (70 : Int).toNat)), (1, .ref (base + (55 : Int).toNat)), (2, .ref (base + (114 : Int).toNat)), (4, .int (Int32.ofInt x4)), (5, .int (Int32.ofInt x5)), (6, .int (Int32.ofInt x6))]) rfl dX1_weighRests_53 (fun ls hl => ?_)
      obtain ⟨N0, hw⟩ := hw
      exact u_X1_weighRests_55 X hn (fun σ x4 x5 x6 h_x4 h_x5 h_x6 ls hl hw => u_X1_weighRests_107 X hn ih σ x4 x5 x6 h_x4 h_x5 h_x6 ls hl hw) N0 σ x4 x5 x6 0 h_x4 h_x5 h_x6 ⟨by decide, by decide⟩ _ (lv_sub hl [1, 2, 3, 4, 5, 6, 0] rfl) hw
set_option maxRecDepth 100000 in
set_option maxHeartbeats 4000000 in
theorem u_X1_weighRests_113 {p : Program} {e : Env} {s : State} {m : MethodId} {args : Array Value} {below : List Frame} {meth : Method} {c : Code} {base : Nat} {D : va_G} {cA : Nat → ClassId} {n : Nat} {l : Launch} {Q : ml_St → Prop} {K23 : ml_St → Int → Int → Prop} (X : ml_X p s m c meth args D cA cX1_weighRests 10 RX1 none) (hn : 214 ≤ n) (hK23 : ∀ (σ : ml_St) (x4 : Int) (x5 : Int) (h_x4 : ml_B x4) (h_x5 : I32 x5) (ls : Array Slot), lv_has ls 10 [(0, .ref (base + (70 : Int).toNat)), (1, .ref (base + (55 : Int).toNat)), (2, .ref (base + (114 : Int).toNat)), (4, .int (Int32.ofInt x4)), (5, .int (Int32.ofInt x5))] → K23 σ x4 x5 → ml_V p l e rm_X1_weighRests s m args below meth c (MQ below (ml_Qv base D cA n Q) args s 0 0 (ml_A base)) base D cA 0 0 n n σ (F0 m 23 ls [])) (σ : ml_St) (x4 : Int) (x5 : Int) (h_x4 : ml_B x4) (h_x5 : I32 x5) (ls : Array Slot) (hl : lv_has ls 10 [(0, .ref (base + (70 : Int).toNat)), (1, .ref (base + (55 : Int).toNat)), (2, .ref (base + (114 : Int).toNat)), (4, .int (Int32.ofInt x4)), (5, .int (Int32.ofInt x5))]) (hw : f_X1_weighRests_u113 Q K23 σ x4 x5) : ml_V p l e rm_X1_weighRests s m args below meth c (MQ below (ml_Qv base D cA n Q) args s 0 0 (ml_A base)) base D cA 0 0 n n σ (F0 m 113 ls []) := by
  unfold f_X1_weighRests_u113 at hw
  obtain ⟨v1, hw⟩ := hw
  obtain ⟨y1, e1⟩ : ∃ y : Int, y = x5 + 1 := ⟨_, rfl⟩
  have hw := hw y1 e1
  rw [← e1] at v1
  refine ml_iinc (pc := 113) X e1 hl 4 rfl (by decide) (lst' := [(5, .int (Int32.ofInt y1)), (0, .ref (base + (70 : Int).toNat)), (1, .ref (base + (55 : Int).toNat)), (2, .ref (base + (114 : Int).toNat)), (4, .int (Int32.ofInt x4))]) rfl dX1_weighRests_113 (fun ls hl => ?_)
  refine ml_goto (pc := 116) (tgt := 23) X dX1_weighRests_116 (by decide) ?_
  exact hK23 σ x4 y1 h_x4 v1 _ (lv_sub hl [1, 2, 3, 4, 0] rfl) hw
set_option maxRecDepth 100000 in
set_option maxHeartbeats 4000000 in
theorem u_X1_weighRests_23 {p : Program} {e : Env} {s : State} {m : MethodId} {args : Array Value} {below : List Frame} {meth : Method} {c : Code} {base : Nat} {D : va_G} {cA : Nat → ClassId} {n : Nat} {l : Launch} {Q : ml_St → Prop} {K119 : ml_St → Prop} (X : ml_X p s m c meth args D cA cX1_weighRests 10 RX1 none) (hn : 214 ≤ n) (hK119 : ∀ (σ : ml_St) (ls : Array Slot), lv_has ls 10 [] → K119 σ → ml_V p l e rm_X1_weighRests s m args below meth c (MQ below (ml_Qv base D cA n Q) args s 0 0 (ml_A base)) base D cA 0 0 n n σ (F0 m 119 ls [])) : ∀ (N : Nat) (σ : ml_St) (x4 : Int) (x5 : Int) (h_x4 : ml_B x4) (h_x5 : I32 x5) (ls : Array Slot), lv_has ls 10 [(0, .ref (base + (70 : Int).toNat)), (1, .ref (base + (55 : Int).toNat)), (2, .ref (base + (114 : Int).toNat)), (4, .int (Int32.ofInt x4)), (5, .int (Int32.ofInt x5))] → f_X1_weighRests_u23 Q K119 N σ x4 x5 → ml_V p l e rm_X1_weighRests s m args below meth c (MQ below (ml_Qv base D cA n Q) args s 0 0 (ml_A base)) base D cA 0 0 n n σ (F0 m 23 ls []) := by
  intro N
  induction N with
  | zero => intro σ x4 x5 h_x4 h_x5 ls hl hw; exact False.elim hw
  | succ N ih =>
    intro σ x4 x5 h_x4 h_x5 ls hl hw
    unfold f_X1_weighRests_u23 at hw
    refine ml_iload (pc := 23) X hl 3 rfl dX1_weighRests_23 ?_
    refine ml_if_eq (pc := 25) (tgt := 119) X h_x4.i dX1_weighRests_25 (by decide) (fun c1 => ?_) (fun c1 => ?_)
    · have hw := hw.1 c1
      exact hK119 σ   _ (lv_sub hl [] rfl) hw
    · have hw := hw.2 c1
      refine ml_iload (pc := 28) X hl 4 rfl dX1_weighRests_28 ?_
      refine ml_sipush (pc := 30) X dX1_weighRests_30 (by decide) ?_
      refine ml_icmp_ge (pc := 33) (tgt := 119) X h_x5 ⟨by decide, by decide⟩ dX1_weighRests_33 (by decide) (fun c2 => ?_) (fun c2 => ?_)
      · have hw := hw.1 c2
        exact hK119 σ   _ (lv_sub hl [] rfl) hw
      · have hw := hw.2 c2
        refine ml_iconst (pc := 36) X dX1_weighRests_36 ?_
        refine ml_istore (pc := 37) X hl (by decide) (lst' := [(4, .int (Int32.ofInt 0)), (0, .ref (base + (70 : Int).toNat)), (1, .ref (base + (55 : Int).toNat)), (2, .ref (base + (114 : Int).toNat)), (5, .int (Int32.ofInt x5))]) rfl dX1_weighRests_37 (fun ls hl => ?_)
        refine ml_aload_n (pc := 39) X hl 2 rfl rfl dX1_weighRests_39 ?_
        refine gf_X1_78 (pc := 40) X (ml_c55 hn) dX1_weighRests_40 (fun r3 => ?_)
        have hw := hw r3
        refine ml_iconst (pc := 43) X dX1_weighRests_43 ?_
        obtain ⟨v4, hw⟩ := hw
        refine ml_isub (pc := 44) X dX1_weighRests_44 ?_
        refine ml_topI (pc := 45) (fun y5 e5 => ?_)
        have hw := hw y5 e5
        have q5 : I32 y5 := by rw [e5]; exact v4
        refine ml_istore (pc := 45) X hl (by decide) (lst' := [(6, .int (Int32.ofInt y5)), (4, .int (Int32.ofInt 0)), (0, .ref (base + (70 : Int).toNat)), (1, .ref (base + (55 : Int).toNat)), (2, .ref (base + (114 : Int).toNat)), (5, .int (Int32.ofInt x5))]) rfl dX1_weighRests_45 (fun ls hl => ?_)
        obtain ⟨N0, hw⟩ := hw
        exact u_X1_weighRests_47 X hn (fun σ x4 x5 h_x4 h_x5 ls hl hw => u_X1_weighRests_113 X hn ih σ x4 x5 h_x4 h_x5 ls hl hw) N0 σ 0 x5 y5 ⟨by decide, by decide⟩ h_x5 q5 _ (lv_sub hl [2, 3, 4, 1, 5, 0] rfl) hw
set_option maxRecDepth 100000 in
set_option maxHeartbeats 4000000 in
theorem u_X1_weighRests_119 {p : Program} {e : Env} {s : State} {m : MethodId} {args : Array Value} {below : List Frame} {meth : Method} {c : Code} {base : Nat} {D : va_G} {cA : Nat → ClassId} {n : Nat} {l : Launch} {Q : ml_St → Prop} (X : ml_X p s m c meth args D cA cX1_weighRests 10 RX1 none) (hn : 214 ≤ n) (σ : ml_St) (ls : Array Slot) (hl : lv_has ls 10 []) (hw : f_X1_weighRests_u119 Q σ) : ml_V p l e rm_X1_weighRests s m args below meth c (MQ below (ml_Qv base D cA n Q) args s 0 0 (ml_A base)) base D cA 0 0 n n σ (F0 m 119 ls []) := by
  unfold f_X1_weighRests_u119 at hw
  exact ml_vret (pc := 119) X hw dX1_weighRests_119
set_option maxRecDepth 100000 in
set_option maxHeartbeats 4000000 in
theorem u_X1_weighRests_0 {p : Program} {e : Env} {s : State} {m : MethodId} {args : Array Value} {below : List Frame} {meth : Method} {c : Code} {base : Nat} {D : va_G} {cA : Nat → ClassId} {n : Nat} {l : Launch} {Q : ml_St → Prop} (X : ml_X p s m c meth args D cA cX1_weighRests 10 RX1 none) (hn : 214 ≤ n) (σ : ml_St) (x3 : Int) (h_x3 : I32 x3) (ls : Array Slot) (hl : lv_has ls 10 [(0, .ref (base + (70 : Int).toNat)), (1, .ref (base + (55 : Int).toNat)), (2, .ref (base + (114 : Int).toNat)), (3, .int (Int32.ofInt x3))]) (hw : f_X1_weighRests_u0 Q σ x3) : ml_V p l e rm_X1_weighRests s m args below meth c (MQ below (ml_Qv base D cA n Q) args s 0 0 (ml_A base)) base D cA 0 0 n n σ (F0 m 0 ls []) := by
  unfold f_X1_weighRests_u0 at hw
  refine ml_aload_n (pc := 0) X hl 0 rfl rfl dX1_weighRests_0 ?_
  refine gf_X1_26 (pc := 1) X (ml_c70 hn) dX1_weighRests_1 ?_
  refine ml_ldc2 (pc := 4) (v := 1000000000000000000) X dX1_weighRests_4 tc_4_112 ?_
  refine ml_callvS (pc := 7) (rest := []) X [.ref (base + (75 : Int).toNat), .long (Int64.ofInt 1000000000000000000)] (c_J7_fill_d0a16 l base D cA n hn σ 946 75 (ml_c75 hn) 1000000000000000000 ⟨by decide, by decide⟩ _ hw) cv_X1_75 ⟨rfl, rfl⟩ ⟨by decide, by decide⟩ rfl rfl hl (Nat.le_of_ble_eq_true rfl) ⟨Nat.zero_le _, Nat.zero_le _⟩ dX1_weighRests_7 (fun σ1 hw => ?_)
  refine ml_aload_n (pc := 10) X hl 0 rfl rfl dX1_weighRests_10 ?_
  refine gf_X1_26 (pc := 11) X (ml_c70 hn) dX1_weighRests_11 ?_
  refine ml_iload_n (pc := 14) X hl 3 rfl rfl dX1_weighRests_14 ?_
  refine ml_lconst0 (pc := 15) X dX1_weighRests_15 ?_
  obtain ⟨a2, b2, hw⟩ := hw
  refine ml_last (pc := 16) (N := 946) X (ml_c75 hn) a2 b2 ⟨by decide, by decide⟩ dX1_weighRests_16 (fun σ2 g2 => ?_)
  have hw := hw σ2 g2
  refine ml_iconst (pc := 17) X dX1_weighRests_17 ?_
  refine ml_istore (pc := 18) X hl (by decide) (lst' := [(4, .int (Int32.ofInt 1)), (0, .ref (base + (70 : Int).toNat)), (1, .ref (base + (55 : Int).toNat)), (2, .ref (base + (114 : Int).toNat)), (3, .int (Int32.ofInt x3))]) rfl dX1_weighRests_18 (fun ls hl => ?_)
  refine ml_iconst (pc := 20) X dX1_weighRests_20 ?_
  refine ml_istore (pc := 21) X hl (by decide) (lst' := [(5, .int (Int32.ofInt 0)), (4, .int (Int32.ofInt 1)), (0, .ref (base + (70 : Int).toNat)), (1, .ref (base + (55 : Int).toNat)), (2, .ref (base + (114 : Int).toNat)), (3, .int (Int32.ofInt x3))]) rfl dX1_weighRests_21 (fun ls hl => ?_)
  obtain ⟨N0, hw⟩ := hw
  exact u_X1_weighRests_23 X hn (fun σ   ls hl hw => u_X1_weighRests_119 X hn σ   ls hl hw) N0 σ2 1 0 ⟨by decide, by decide⟩ ⟨by decide, by decide⟩ _ (lv_sub hl [2, 3, 4, 1, 0] rfl) hw
set_option maxRecDepth 100000 in
theorem c_X1_weighRests (l : Launch) (base : Nat) (D : va_G) (cA : Nat → ClassId) (n : Nat) (hn : 214 ≤ n) (σ : ml_St) (x3 : Int) (h_x3 : I32 x3) (Q : ml_St → Prop) (hw : f_X1_weighRests σ x3 Q) : Met l yX1_weighRests (Cond.code yX1_weighRests cX1_weighRests 10 none :: ml_T) rm_X1_weighRests (va_Pc [.ref (base + (70 : Int).toNat), .ref (base + (55 : Int).toNat), .ref (base + (114 : Int).toNat), .int (Int32.ofInt x3)] (ml_U base D cA n σ)) (ml_Qv base D cA n Q) 0 0 (ml_A base) := by
  refine Met.ofW (cc := cX1_weighRests) (maxL := 10) (ret := none) (by decide) rfl ?_
  intro p e s m args below meth c s₁ B hml hv
  obtain ⟨rfl, hP, hK, hok, hro⟩ := hv
  have X : ml_X p s m c meth _ D cA cX1_weighRests 10 RX1 none := ⟨B.exec, B.bytes, hml, findClass_of_methodNamed B.named, fun w hw => atoms_spec (ws := Cond.code yX1_weighRests cX1_weighRests 10 none :: ml_T) B.pre w (List.mem_cons_of_mem _ hw), hK, B.notSynchronized, B.returns⟩
  have hl := lv_entry [.ref (base + (70 : Int).toNat), .ref (base + (55 : Int).toNat), .ref (base + (114 : Int).toNat), .int (Int32.ofInt x3)] (n := 10) (Nat.le_of_ble_eq_true rfl)
  rw [lg_entry_eq]
  generalize (lg_sl [.ref (base + (70 : Int).toNat), .ref (base + (55 : Int).toNat), .ref (base + (114 : Int).toNat), .int (Int32.ofInt x3)] ++ List.replicate (10 - (lg_sl [.ref (base + (70 : Int).toNat), .ref (base + (55 : Int).toNat), .ref (base + (114 : Int).toNat), .int (Int32.ofInt x3)]).length) Slot.unset).toArray = ls at hl ⊢
  have hl : lv_has ls 10 [(0, .ref (base + (70 : Int).toNat)), (1, .ref (base + (55 : Int).toNat)), (2, .ref (base + (114 : Int).toNat)), (3, .int (Int32.ofInt x3))] := hl
  unfold f_X1_weighRests at hw
  exact u_X1_weighRests_0 X hn σ x3 h_x3 _ (lv_sub hl [0, 1, 2, 3] rfl) hw s.heap [] hP va_S.rf hok hro
theorem dX1_findCheapest_0 : decode cX1_findCheapest 0 = .ok (.aload_n 0, 1) := by decide +kernel
theorem dX1_findCheapest_1 : decode cX1_findCheapest 1 = .ok (.iconst (-1), 1) := by decide +kernel
theorem dX1_findCheapest_2 : decode cX1_findCheapest 2 = .ok (.putfield 30, 3) := by decide +kernel
theorem dX1_findCheapest_5 : decode cX1_findCheapest 5 = .ok (.aload_n 0, 1) := by decide +kernel
theorem dX1_findCheapest_6 : decode cX1_findCheapest 6 = .ok (.iconst (-1), 1) := by decide +kernel
theorem dX1_findCheapest_7 : decode cX1_findCheapest 7 = .ok (.putfield 34, 3) := by decide +kernel
theorem dX1_findCheapest_10 : decode cX1_findCheapest 10 = .ok (.iload_n 3, 1) := by decide +kernel
theorem dX1_findCheapest_11 : decode cX1_findCheapest 11 = .ok (.iconst (-1), 1) := by decide +kernel
theorem dX1_findCheapest_12 : decode cX1_findCheapest 12 = .ok (.if_icmp .ne 4, 3) := by decide +kernel
theorem dX1_findCheapest_15 : decode cX1_findCheapest 15 = .ok (.return_, 1) := by decide +kernel
theorem dX1_findCheapest_16 : decode cX1_findCheapest 16 = .ok (.aload_n 0, 1) := by decide +kernel
theorem dX1_findCheapest_17 : decode cX1_findCheapest 17 = .ok (.aload_n 1, 1) := by decide +kernel
theorem dX1_findCheapest_18 : decode cX1_findCheapest 18 = .ok (.aload_n 2, 1) := by decide +kernel
theorem dX1_findCheapest_19 : decode cX1_findCheapest 19 = .ok (.iload_n 3, 1) := by decide +kernel
theorem dX1_findCheapest_20 : decode cX1_findCheapest 20 = .ok (.invokevirtual 62, 3) := by decide +kernel
theorem dX1_findCheapest_23 : decode cX1_findCheapest 23 = .ok (.aload_n 0, 1) := by decide +kernel
theorem dX1_findCheapest_24 : decode cX1_findCheapest 24 = .ok (.iconst 0, 1) := by decide +kernel
theorem dX1_findCheapest_25 : decode cX1_findCheapest 25 = .ok (.putfield 30, 3) := by decide +kernel
theorem dX1_findCheapest_28 : decode cX1_findCheapest 28 = .ok (.aload_n 0, 1) := by decide +kernel
theorem dX1_findCheapest_29 : decode cX1_findCheapest 29 = .ok (.iconst 0, 1) := by decide +kernel
theorem dX1_findCheapest_30 : decode cX1_findCheapest 30 = .ok (.putfield 34, 3) := by decide +kernel
theorem dX1_findCheapest_33 : decode cX1_findCheapest 33 = .ok (.iconst 0, 1) := by decide +kernel
theorem dX1_findCheapest_34 : decode cX1_findCheapest 34 = .ok (.istore 4, 2) := by decide +kernel
theorem dX1_findCheapest_36 : decode cX1_findCheapest 36 = .ok (.iconst 0, 1) := by decide +kernel
theorem dX1_findCheapest_37 : decode cX1_findCheapest 37 = .ok (.istore 5, 2) := by decide +kernel
theorem dX1_findCheapest_39 : decode cX1_findCheapest 39 = .ok (.iconst 1, 1) := by decide +kernel
theorem dX1_findCheapest_40 : decode cX1_findCheapest 40 = .ok (.istore 6, 2) := by decide +kernel
theorem dX1_findCheapest_42 : decode cX1_findCheapest 42 = .ok (.iload 6, 2) := by decide +kernel
theorem dX1_findCheapest_44 : decode cX1_findCheapest 44 = .ok (.aload_n 1, 1) := by decide +kernel
theorem dX1_findCheapest_45 : decode cX1_findCheapest 45 = .ok (.getfield 43, 3) := by decide +kernel
theorem dX1_findCheapest_48 : decode cX1_findCheapest 48 = .ok (.if_icmp .ge 37, 3) := by decide +kernel
theorem dX1_findCheapest_51 : decode cX1_findCheapest 51 = .ok (.aload_n 0, 1) := by decide +kernel
theorem dX1_findCheapest_52 : decode cX1_findCheapest 52 = .ok (.aload_n 1, 1) := by decide +kernel
theorem dX1_findCheapest_53 : decode cX1_findCheapest 53 = .ok (.aload_n 2, 1) := by decide +kernel
theorem dX1_findCheapest_54 : decode cX1_findCheapest 54 = .ok (.iload 4, 2) := by decide +kernel
theorem dX1_findCheapest_56 : decode cX1_findCheapest 56 = .ok (.iload 6, 2) := by decide +kernel
theorem dX1_findCheapest_58 : decode cX1_findCheapest 58 = .ok (.invokevirtual 66, 3) := by decide +kernel
theorem dX1_findCheapest_61 : decode cX1_findCheapest 61 = .ok (.aload_n 0, 1) := by decide +kernel
theorem dX1_findCheapest_62 : decode cX1_findCheapest 62 = .ok (.aload_n 1, 1) := by decide +kernel
theorem dX1_findCheapest_63 : decode cX1_findCheapest 63 = .ok (.aload_n 2, 1) := by decide +kernel
theorem dX1_findCheapest_64 : decode cX1_findCheapest 64 = .ok (.iload 4, 2) := by decide +kernel
theorem dX1_findCheapest_66 : decode cX1_findCheapest 66 = .ok (.iload 5, 2) := by decide +kernel
theorem dX1_findCheapest_68 : decode cX1_findCheapest 68 = .ok (.invokevirtual 66, 3) := by decide +kernel
theorem dX1_findCheapest_71 : decode cX1_findCheapest 71 = .ok (.lcmp, 1) := by decide +kernel
theorem dX1_findCheapest_72 : decode cX1_findCheapest 72 = .ok (.ifCond .ge 7, 3) := by decide +kernel
theorem dX1_findCheapest_75 : decode cX1_findCheapest 75 = .ok (.iload 6, 2) := by decide +kernel
theorem dX1_findCheapest_77 : decode cX1_findCheapest 77 = .ok (.istore 5, 2) := by decide +kernel
theorem dX1_findCheapest_79 : decode cX1_findCheapest 79 = .ok (.iinc 6 1, 3) := by decide +kernel
theorem dX1_findCheapest_82 : decode cX1_findCheapest 82 = .ok (.goto (-40), 3) := by decide +kernel
theorem dX1_findCheapest_85 : decode cX1_findCheapest 85 = .ok (.aload_n 0, 1) := by decide +kernel
theorem dX1_findCheapest_86 : decode cX1_findCheapest 86 = .ok (.getfield 23, 3) := by decide +kernel
theorem dX1_findCheapest_89 : decode cX1_findCheapest 89 = .ok (.aload_n 0, 1) := by decide +kernel
theorem dX1_findCheapest_90 : decode cX1_findCheapest 90 = .ok (.getfield 30, 3) := by decide +kernel
theorem dX1_findCheapest_93 : decode cX1_findCheapest 93 = .ok (.aload_n 1, 1) := by decide +kernel
theorem dX1_findCheapest_94 : decode cX1_findCheapest 94 = .ok (.getfield 52, 3) := by decide +kernel
theorem dX1_findCheapest_97 : decode cX1_findCheapest 97 = .ok (.iload 5, 2) := by decide +kernel
theorem dX1_findCheapest_99 : decode cX1_findCheapest 99 = .ok (.iaload, 1) := by decide +kernel
theorem dX1_findCheapest_100 : decode cX1_findCheapest 100 = .ok (.iastore, 1) := by decide +kernel
theorem dX1_findCheapest_101 : decode cX1_findCheapest 101 = .ok (.aload_n 0, 1) := by decide +kernel
theorem dX1_findCheapest_102 : decode cX1_findCheapest 102 = .ok (.dup, 1) := by decide +kernel
theorem dX1_findCheapest_103 : decode cX1_findCheapest 103 = .ok (.getfield 34, 3) := by decide +kernel
theorem dX1_findCheapest_106 : decode cX1_findCheapest 106 = .ok (.aload_n 2, 1) := by decide +kernel
theorem dX1_findCheapest_107 : decode cX1_findCheapest 107 = .ok (.aload_n 0, 1) := by decide +kernel
theorem dX1_findCheapest_108 : decode cX1_findCheapest 108 = .ok (.getfield 23, 3) := by decide +kernel
theorem dX1_findCheapest_111 : decode cX1_findCheapest 111 = .ok (.aload_n 0, 1) := by decide +kernel
theorem dX1_findCheapest_112 : decode cX1_findCheapest 112 = .ok (.getfield 30, 3) := by decide +kernel
theorem dX1_findCheapest_115 : decode cX1_findCheapest 115 = .ok (.iaload, 1) := by decide +kernel
theorem dX1_findCheapest_116 : decode cX1_findCheapest 116 = .ok (.aaload, 1) := by decide +kernel
theorem dX1_findCheapest_117 : decode cX1_findCheapest 117 = .ok (.getfield 70, 3) := by decide +kernel
theorem dX1_findCheapest_120 : decode cX1_findCheapest 120 = .ok (.iadd, 1) := by decide +kernel
theorem dX1_findCheapest_121 : decode cX1_findCheapest 121 = .ok (.putfield 34, 3) := by decide +kernel
theorem dX1_findCheapest_124 : decode cX1_findCheapest 124 = .ok (.aload_n 0, 1) := by decide +kernel
theorem dX1_findCheapest_125 : decode cX1_findCheapest 125 = .ok (.dup, 1) := by decide +kernel
theorem dX1_findCheapest_126 : decode cX1_findCheapest 126 = .ok (.getfield 30, 3) := by decide +kernel
theorem dX1_findCheapest_129 : decode cX1_findCheapest 129 = .ok (.iconst 1, 1) := by decide +kernel
theorem dX1_findCheapest_130 : decode cX1_findCheapest 130 = .ok (.iadd, 1) := by decide +kernel
theorem dX1_findCheapest_131 : decode cX1_findCheapest 131 = .ok (.putfield 30, 3) := by decide +kernel
theorem dX1_findCheapest_134 : decode cX1_findCheapest 134 = .ok (.aload_n 1, 1) := by decide +kernel
theorem dX1_findCheapest_135 : decode cX1_findCheapest 135 = .ok (.getfield 49, 3) := by decide +kernel
theorem dX1_findCheapest_138 : decode cX1_findCheapest 138 = .ok (.iload 4, 2) := by decide +kernel
theorem dX1_findCheapest_140 : decode cX1_findCheapest 140 = .ok (.bipush 6, 2) := by decide +kernel
theorem dX1_findCheapest_142 : decode cX1_findCheapest 142 = .ok (.imul, 1) := by decide +kernel
theorem dX1_findCheapest_143 : decode cX1_findCheapest 143 = .ok (.iload 5, 2) := by decide +kernel
theorem dX1_findCheapest_145 : decode cX1_findCheapest 145 = .ok (.iadd, 1) := by decide +kernel
theorem dX1_findCheapest_146 : decode cX1_findCheapest 146 = .ok (.iaload, 1) := by decide +kernel
theorem dX1_findCheapest_147 : decode cX1_findCheapest 147 = .ok (.istore 4, 2) := by decide +kernel
theorem dX1_findCheapest_149 : decode cX1_findCheapest 149 = .ok (.iload 4, 2) := by decide +kernel
theorem dX1_findCheapest_151 : decode cX1_findCheapest 151 = .ok (.iload_n 3, 1) := by decide +kernel
theorem dX1_findCheapest_152 : decode cX1_findCheapest 152 = .ok (.if_icmp .eq 13, 3) := by decide +kernel
theorem dX1_findCheapest_155 : decode cX1_findCheapest 155 = .ok (.aload_n 0, 1) := by decide +kernel
theorem dX1_findCheapest_156 : decode cX1_findCheapest 156 = .ok (.getfield 30, 3) := by decide +kernel
theorem dX1_findCheapest_159 : decode cX1_findCheapest 159 = .ok (.sipush 2838, 3) := by decide +kernel
theorem dX1_findCheapest_162 : decode cX1_findCheapest 162 = .ok (.if_icmp .lt (-126), 3) := by decide +kernel
theorem dX1_findCheapest_165 : decode cX1_findCheapest 165 = .ok (.return_, 1) := by decide +kernel
def f_X1_findCheapest_u79 (Q : ml_St → Prop) (K42 : ml_St → Int → Int → Int → Int → Prop) (σ : ml_St) (x3 : Int) (x4 : Int) (x5 : Int) (x6 : Int) : Prop :=
I32 (x6 + 1) ∧
∀ y1 : Int, y1 = x6 + 1 →
K42 σ x3 x4 x5 y1
def f_X1_findCheapest_u42 (Q : ml_St → Prop) (K85 : ml_St → Int → Int → Int → Prop) : Nat → ml_St → Int → Int → Int → Int → Prop
| 0, _, _, _, _, _ => False
| N + 1, σ, x3, x4, x5, x6 =>
∀ _ : I32 (σ 55 1),
((σ 55 1) ≤ x6 →
K85 σ x3 x4 x5) ∧
(¬ ((σ 55 1) ≤ x6) →
f_X1_weightBy σ x4 x6 (fun r3 σ3 => ∀ _ : I64 r3,
f_X1_weightBy σ3 x4 x5 (fun r4 σ4 => ∀ _ : I64 r4,
(r4 ≤ r3 →
f_X1_findCheapest_u79 Q (f_X1_findCheapest_u42 Q K85 N) σ4 x3 x4 x5 x6) ∧
(¬ (r4 ≤ r3) →
f_X1_findCheapest_u79 Q (f_X1_findCheapest_u42 Q K85 N) σ4 x3 x4 x6 x6))))
def f_X1_findCheapest_u85 (Q : ml_St → Prop) (K36 : ml_St → Int → Int → Prop) (K165 : ml_St → Prop) (σ : ml_St) (x3 : Int) (x4 : Int) (x5 : Int) : Prop :=
∀ _ : I32 (σ 70 5),
(0 : Int) ≤ x5 ∧ (x5 : Int) < 6 ∧
∀ _ : I32 (σ 56 x5),
(0 : Int) ≤ (σ 70 5) ∧ ((σ 70 5) : Int) < 2838 ∧
∀ σ3, σ3 = ml_up σ 74 (σ 70 5) (σ 56 x5) →
∀ _ : I32 (σ3 70 6),
∀ _ : I32 (σ3 70 5),
(0 : Int) ≤ (σ3 70 5) ∧ ((σ3 70 5) : Int) < 2838 ∧
∀ _ : I32 (σ3 74 (σ3 70 5)),
(0 : Int) ≤ (σ3 74 (σ3 70 5)) ∧ ((σ3 74 (σ3 70 5)) : Int) < 16 ∧
∀ _ : I32 (σ3 (119 + 6 * (σ3 74 (σ3 70 5))) 3),
I32 ((σ3 70 6) + (σ3 (119 + 6 * (σ3 74 (σ3 70 5))) 3)) ∧
∀ σ10, σ10 = ml_up σ3 70 6 ((σ3 70 6) + (σ3 (119 + 6 * (σ3 74 (σ3 70 5))) 3)) →
∀ _ : I32 (σ10 70 5),
I32 ((σ10 70 5) + 1) ∧
∀ σ13, σ13 = ml_up σ10 70 5 ((σ10 70 5) + 1) →
I32 (x4 * 6) ∧
I32 ((x4 * 6) + x5) ∧
(0 : Int) ≤ ((x4 * 6) + x5) ∧ (((x4 * 6) + x5) : Int) < 5676 ∧
∀ _ : I32 (σ13 58 ((x4 * 6) + x5)),
∀ y17 : Int, y17 = σ13 58 ((x4 * 6) + x5) →
(y17 = x3 →
K165 σ13) ∧
(y17 ≠ x3 →
∀ _ : I32 (σ13 70 5),
(((σ13 70 5) : Int) < 2838 →
K36 σ13 x3 y17) ∧
(¬ (((σ13 70 5) : Int) < 2838) →
K165 σ13))
def f_X1_findCheapest_u36 (Q : ml_St → Prop) (K165 : ml_St → Prop) : Nat → ml_St → Int → Int → Prop
| 0, _, _, _ => False
| N + 1, σ, x3, x4 =>
∃ N1, f_X1_findCheapest_u42 Q (f_X1_findCheapest_u85 Q (f_X1_findCheapest_u36 Q K165 N) K165) N1 σ x3 x4 0 1
def f_X1_findCheapest_u165 (Q : ml_St → Prop) (σ : ml_St) : Prop :=
Q σ
def f_X1_findCheapest_u0 (Q : ml_St → Prop) (σ : ml_St) (x3 : Int) : Prop :=
∀ σ1, σ1 = ml_up σ 70 5 (-1) →
∀ σ2, σ2 = ml_up σ1 70 6 (-1) →
(x3 ≠ (-1) →
f_X1_weighRests σ2 x3 (fun σ4 =>
∀ σ5, σ5 = ml_up σ4 70 5 0 →
∀ σ6, σ6 = ml_up σ5 70 6 0 →
∃ N1, f_X1_findCheapest_u36 Q (f_X1_findCheapest_u165 Q) N1 σ6 x3 0)) ∧
(x3 = (-1) →
Q σ2)
def f_X1_findCheapest (σ : ml_St) (x3 : Int) (Q : ml_St → Prop) : Prop := f_X1_findCheapest_u0 Q σ x3
def rm_X1_findCheapest : Room := { frames := 2, cells := 0, slots := 0, locals := 55 }
set_option maxRecDepth 100000 in
set_option maxHeartbeats 4000000 in
theorem u_X1_findCheapest_79 {p : Program} {e : Env} {s : State} {m : MethodId} {args : Array Value} {below : List Frame} {meth : Method} {c : Code} {base : Nat} {D : va_G} {cA : Nat → ClassId} {n : Nat} {l : Launch} {Q : ml_St → Prop} {K42 : ml_St → Int → Int → Int → Int → Prop} (X : ml_X p s m c meth args D cA cX1_findCheapest 7 RX1 none) (hn : 214 ≤ n) (hK42 : ∀ (σ : ml_St) (x3 : Int) (x4 : Int) (x5 : Int) (x6 : Int) (h_x3 : I32 x3) (h_x4 : I32 x4) (h_x5 : I32 x5) (h_x6 : I32 x6) (ls : Array Slot), lv_has ls 7 [(0, .ref (base + (70 : Int).toNat)), (1, .ref (base + (55 : Int).toNat)), (2, .ref (base + (114 : Int).toNat)), (3, .int (Int32.ofInt x3)), (4, .int (Int32.ofInt x4)), (5, .int (Int32.ofInt x5)), (6, .int (Int32.ofInt x6))] → K42 σ x3 x4 x5 x6 → ml_V p l e rm_X1_findCheapest s m args below meth c (MQ below (ml_Qv base D cA n Q) args s 0 0 (ml_A base)) base D cA 0 0 n n σ (F0 m 42 ls [])) (σ : ml_St) (x3 : Int) (x4 : Int) (x5 : Int) (x6 : Int) (h_x3 : I32 x3) (h_x4 : I32 x4) (h_x5 : I32 x5) (h_x6 : I32 x6) (ls : Array Slot) (hl : lv_has ls 7 [(0, .ref (base + (70 : Int).toNat)), (1, .ref (base + (55 : Int).toNat)), (2, .ref (base + (114 : Int).toNat)), (3, .int (Int32.ofInt x3)), (4, .int (Int32.ofInt x4)), (5, .int (Int32.ofInt x5)), (6, .int (Int32.ofInt x6))]) (hw : f_X1_findCheapest_u79 Q K42 σ x3 x4 x5 x6) : ml_V p l e rm_X1_findCheapest s m args below meth c (MQ below (ml_Qv base D cA n Q) args s 0 0 (ml_A base)) base D cA 0 0 n n σ (F0 m 79 ls []) := by
  unfold f_X1_findCheapest_u79 at hw
  obtain ⟨v1, hw⟩ := hw
  obtain ⟨y1, e1⟩ : ∃ y : Int, y = x6 + 1 := ⟨_, rfl⟩
  have hw := hw y1 e1
  rw [← e1] at v1
  refine ml_iinc (pc := 79) X e1 hl 6 rfl (by decide) (lst' := [(6, .int (Int32.ofInt y1)), (0, .ref (base + (70 : Int).toNat)), (1, .ref (base + (55 : Int).toNat)), (2, .ref (base + (114 : Int).toNat)), (3, .int (Int32.ofInt x3)), (4, .int (Int32.ofInt x4)), (5, .int (Int32.ofInt x5))]) rfl dX1_findCheapest_79 (fun ls hl => ?_)
  refine ml_goto (pc := 82) (tgt := 42) X dX1_findCheapest_82 (by decide) ?_
  exact hK42 σ x3 x4 x5 y1 h_x3 h_x4 h_x5 v1 _ (lv_sub hl [1, 2, 3, 4, 5, 6, 0] rfl) hw
set_option maxRecDepth 100000 in
set_option maxHeartbeats 4000000 in
theorem u_X1_findCheapest_42 {p : Program} {e : Env} {s : State} {m : MethodId} {args : Array Value} {below : List Frame} {meth : Method} {c : Code} {base : Nat} {D : va_G} {cA : Nat → ClassId} {n : Nat} {l : Launch} {Q : ml_St → Prop} {K85 : ml_St → Int → Int → Int → Prop} (X : ml_X p s m c meth args D cA cX1_findCheapest 7 RX1 none) (hn : 214 ≤ n) (hK85 : ∀ (σ : ml_St) (x3 : Int) (x4 : Int) (x5 : Int) (h_x3 : I32 x3) (h_x4 : I32 x4) (h_x5 : I32 x5) (ls : Array Slot), lv_has ls 7 [(0, .ref (base + (70 : Int).toNat)), (1, .ref (base + (55 : Int).toNat)), (2, .ref (base + (114 : Int).toNat)), (3, .int (Int32.ofInt x3)), (4, .int (Int32.ofInt x4)), (5, .int (Int32.ofInt x5))] → K85 σ x3 x4 x5 → ml_V p l e rm_X1_findCheapest s m args below meth c (MQ below (ml_Qv base D cA n Q) args s 0 0 (ml_A base)) base D cA 0 0 n n σ (F0 m 85 ls [])) : ∀ (N : Nat) (σ : ml_St) (x3 : Int) (x4 : Int) (x5 : Int) (x6 : Int) (h_x3 : I32 x3) (h_x4 : I32 x4) (h_x5 : I32 x5) (h_x6 : I32 x6) (ls : Array Slot), lv_has ls 7 [(0, .ref (base + (70 : Int).toNat)), (1, .ref (base + (55 : Int).toNat)), (2, .ref (base + (114 : Int).toNat)), (3, .int (Int32.ofInt x3)), (4, .int (Int32.ofInt x4)), (5, .int (Int32.ofInt x5)), (6, .int (Int32.ofInt x6))] → f_X1_findCheapest_u42 Q K85 N σ x3 x4 x5 x6 → ml_V p l e rm_X1_findCheapest s m args below meth c (MQ below (ml_Qv base D cA n Q) args s 0 0 (ml_A base)) base D cA 0 0 n n σ (F0 m 42 ls []) := by
  intro N
  induction N with
  | zero => intro σ x3 x4 x5 x6 h_x3 h_x4 h_x5 h_x6 ls hl hw; exact False.elim hw
  | succ N ih =>
    intro σ x3 x4 x5 x6 h_x3 h_x4 h_x5 h_x6 ls hl hw
    unfold f_X1_findCheapest_u42 at hw
    refine ml_iload (pc := 42) X hl 6 rfl dX1_findCheapest_42 ?_
    refine ml_aload_n (pc := 44) X hl 1 rfl rfl dX1_findCheapest_44 ?_
    refine gf_X1_43 (pc := 45) X (ml_c55 hn) dX1_findCheapest_45 (fun r1 => ?_)
    have hw := hw r1
    refine ml_icmp_ge (pc := 48) (tgt := 85) X h_x6 r1 dX1_findCheapest_48 (by decide) (fun c2 => ?_) (fun c2 => ?_)
    · have hw := hw.1 c2
      exact hK85 σ x3 x4 x5 h_x3 h_x4 h_x5 _ (lv_sub hl [0, 1, 2, 3, 4, 5] rfl) hw
    · have hw := hw.2 c2
      refine ml_aload_n (pc := 51) X hl 0 rfl rfl dX1_findCheapest_51 ?_
      refine ml_aload_n (pc := 52) X hl 1 rfl rfl dX1_findCheapest_52 ?_
      refine ml_aload_n (pc := 53) X hl 2 rfl rfl dX1_findCheapest_53 ?_
      refine ml_iload (pc := 54) X hl 4 rfl dX1_findCheapest_54 ?_
      refine ml_iload (pc := 56) X hl 6 rfl dX1_findCheapest_56 ?_
      refine ml_calllV (pc := 58) (rest := []) X [.ref (base + (55 : Int).toNat), .ref (base + (114 : Int).toNat), .int (Int32.ofInt x4), .int (Int32.ofInt x6)] (by decide) rfl (ml_c70 hn) (c_X1_weightBy l base D cA n hn σ x4 x6 h_x4 h_x6 _ hw) cv_X1_66 ⟨rfl, rfl⟩ ⟨by decide, by decide⟩ rfl rfl hl (Nat.le_of_ble_eq_true rfl) ⟨Nat.zero_le _, Nat.zero_le _⟩ dX1_findCheapest_58 (fun r3 σ3 t3 hw => ?_)
      have hw := hw t3
      refine ml_aload_n (pc := 61) X hl 0 rfl rfl dX1_findCheapest_61 ?_
      refine ml_aload_n (pc := 62) X hl 1 rfl rfl dX1_findCheapest_62 ?_
      refine ml_aload_n (pc := 63) X hl 2 rfl rfl dX1_findCheapest_63 ?_
      refine ml_iload (pc := 64) X hl 4 rfl dX1_findCheapest_64 ?_
      refine ml_iload (pc := 66) X hl 5 rfl dX1_findCheapest_66 ?_
      refine ml_calllV (pc := 68) (rest := [.long (Int64.ofInt r3)]) X [.ref (base + (55 : Int).toNat), .ref (base + (114 : Int).toNat), .int (Int32.ofInt x4), .int (Int32.ofInt x5)] (by decide) rfl (ml_c70 hn) (c_X1_weightBy l base D cA n hn σ3 x4 x5 h_x4 h_x5 _ hw) cv_X1_66 ⟨rfl, rfl⟩ ⟨by decide, by decide⟩ rfl rfl hl (Nat.le_of_ble_eq_true rfl) ⟨Nat.zero_le _, Nat.zero_le _⟩ dX1_findCheapest_68 (fun r4 σ4 t4 hw => ?_)
      have hw := hw t4
      refine ml_lcmp_ge (pc := 71) (tgt := 79) X t3 t4 dX1_findCheapest_71 dX1_findCheapest_72 (by decide) (fun c5 => ?_) (fun c5 => ?_)
      · have hw := hw.1 c5
        exact u_X1_findCheapest_79 X hn ih σ4 x3 x4 x5 x6 h_x3 h_x4 h_x5 h_x6 _ (lv_sub hl [0, 1, 2, 3, 4, 5, 6] rfl) hw
      · have hw := hw.2 c5
        refine ml_iload (pc := 75) X hl 6 rfl dX1_findCheapest_75 ?_
        refine ml_istore (pc := 77) X hl (by decide) (lst' := [(5, .int (Int32.ofInt x6)), (0, .ref (base + (70 : Int).toNat)), (1, .ref (base + (55 : Int).toNat)), (2, .ref (base + (114 : Int).toNat)), (3, .int (Int32.ofInt x3)), (4, .int (Int32.ofInt x4)), (6, .int (Int32.ofInt x6))]) rfl dX1_findCheapest_77 (fun ls hl => ?_)
        exact u_X1_findCheapest_79 X hn ih σ4 x3 x4 x6 x6 h_x3 h_x4 h_x6 h_x6 _ (lv_sub hl [1, 2, 3, 4, 5, 0, 6] rfl) hw
set_option maxRecDepth 100000 in
set_option maxHeartbeats 4000000 in
theorem u_X1_findCheapest_85 {p : Program} {e : Env} {s : State} {m : MethodId} {args : Array Value} {below : List Frame} {meth : Method} {c : Code} {base : Nat} {D : va_G} {cA : Nat → ClassId} {n : Nat} {l : Launch} {Q : ml_St → Prop} {K36 : ml_St → Int → Int → Prop} {K165 : ml_St → Prop} (X : ml_X p s m c meth args D cA cX1_findCheapest 7 RX1 none) (hn : 214 ≤ n) (hK36 : ∀ (σ : ml_St) (x3 : Int) (x4 : Int) (h_x3 : I32 x3) (h_x4 : I32 x4) (ls : Array Slot), lv_has ls 7 [(0, .ref (base + (70 : Int).toNat)), (1, .ref (base + (55 : Int).toNat)), (2, .ref (base + (114 : Int).toNat)), (3, .int (Int32.ofInt x3)), (4, .int (Int32.ofInt x4))] → K36 σ x3 x4 → ml_V p l e rm_X1_findCheapest s m args below meth c (MQ below (ml_Qv base D cA n Q) args s 0 0 (ml_A base)) base D cA 0 0 n n σ (F0 m 36 ls [])) (hK165 : ∀ (σ : ml_St) (ls : Array Slot), lv_has ls 7 [] → K165 σ → ml_V p l e rm_X1_findCheapest s m args below meth c (MQ below (ml_Qv base D cA n Q) args s 0 0 (ml_A base)) base D cA 0 0 n n σ (F0 m 165 ls [])) (σ : ml_St) (x3 : Int) (x4 : Int) (x5 : Int) (h_x3 : I32 x3) (h_x4 : I32 x4) (h_x5 : I32 x5) (ls : Array Slot) (hl : lv_has ls 7 [(0, .ref (base + (70 : Int).toNat)), (1, .ref (base + (55 : Int).toNat)), (2, .ref (base + (114 : Int).toNat)), (3, .int (Int32.ofInt x3)), (4, .int (Int32.ofInt x4)), (5, .int (Int32.ofInt x5))]) (hw : f_X1_findCheapest_u85 Q K36 K165 σ x3 x4 x5) : ml_V p l e rm_X1_findCheapest s m args below meth c (MQ below (ml_Qv base D cA n Q) args s 0 0 (ml_A base)) base D cA 0 0 n n σ (F0 m 85 ls []) := by
  unfold f_X1_findCheapest_u85 at hw
  refine ml_aload_n (pc := 85) X hl 0 rfl rfl dX1_findCheapest_85 ?_
  refine gf_X1_23 (pc := 86) X (ml_c70 hn) dX1_findCheapest_86 ?_
  refine ml_aload_n (pc := 89) X hl 0 rfl rfl dX1_findCheapest_89 ?_
  refine gf_X1_30 (pc := 90) X (ml_c70 hn) dX1_findCheapest_90 (fun r1 => ?_)
  have hw := hw r1
  refine ml_aload_n (pc := 93) X hl 1 rfl rfl dX1_findCheapest_93 ?_
  refine gf_X1_52 (pc := 94) X (ml_c55 hn) dX1_findCheapest_94 ?_
  refine ml_iload (pc := 97) X hl 5 rfl dX1_findCheapest_97 ?_
  obtain ⟨a2, b2, hw⟩ := hw
  refine ml_iald (pc := 99) (N := 6) X (ml_c56 hn) a2 b2 dX1_findCheapest_99 (fun r2 => ?_)
  have hw := hw r2
  obtain ⟨a3, b3, hw⟩ := hw
  refine ml_iast (pc := 100) (N := 2838) X (ml_c74 hn) a3 b3 r2 dX1_findCheapest_100 (fun σ3 g3 => ?_)
  have hw := hw σ3 g3
  refine ml_aload_n (pc := 101) X hl 0 rfl rfl dX1_findCheapest_101 ?_
  refine ml_dup (pc := 102) X dX1_findCheapest_102 rfl ?_
  refine gf_X1_34 (pc := 103) X (ml_c70 hn) dX1_findCheapest_103 (fun r4 => ?_)
  have hw := hw r4
  refine ml_aload_n (pc := 106) X hl 2 rfl rfl dX1_findCheapest_106 ?_
  refine ml_aload_n (pc := 107) X hl 0 rfl rfl dX1_findCheapest_107 ?_
  refine gf_X1_23 (pc := 108) X (ml_c70 hn) dX1_findCheapest_108 ?_
  refine ml_aload_n (pc := 111) X hl 0 rfl rfl dX1_findCheapest_111 ?_
  refine gf_X1_30 (pc := 112) X (ml_c70 hn) dX1_findCheapest_112 (fun r5 => ?_)
  have hw := hw r5
  obtain ⟨a6, b6, hw⟩ := hw
  refine ml_iald (pc := 115) (N := 2838) X (ml_c74 hn) a6 b6 dX1_findCheapest_115 (fun r6 => ?_)
  have hw := hw r6
  obtain ⟨a7, b7, hw⟩ := hw
  refine ml_aald_words (pc := 116) X hn a7 b7 dX1_findCheapest_116 ?_
  refine gf_X1_70 (pc := 117) X (ml_at_words hn a7 b7) dX1_findCheapest_117 (fun r8 => ?_)
  have hw := hw r8
  obtain ⟨v9, hw⟩ := hw
  refine ml_iadd (pc := 120) X dX1_findCheapest_120 ?_
  refine pf_X1_34 (pc := 121) X (ml_c70 hn) v9 dX1_findCheapest_121 (fun σ10 g10 => ?_)
  have hw := hw σ10 g10
  refine ml_aload_n (pc := 124) X hl 0 rfl rfl dX1_findCheapest_124 ?_
  refine ml_dup (pc := 125) X dX1_findCheapest_125 rfl ?_
  refine gf_X1_30 (pc := 126) X (ml_c70 hn) dX1_findCheapest_126 (fun r11 => ?_)
  have hw := hw r11
  refine ml_iconst (pc := 129) X dX1_findCheapest_129 ?_
  obtain ⟨v12, hw⟩ := hw
  refine ml_iadd (pc := 130) X dX1_findCheapest_130 ?_
  refine pf_X1_30 (pc := 131) X (ml_c70 hn) v12 dX1_findCheapest_131 (fun σ13 g13 => ?_)
  have hw := hw σ13 g13
  refine ml_aload_n (pc := 134) X hl 1 rfl rfl dX1_findCheapest_134 ?_
  refine gf_X1_49 (pc := 135) X (ml_c55 hn) dX1_findCheapest_135 ?_
  refine ml_iload (pc := 138) X hl 4 rfl dX1_findCheapest_138 ?_
  refine ml_bipush (pc := 140) X dX1_findCheapest_140 (by decide) ?_
  obtain ⟨v14, hw⟩ := hw
  refine ml_imul (pc := 142) X dX1_findCheapest_142 ?_
  refine ml_iload (pc := 143) X hl 5 rfl dX1_findCheapest_143 ?_
  obtain ⟨v15, hw⟩ := hw
  refine ml_iadd (pc := 145) X dX1_findCheapest_145 ?_
  obtain ⟨a16, b16, hw⟩ := hw
  refine ml_iald (pc := 146) (N := 5676) X (ml_c58 hn) a16 b16 dX1_findCheapest_146 (fun r16 => ?_)
  have hw := hw r16
  refine ml_topI (pc := 147) (fun y17 e17 => ?_)
  have hw := hw y17 e17
  have q17 : I32 y17 := by rw [e17]; exact r16
  refine ml_istore (pc := 147) X hl (by decide) (lst' := [(4, .int (Int32.ofInt y17)), (0, .ref (base + (70 : Int).toNat)), (1, .ref (base + (55 : Int).toNat)), (2, .ref (base + (114 : Int).toNat)), (3, .int (Int32.ofInt x3)), (5, .int (Int32.ofInt x5))]) rfl dX1_findCheapest_147 (fun ls hl => ?_)
  refine ml_iload (pc := 149) X hl 0 rfl dX1_findCheapest_149 ?_
  refine ml_iload_n (pc := 151) X hl 4 rfl rfl dX1_findCheapest_151 ?_
  refine ml_icmp_eq (pc := 152) (tgt := 165) X q17 h_x3 dX1_findCheapest_152 (by decide) (fun c18 => ?_) (fun c18 => ?_)
  · have hw := hw.1 c18
    exact hK165 σ13   _ (lv_sub hl [] rfl) hw
  · have hw := hw.2 c18
    refine ml_aload_n (pc := 155) X hl 1 rfl rfl dX1_findCheapest_155 ?_
    refine gf_X1_30 (pc := 156) X (ml_c70 hn) dX1_findCheapest_156 (fun r19 => ?_)
    have hw := hw r19
    refine ml_sipush (pc := 159) X dX1_findCheapest_159 (by decide) ?_
    refine ml_icmp_lt (pc := 162) (tgt := 36) X r19 ⟨by decide, by decide⟩ dX1_findCheapest_162 (by decide) (fun c20 => ?_) (fun c20 => ?_)
    · have hw := hw.1 c20
      exact hK36 σ13 x3 y17 h_x3 q17 _ (lv_sub hl [1, 2, 3, 4, 0] rfl) hw
    · have hw := hw.2 c20
      exact hK165 σ13   _ (lv_sub hl [] rfl) hw
set_option maxRecDepth 100000 in
set_option maxHeartbeats 4000000 in
theorem u_X1_findCheapest_36 {p : Program} {e : Env} {s : State} {m : MethodId} {args : Array Value} {below : List Frame} {meth : Method} {c : Code} {base : Nat} {D : va_G} {cA : Nat → ClassId} {n : Nat} {l : Launch} {Q : ml_St → Prop} {K165 : ml_St → Prop} (X : ml_X p s m c meth args D cA cX1_findCheapest 7 RX1 none) (hn : 214 ≤ n) (hK165 : ∀ (σ : ml_St) (ls : Array Slot), lv_has ls 7 [] → K165 σ → ml_V p l e rm_X1_findCheapest s m args below meth c (MQ below (ml_Qv base D cA n Q) args s 0 0 (ml_A base)) base D cA 0 0 n n σ (F0 m 165 ls [])) : ∀ (N : Nat) (σ : ml_St) (x3 : Int) (x4 : Int) (h_x3 : I32 x3) (h_x4 : I32 x4) (ls : Array Slot), lv_has ls 7 [(0, .ref (base + (70 : Int).toNat)), (1, .ref (base + (55 : Int).toNat)), (2, .ref (base + (114 : Int).toNat)), (3, .int (Int32.ofInt x3)), (4, .int (Int32.ofInt x4))] → f_X1_findCheapest_u36 Q K165 N σ x3 x4 → ml_V p l e rm_X1_findCheapest s m args below meth c (MQ below (ml_Qv base D cA n Q) args s 0 0 (ml_A base)) base D cA 0 0 n n σ (F0 m 36 ls []) := by
  intro N
  induction N with
  | zero => intro σ x3 x4 h_x3 h_x4 ls hl hw; exact False.elim hw
  | succ N ih =>
    intro σ x3 x4 h_x3 h_x4 ls hl hw
    unfold f_X1_findCheapest_u36 at hw
    refine ml_iconst (pc := 36) X dX1_findCheapest_36 ?_
    refine ml_istore (pc := 37) X hl (by decide) (lst' := [(5, .int (Int32.ofInt 0)), (0, .ref (base + (70 : Int).toNat)), (1, .ref (base + (55 : Int).toNat)), (2, .ref (base + (114 : Int).toNat)), (3, .int (Int32.ofInt x3)), (4, .int (Int32.ofInt x4))]) rfl dX1_findCheapest_37 (fun ls hl => ?_)
    refine ml_iconst (pc := 39) X dX1_findCheapest_39 ?_
    refine ml_istore (pc := 40) X hl (by decide) (lst' := [(6, .int (Int32.ofInt 1)), (5, .int (Int32.ofInt 0)), (0, .ref (base + (70 : Int).toNat)), (1, .ref (base + (55 : Int).toNat)), (2, .ref (base + (114 : Int).toNat)), (3, .int (Int32.ofInt x3)), (4, .int (Int32.ofInt x4))]) rfl dX1_findCheapest_40 (fun ls hl => ?_)
    obtain ⟨N0, hw⟩ := hw
    exact u_X1_findCheapest_42 X hn (fun σ x3 x4 x5 h_x3 h_x4 h_x5 ls hl hw => u_X1_findCheapest_85 X hn ih hK165 σ x3 x4 x5 h_x3 h_x4 h_x5 ls hl hw) N0 σ x3 x4 0 1 h_x3 h_x4 ⟨by decide, by decide⟩ ⟨by decide, by decide⟩ _ (lv_sub hl [2, 3, 4, 5, 6, 1, 0] rfl) hw
set_option maxRecDepth 100000 in
set_option maxHeartbeats 4000000 in
theorem u_X1_findCheapest_165 {p : Program} {e : Env} {s : State} {m : MethodId} {args : Array Value} {below : List Frame} {meth : Method} {c : Code} {base : Nat} {D : va_G} {cA : Nat → ClassId} {n : Nat} {l : Launch} {Q : ml_St → Prop} (X : ml_X p s m c meth args D cA cX1_findCheapest 7 RX1 none) (hn : 214 ≤ n) (σ : ml_St) (ls : Array Slot) (hl : lv_has ls 7 []) (hw : f_X1_findCheapest_u165 Q σ) : ml_V p l e rm_X1_findCheapest s m args below meth c (MQ below (ml_Qv base D cA n Q) args s 0 0 (ml_A base)) base D cA 0 0 n n σ (F0 m 165 ls []) := by
  unfold f_X1_findCheapest_u165 at hw
  exact ml_vret (pc := 165) X hw dX1_findCheapest_165
set_option maxRecDepth 100000 in
set_option maxHeartbeats 4000000 in
theorem u_X1_findCheapest_0 {p : Program} {e : Env} {s : State} {m : MethodId} {args : Array Value} {below : List Frame} {meth : Method} {c : Code} {base : Nat} {D : va_G} {cA : Nat → ClassId} {n : Nat} {l : Launch} {Q : ml_St → Prop} (X : ml_X p s m c meth args D cA cX1_findCheapest 7 RX1 none) (hn : 214 ≤ n) (σ : ml_St) (x3 : Int) (h_x3 : I32 x3) (ls : Array Slot) (hl : lv_has ls 7 [(0, .ref (base + (70 : Int).toNat)), (1, .ref (base + (55 : Int).toNat)), (2, .ref (base + (114 : Int).toNat)), (3, .int (Int32.ofInt x3))]) (hw : f_X1_findCheapest_u0 Q σ x3) : ml_V p l e rm_X1_findCheapest s m args below meth c (MQ below (ml_Qv base D cA n Q) args s 0 0 (ml_A base)) base D cA 0 0 n n σ (F0 m 0 ls []) := by
  unfold f_X1_findCheapest_u0 at hw
  refine ml_aload_n (pc := 0) X hl 0 rfl rfl dX1_findCheapest_0 ?_
  refine ml_iconst (pc := 1) X dX1_findCheapest_1 ?_
  refine pf_X1_30 (pc := 2) X (ml_c70 hn) ⟨by decide, by decide⟩ dX1_findCheapest_2 (fun σ1 g1 => ?_)
  have hw := hw σ1 g1
  refine ml_aload_n (pc := 5) X hl 0 rfl rfl dX1_findCheapest_5 ?_
  refine ml_iconst (pc := 6) X dX1_findCheapest_6 ?_
  refine pf_X1_34 (pc := 7) X (ml_c70 hn) ⟨by decide, by decide⟩ dX1_findCheapest_7 (fun σ2 g2 => ?_)
  have hw := hw σ2 g2
  refine ml_iload_n (pc := 10) X hl 3 rfl rfl dX1_findCheapest_10 ?_
  refine ml_iconst (pc := 11) X dX1_findCheapest_11 ?_
  refine ml_icmp_ne (pc := 12) (tgt := 16) X h_x3 ⟨by decide, by decide⟩ dX1_findCheapest_12 (by decide) (fun c3 => ?_) (fun c3 => ?_)
  · have hw := hw.1 c3
    refine ml_aload_n (pc := 16) X hl 0 rfl rfl dX1_findCheapest_16 ?_
    refine ml_aload_n (pc := 17) X hl 1 rfl rfl dX1_findCheapest_17 ?_
    refine ml_aload_n (pc := 18) X hl 2 rfl rfl dX1_findCheapest_18 ?_
    refine ml_iload_n (pc := 19) X hl 3 rfl rfl dX1_findCheapest_19 ?_
    refine ml_callvV (pc := 20) (rest := []) X [.ref (base + (55 : Int).toNat), .ref (base + (114 : Int).toNat), .int (Int32.ofInt x3)] (by decide) rfl (ml_c70 hn) (c_X1_weighRests l base D cA n hn σ2 x3 h_x3 _ hw) cv_X1_62 ⟨rfl, rfl⟩ ⟨by decide, by decide⟩ rfl rfl hl (Nat.le_of_ble_eq_true rfl) ⟨Nat.zero_le _, Nat.zero_le _⟩ dX1_findCheapest_20 (fun σ4 hw => ?_)
    refine ml_aload_n (pc := 23) X hl 0 rfl rfl dX1_findCheapest_23 ?_
    refine ml_iconst (pc := 24) X dX1_findCheapest_24 ?_
    refine pf_X1_30 (pc := 25) X (ml_c70 hn) ⟨by decide, by decide⟩ dX1_findCheapest_25 (fun σ5 g5 => ?_)
    have hw := hw σ5 g5
    refine ml_aload_n (pc := 28) X hl 0 rfl rfl dX1_findCheapest_28 ?_
    refine ml_iconst (pc := 29) X dX1_findCheapest_29 ?_
    refine pf_X1_34 (pc := 30) X (ml_c70 hn) ⟨by decide, by decide⟩ dX1_findCheapest_30 (fun σ6 g6 => ?_)
    have hw := hw σ6 g6
    refine ml_iconst (pc := 33) X dX1_findCheapest_33 ?_
    refine ml_istore (pc := 34) X hl (by decide) (lst' := [(4, .int (Int32.ofInt 0)), (0, .ref (base + (70 : Int).toNat)), (1, .ref (base + (55 : Int).toNat)), (2, .ref (base + (114 : Int).toNat)), (3, .int (Int32.ofInt x3))]) rfl dX1_findCheapest_34 (fun ls hl => ?_)
    obtain ⟨N0, hw⟩ := hw
    exact u_X1_findCheapest_36 X hn (fun σ   ls hl hw => u_X1_findCheapest_165 X hn σ   ls hl hw) N0 σ6 x3 0 h_x3 ⟨by decide, by decide⟩ _ (lv_sub hl [1, 2, 3, 4, 0] rfl) hw
  · have hw := hw.2 c3
    exact ml_vret (pc := 15) X hw dX1_findCheapest_15
set_option maxRecDepth 100000 in
theorem c_X1_findCheapest (l : Launch) (base : Nat) (D : va_G) (cA : Nat → ClassId) (n : Nat) (hn : 214 ≤ n) (σ : ml_St) (x3 : Int) (h_x3 : I32 x3) (Q : ml_St → Prop) (hw : f_X1_findCheapest σ x3 Q) : Met l yX1_findCheapest (Cond.code yX1_findCheapest cX1_findCheapest 7 none :: ml_T) rm_X1_findCheapest (va_Pc [.ref (base + (70 : Int).toNat), .ref (base + (55 : Int).toNat), .ref (base + (114 : Int).toNat), .int (Int32.ofInt x3)] (ml_U base D cA n σ)) (ml_Qv base D cA n Q) 0 0 (ml_A base) := by
  refine Met.ofW (cc := cX1_findCheapest) (maxL := 7) (ret := none) (by decide) rfl ?_
  intro p e s m args below meth c s₁ B hml hv
  obtain ⟨rfl, hP, hK, hok, hro⟩ := hv
  have X : ml_X p s m c meth _ D cA cX1_findCheapest 7 RX1 none := ⟨B.exec, B.bytes, hml, findClass_of_methodNamed B.named, fun w hw => atoms_spec (ws := Cond.code yX1_findCheapest cX1_findCheapest 7 none :: ml_T) B.pre w (List.mem_cons_of_mem _ hw), hK, B.notSynchronized, B.returns⟩
  have hl := lv_entry [.ref (base + (70 : Int).toNat), .ref (base + (55 : Int).toNat), .ref (base + (114 : Int).toNat), .int (Int32.ofInt x3)] (n := 7) (Nat.le_of_ble_eq_true rfl)
  rw [lg_entry_eq]
  generalize (lg_sl [.ref (base + (70 : Int).toNat), .ref (base + (55 : Int).toNat), .ref (base + (114 : Int).toNat), .int (Int32.ofInt x3)] ++ List.replicate (7 - (lg_sl [.ref (base + (70 : Int).toNat), .ref (base + (55 : Int).toNat), .ref (base + (114 : Int).toNat), .int (Int32.ofInt x3)]).length) Slot.unset).toArray = ls at hl ⊢
  have hl : lv_has ls 7 [(0, .ref (base + (70 : Int).toNat)), (1, .ref (base + (55 : Int).toNat)), (2, .ref (base + (114 : Int).toNat)), (3, .int (Int32.ofInt x3))] := hl
  unfold f_X1_findCheapest at hw
  exact u_X1_findCheapest_0 X hn σ x3 h_x3 _ (lv_sub hl [0, 1, 2, 3] rfl) hw s.heap [] hP va_S.rf hok hro
theorem dX11_cheapest_0 : decode cX11_cheapest 0 = .ok (.aload_n 0, 1) := by decide +kernel
theorem dX11_cheapest_1 : decode cX11_cheapest 1 = .ok (.iload_n 2, 1) := by decide +kernel
theorem dX11_cheapest_2 : decode cX11_cheapest 2 = .ok (.invokevirtual 121, 3) := by decide +kernel
theorem dX11_cheapest_5 : decode cX11_cheapest 5 = .ok (.ifCond .eq 17, 3) := by decide +kernel
theorem dX11_cheapest_8 : decode cX11_cheapest 8 = .ok (.iload_n 3, 1) := by decide +kernel
theorem dX11_cheapest_9 : decode cX11_cheapest 9 = .ok (.bipush (-2), 2) := by decide +kernel
theorem dX11_cheapest_11 : decode cX11_cheapest 11 = .ok (.if_icmp .lt 11, 3) := by decide +kernel
theorem dX11_cheapest_14 : decode cX11_cheapest 14 = .ok (.aload_n 0, 1) := by decide +kernel
theorem dX11_cheapest_15 : decode cX11_cheapest 15 = .ok (.iload_n 1, 1) := by decide +kernel
theorem dX11_cheapest_16 : decode cX11_cheapest 16 = .ok (.invokevirtual 219, 3) := by decide +kernel
theorem dX11_cheapest_19 : decode cX11_cheapest 19 = .ok (.ifCond .ne 5, 3) := by decide +kernel
theorem dX11_cheapest_22 : decode cX11_cheapest 22 = .ok (.iconst (-1), 1) := by decide +kernel
theorem dX11_cheapest_23 : decode cX11_cheapest 23 = .ok (.ireturn, 1) := by decide +kernel
theorem dX11_cheapest_24 : decode cX11_cheapest 24 = .ok (.aload_n 0, 1) := by decide +kernel
theorem dX11_cheapest_25 : decode cX11_cheapest 25 = .ok (.getfield 47, 3) := by decide +kernel
theorem dX11_cheapest_28 : decode cX11_cheapest 28 = .ok (.getfield 242, 3) := by decide +kernel
theorem dX11_cheapest_31 : decode cX11_cheapest 31 = .ok (.aload_n 0, 1) := by decide +kernel
theorem dX11_cheapest_32 : decode cX11_cheapest 32 = .ok (.getfield 67, 3) := by decide +kernel
theorem dX11_cheapest_35 : decode cX11_cheapest 35 = .ok (.iload_n 2, 1) := by decide +kernel
theorem dX11_cheapest_36 : decode cX11_cheapest 36 = .ok (.aaload, 1) := by decide +kernel
theorem dX11_cheapest_37 : decode cX11_cheapest 37 = .ok (.getfield 112, 3) := by decide +kernel
theorem dX11_cheapest_40 : decode cX11_cheapest 40 = .ok (.aload_n 0, 1) := by decide +kernel
theorem dX11_cheapest_41 : decode cX11_cheapest 41 = .ok (.getfield 82, 3) := by decide +kernel
theorem dX11_cheapest_44 : decode cX11_cheapest 44 = .ok (.invokevirtual 245, 3) := by decide +kernel
theorem dX11_cheapest_47 : decode cX11_cheapest 47 = .ok (.iaload, 1) := by decide +kernel
theorem dX11_cheapest_48 : decode cX11_cheapest 48 = .ok (.istore 4, 2) := by decide +kernel
theorem dX11_cheapest_50 : decode cX11_cheapest 50 = .ok (.aload_n 0, 1) := by decide +kernel
theorem dX11_cheapest_51 : decode cX11_cheapest 51 = .ok (.getfield 54, 3) := by decide +kernel
theorem dX11_cheapest_54 : decode cX11_cheapest 54 = .ok (.aload_n 0, 1) := by decide +kernel
theorem dX11_cheapest_55 : decode cX11_cheapest 55 = .ok (.getfield 47, 3) := by decide +kernel
theorem dX11_cheapest_58 : decode cX11_cheapest 58 = .ok (.aload_n 0, 1) := by decide +kernel
theorem dX11_cheapest_59 : decode cX11_cheapest 59 = .ok (.getfield 67, 3) := by decide +kernel
theorem dX11_cheapest_62 : decode cX11_cheapest 62 = .ok (.iload 4, 2) := by decide +kernel
theorem dX11_cheapest_64 : decode cX11_cheapest 64 = .ok (.invokevirtual 248, 3) := by decide +kernel
theorem dX11_cheapest_67 : decode cX11_cheapest 67 = .ok (.iload_n 3, 1) := by decide +kernel
theorem dX11_cheapest_68 : decode cX11_cheapest 68 = .ok (.bipush (-2), 2) := by decide +kernel
theorem dX11_cheapest_70 : decode cX11_cheapest 70 = .ok (.if_icmp .ne 13, 3) := by decide +kernel
theorem dX11_cheapest_73 : decode cX11_cheapest 73 = .ok (.aload_n 0, 1) := by decide +kernel
theorem dX11_cheapest_74 : decode cX11_cheapest 74 = .ok (.getfield 54, 3) := by decide +kernel
theorem dX11_cheapest_77 : decode cX11_cheapest 77 = .ok (.getfield 252, 3) := by decide +kernel
theorem dX11_cheapest_80 : decode cX11_cheapest 80 = .ok (.goto 11, 3) := by decide +kernel
theorem dX11_cheapest_83 : decode cX11_cheapest 83 = .ok (.aload_n 0, 1) := by decide +kernel
theorem dX11_cheapest_84 : decode cX11_cheapest 84 = .ok (.getfield 54, 3) := by decide +kernel
theorem dX11_cheapest_87 : decode cX11_cheapest 87 = .ok (.iload_n 3, 1) := by decide +kernel
theorem dX11_cheapest_88 : decode cX11_cheapest 88 = .ok (.invokevirtual 235, 3) := by decide +kernel
theorem dX11_cheapest_91 : decode cX11_cheapest 91 = .ok (.ireturn, 1) := by decide +kernel
def f_X11_cheapest_u22 (Q : Int → ml_St → Prop) (σ : ml_St) : Prop :=
Q (-1) σ
def f_X11_cheapest_u91 (Q : Int → ml_St → Prop) (σ : ml_St) (s0 : Int) : Prop :=
Q s0 σ
def f_X11_cheapest_u0 (Q : Int → ml_St → Prop) (σ : ml_St) (x1 : Int) (x2 : Int) (x3 : Int) : Prop :=
f_X11_isMade σ x2 (fun r1 σ1 => ∀ _ : ml_B r1,
(r1 = 0 →
f_X11_cheapest_u22 Q σ1) ∧
(r1 ≠ 0 →
(x3 < (-2) →
f_X11_cheapest_u22 Q σ1) ∧
(¬ (x3 < (-2)) →
f_X11_openLetters σ1 x1 (fun r4 σ4 => ∀ _ : ml_B r4,
(r4 ≠ 0 →
(0 : Int) ≤ x2 ∧ (x2 : Int) < 16 ∧
∀ _ : I32 (σ4 1 11),
f_X9_number σ4 ((119 + 6 * x2) + 2) (σ4 1 11) (fun r8 σ8 => ∀ _ : I32 r8,
(0 : Int) ≤ r8 ∧ (r8 : Int) < 945 ∧
∀ _ : I32 (σ8 57 r8),
∀ y10 : Int, y10 = σ8 57 r8 →
f_X1_findCheapest σ8 y10 (fun σ11 =>
(x3 ≠ (-2) →
f_X1_answer σ11 x3 (fun r13 σ13 => ∀ _ : I32 r13,
f_X11_cheapest_u91 Q σ13 r13)) ∧
(x3 = (-2) →
∀ _ : I32 (σ11 70 6),
f_X11_cheapest_u91 Q σ11 (σ11 70 6))))) ∧
(r4 = 0 →
f_X11_cheapest_u22 Q σ4)))))
def f_X11_cheapest (σ : ml_St) (x1 : Int) (x2 : Int) (x3 : Int) (Q : Int → ml_St → Prop) : Prop := f_X11_cheapest_u0 Q σ x1 x2 x3
def rm_X11_cheapest : Room := { frames := 6, cells := 0, slots := 0, locals := 186 }
set_option maxRecDepth 100000 in
set_option maxHeartbeats 4000000 in
theorem u_X11_cheapest_22 {p : Program} {e : Env} {s : State} {m : MethodId} {args : Array Value} {below : List Frame} {meth : Method} {c : Code} {base : Nat} {D : va_G} {cA : Nat → ClassId} {n : Nat} {l : Launch} {Q : Int → ml_St → Prop} (X : ml_X p s m c meth args D cA cX11_cheapest 5 RX11 (some .int)) (hn : 214 ≤ n) (σ : ml_St) (ls : Array Slot) (hl : lv_has ls 5 []) (hw : f_X11_cheapest_u22 Q σ) : ml_V p l e rm_X11_cheapest s m args below meth c (MQ below (ml_Qi I32 base D cA n Q) args s 0 0 (ml_A base)) base D cA 0 0 n n σ (F0 m 22 ls []) := by
  unfold f_X11_cheapest_u22 at hw
  refine ml_iconst (pc := 22) X dX11_cheapest_22 ?_
  exact ml_iret (pc := 23) X ⟨by decide, by decide⟩ hw dX11_cheapest_23
set_option maxRecDepth 100000 in
set_option maxHeartbeats 4000000 in
theorem u_X11_cheapest_91 {p : Program} {e : Env} {s : State} {m : MethodId} {args : Array Value} {below : List Frame} {meth : Method} {c : Code} {base : Nat} {D : va_G} {cA : Nat → ClassId} {n : Nat} {l : Launch} {Q : Int → ml_St → Prop} (X : ml_X p s m c meth args D cA cX11_cheapest 5 RX11 (some .int)) (hn : 214 ≤ n) (σ : ml_St) (s0 : Int) (h_s0 : I32 s0) (ls : Array Slot) (hl : lv_has ls 5 []) (hw : f_X11_cheapest_u91 Q σ s0) : ml_V p l e rm_X11_cheapest s m args below meth c (MQ below (ml_Qi I32 base D cA n Q) args s 0 0 (ml_A base)) base D cA 0 0 n n σ (F0 m 91 ls [.int (Int32.ofInt s0)]) := by
  unfold f_X11_cheapest_u91 at hw
  exact ml_iret (pc := 91) X h_s0 hw dX11_cheapest_91
set_option maxRecDepth 100000 in
set_option maxHeartbeats 4000000 in
theorem u_X11_cheapest_0 {p : Program} {e : Env} {s : State} {m : MethodId} {args : Array Value} {below : List Frame} {meth : Method} {c : Code} {base : Nat} {D : va_G} {cA : Nat → ClassId} {n : Nat} {l : Launch} {Q : Int → ml_St → Prop} (X : ml_X p s m c meth args D cA cX11_cheapest 5 RX11 (some .int)) (hn : 214 ≤ n) (σ : ml_St) (x1 : Int) (x2 : Int) (x3 : Int) (h_x1 : I32 x1) (h_x2 : I32 x2) (h_x3 : I32 x3) (ls : Array Slot) (hl : lv_has ls 5 [(0, .ref (base + (1 : Int).toNat)), (1, .int (Int32.ofInt x1)), (2, .int (Int32.ofInt x2)), (3, .int (Int32.ofInt x3))]) (hw : f_X11_cheapest_u0 Q σ x1 x2 x3) : ml_V p l e rm_X11_cheapest s m args below meth c (MQ below (ml_Qi I32 base D cA n Q) args s 0 0 (ml_A base)) base D cA 0 0 n n σ (F0 m 0 ls []) := by
  unfold f_X11_cheapest_u0 at hw
  refine ml_aload_n (pc := 0) X hl 0 rfl rfl dX11_cheapest_0 ?_
  refine ml_iload_n (pc := 1) X hl 2 rfl rfl dX11_cheapest_1 ?_
  refine ml_callzV (pc := 2) (rest := []) X [.int (Int32.ofInt x2)] (by decide) rfl (ml_c1 hn) (c_X11_isMade l base D cA n hn σ x2 h_x2 _ hw) cv_X11_121 ⟨rfl, rfl⟩ ⟨by decide, by decide⟩ rfl rfl hl (Nat.le_of_ble_eq_true rfl) ⟨Nat.zero_le _, Nat.zero_le _⟩ dX11_cheapest_2 (fun r1 σ1 t1 hw => ?_)
  have hw := hw t1
  refine ml_if_eq (pc := 5) (tgt := 22) X t1.i dX11_cheapest_5 (by decide) (fun c2 => ?_) (fun c2 => ?_)
  · have hw := hw.1 c2
    exact u_X11_cheapest_22 X hn σ1   _ (lv_sub hl [] rfl) hw
  · have hw := hw.2 c2
    refine ml_iload_n (pc := 8) X hl 3 rfl rfl dX11_cheapest_8 ?_
    refine ml_bipush (pc := 9) X dX11_cheapest_9 (by decide) ?_
    refine ml_icmp_lt (pc := 11) (tgt := 22) X h_x3 ⟨by decide, by decide⟩ dX11_cheapest_11 (by decide) (fun c3 => ?_) (fun c3 => ?_)
    · have hw := hw.1 c3
      exact u_X11_cheapest_22 X hn σ1   _ (lv_sub hl [] rfl) hw
    · have hw := hw.2 c3
      refine ml_aload_n (pc := 14) X hl 0 rfl rfl dX11_cheapest_14 ?_
      refine ml_iload_n (pc := 15) X hl 1 rfl rfl dX11_cheapest_15 ?_
      refine ml_callzV (pc := 16) (rest := []) X [.int (Int32.ofInt x1)] (by decide) rfl (ml_c1 hn) (c_X11_openLetters l base D cA n hn σ1 x1 h_x1 _ hw) cv_X11_219 ⟨rfl, rfl⟩ ⟨by decide, by decide⟩ rfl rfl hl (Nat.le_of_ble_eq_true rfl) ⟨Nat.zero_le _, Nat.zero_le _⟩ dX11_cheapest_16 (fun r4 σ4 t4 hw => ?_)
      have hw := hw t4
      refine ml_if_ne (pc := 19) (tgt := 24) X t4.i dX11_cheapest_19 (by decide) (fun c5 => ?_) (fun c5 => ?_)
      · have hw := hw.1 c5
        refine ml_aload_n (pc := 24) X hl 0 rfl rfl dX11_cheapest_24 ?_
        refine gf_X11_47 (pc := 25) X (ml_c1 hn) dX11_cheapest_25 ?_
        refine gf_X11_242 (pc := 28) X (ml_c55 hn) dX11_cheapest_28 ?_
        refine ml_aload_n (pc := 31) X hl 0 rfl rfl dX11_cheapest_31 ?_
        refine gf_X11_67 (pc := 32) X (ml_c1 hn) dX11_cheapest_32 ?_
        refine ml_iload_n (pc := 35) X hl 2 rfl rfl dX11_cheapest_35 ?_
        obtain ⟨a6, b6, hw⟩ := hw
        refine ml_aald_words (pc := 36) X hn a6 b6 dX11_cheapest_36 ?_
        refine gf_X11_112 (pc := 37) X (ml_at_words hn a6 b6) dX11_cheapest_37 ?_
        refine ml_aload_n (pc := 40) X hl 0 rfl rfl dX11_cheapest_40 ?_
        refine gf_X11_82 (pc := 41) X (ml_c1 hn) dX11_cheapest_41 (fun r7 => ?_)
        have hw := hw r7
        refine ml_calliV (pc := 44) (rest := [.ref (base + (57 : Int).toNat)]) X [.int (Int32.ofInt (σ4 1 11))] (by decide) rfl (ml_r20_2 hn (ml_at_words hn a6 b6)) (c_X9_number l base D cA n hn σ4 ((119 + 6 * x2) + 2) (ml_r20_2 hn (ml_at_words hn a6 b6)) (σ4 1 11) r7 _ hw) cv_X11_245 ⟨rfl, rfl⟩ ⟨by decide, by decide⟩ rfl rfl hl (Nat.le_of_ble_eq_true rfl) ⟨Nat.zero_le _, Nat.zero_le _⟩ dX11_cheapest_44 (fun r8 σ8 t8 hw => ?_)
        have hw := hw t8
        obtain ⟨a9, b9, hw⟩ := hw
        refine ml_iald (pc := 47) (N := 945) X (ml_c57 hn) a9 b9 dX11_cheapest_47 (fun r9 => ?_)
        have hw := hw r9
        refine ml_topI (pc := 48) (fun y10 e10 => ?_)
        have hw := hw y10 e10
        have q10 : I32 y10 := by rw [e10]; exact r9
        refine ml_istore (pc := 48) X hl (by decide) (lst' := [(4, .int (Int32.ofInt y10)), (0, .ref (base + (1 : Int).toNat)), (1, .int (Int32.ofInt x1)), (2, .int (Int32.ofInt x2)), (3, .int (Int32.ofInt x3))]) rfl dX11_cheapest_48 (fun ls hl => ?_)
        refine ml_aload_n (pc := 50) X hl 1 rfl rfl dX11_cheapest_50 ?_
        refine gf_X11_54 (pc := 51) X (ml_c1 hn) dX11_cheapest_51 ?_
        refine ml_aload_n (pc := 54) X hl 1 rfl rfl dX11_cheapest_54 ?_
        refine gf_X11_47 (pc := 55) X (ml_c1 hn) dX11_cheapest_55 ?_
        refine ml_aload_n (pc := 58) X hl 1 rfl rfl dX11_cheapest_58 ?_
        refine gf_X11_67 (pc := 59) X (ml_c1 hn) dX11_cheapest_59 ?_
        refine ml_iload (pc := 62) X hl 0 rfl dX11_cheapest_62 ?_
        refine ml_callvV (pc := 64) (rest := []) X [.ref (base + (55 : Int).toNat), .ref (base + (114 : Int).toNat), .int (Int32.ofInt y10)] (by decide) rfl (ml_c70 hn) (c_X1_findCheapest l base D cA n hn σ8 y10 q10 _ hw) cv_X11_248 ⟨rfl, rfl⟩ ⟨by decide, by decide⟩ rfl rfl hl (Nat.le_of_ble_eq_true rfl) ⟨Nat.zero_le _, Nat.zero_le _⟩ dX11_cheapest_64 (fun σ11 hw => ?_)
        refine ml_iload_n (pc := 67) X hl 4 rfl rfl dX11_cheapest_67 ?_
        refine ml_bipush (pc := 68) X dX11_cheapest_68 (by decide) ?_
        refine ml_icmp_ne (pc := 70) (tgt := 83) X h_x3 ⟨by decide, by decide⟩ dX11_cheapest_70 (by decide) (fun c12 => ?_) (fun c12 => ?_)
        · have hw := hw.1 c12
          refine ml_aload_n (pc := 83) X hl 1 rfl rfl dX11_cheapest_83 ?_
          refine gf_X11_54 (pc := 84) X (ml_c1 hn) dX11_cheapest_84 ?_
          refine ml_iload_n (pc := 87) X hl 4 rfl rfl dX11_cheapest_87 ?_
          refine ml_calliV (pc := 88) (rest := []) X [.int (Int32.ofInt x3)] (by decide) rfl (ml_c70 hn) (c_X1_answer l base D cA n hn σ11 x3 h_x3 _ hw) cv_X11_235 ⟨rfl, rfl⟩ ⟨by decide, by decide⟩ rfl rfl hl (Nat.le_of_ble_eq_true rfl) ⟨Nat.zero_le _, Nat.zero_le _⟩ dX11_cheapest_88 (fun r13 σ13 t13 hw => ?_)
          have hw := hw t13
          exact u_X11_cheapest_91 X hn σ13 r13 t13 _ (lv_sub hl [] rfl) hw
        · have hw := hw.2 c12
          refine ml_aload_n (pc := 73) X hl 1 rfl rfl dX11_cheapest_73 ?_
          refine gf_X11_54 (pc := 74) X (ml_c1 hn) dX11_cheapest_74 ?_
          refine gf_X11_252 (pc := 77) X (ml_c70 hn) dX11_cheapest_77 (fun r14 => ?_)
          have hw := hw r14
          refine ml_goto (pc := 80) (tgt := 91) X dX11_cheapest_80 (by decide) ?_
          exact u_X11_cheapest_91 X hn σ11 (σ11 70 6) r14 _ (lv_sub hl [] rfl) hw
      · have hw := hw.2 c5
        exact u_X11_cheapest_22 X hn σ4   _ (lv_sub hl [] rfl) hw
set_option maxRecDepth 100000 in
theorem c_X11_cheapest (l : Launch) (base : Nat) (D : va_G) (cA : Nat → ClassId) (n : Nat) (hn : 214 ≤ n) (σ : ml_St) (x1 : Int) (x2 : Int) (x3 : Int) (h_x1 : I32 x1) (h_x2 : I32 x2) (h_x3 : I32 x3) (Q : Int → ml_St → Prop) (hw : f_X11_cheapest σ x1 x2 x3 Q) : Met l yX11_cheapest (Cond.code yX11_cheapest cX11_cheapest 5 (some .int) :: ml_T) rm_X11_cheapest (va_Pc [.ref (base + (1 : Int).toNat), .int (Int32.ofInt x1), .int (Int32.ofInt x2), .int (Int32.ofInt x3)] (ml_U base D cA n σ)) (ml_Qi I32 base D cA n Q) 0 0 (ml_A base) := by
  refine Met.ofW (cc := cX11_cheapest) (maxL := 5) (ret := (some .int)) (by decide) rfl ?_
  intro p e s m args below meth c s₁ B hml hv
  obtain ⟨rfl, hP, hK, hok, hro⟩ := hv
  have X : ml_X p s m c meth _ D cA cX11_cheapest 5 RX11 (some .int) := ⟨B.exec, B.bytes, hml, findClass_of_methodNamed B.named, fun w hw => atoms_spec (ws := Cond.code yX11_cheapest cX11_cheapest 5 (some .int) :: ml_T) B.pre w (List.mem_cons_of_mem _ hw), hK, B.notSynchronized, B.returns⟩
  have hl := lv_entry [.ref (base + (1 : Int).toNat), .int (Int32.ofInt x1), .int (Int32.ofInt x2), .int (Int32.ofInt x3)] (n := 5) (Nat.le_of_ble_eq_true rfl)
  rw [lg_entry_eq]
  generalize (lg_sl [.ref (base + (1 : Int).toNat), .int (Int32.ofInt x1), .int (Int32.ofInt x2), .int (Int32.ofInt x3)] ++ List.replicate (5 - (lg_sl [.ref (base + (1 : Int).toNat), .int (Int32.ofInt x1), .int (Int32.ofInt x2), .int (Int32.ofInt x3)]).length) Slot.unset).toArray = ls at hl ⊢
  have hl : lv_has ls 5 [(0, .ref (base + (1 : Int).toNat)), (1, .int (Int32.ofInt x1)), (2, .int (Int32.ofInt x2)), (3, .int (Int32.ofInt x3))] := hl
  unfold f_X11_cheapest at hw
  exact u_X11_cheapest_0 X hn σ x1 x2 x3 h_x1 h_x2 h_x3 _ (lv_sub hl [0, 1, 2, 3] rfl) hw s.heap [] hP va_S.rf hok hro
