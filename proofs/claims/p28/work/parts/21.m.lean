theorem dX12_cheapest_0 : decode cX12_cheapest 0 = .ok (.aload_n 0, 1) := by decide +kernel
theorem dX12_cheapest_1 : decode cX12_cheapest 1 = .ok (.iload_n 1, 1) := by decide +kernel
theorem dX12_cheapest_2 : decode cX12_cheapest 2 = .ok (.invokevirtual 379, 3) := by decide +kernel
theorem dX12_cheapest_5 : decode cX12_cheapest 5 = .ok (.ifCond .eq 17, 3) := by decide +kernel
theorem dX12_cheapest_8 : decode cX12_cheapest 8 = .ok (.aload_n 0, 1) := by decide +kernel
theorem dX12_cheapest_9 : decode cX12_cheapest 9 = .ok (.iload_n 2, 1) := by decide +kernel
theorem dX12_cheapest_10 : decode cX12_cheapest 10 = .ok (.invokevirtual 292, 3) := by decide +kernel
theorem dX12_cheapest_13 : decode cX12_cheapest 13 = .ok (.ifCond .eq 9, 3) := by decide +kernel
theorem dX12_cheapest_16 : decode cX12_cheapest 16 = .ok (.iload_n 3, 1) := by decide +kernel
theorem dX12_cheapest_17 : decode cX12_cheapest 17 = .ok (.bipush (-2), 2) := by decide +kernel
theorem dX12_cheapest_19 : decode cX12_cheapest 19 = .ok (.if_icmp .ge 5, 3) := by decide +kernel
theorem dX12_cheapest_22 : decode cX12_cheapest 22 = .ok (.iconst (-1), 1) := by decide +kernel
theorem dX12_cheapest_23 : decode cX12_cheapest 23 = .ok (.ireturn, 1) := by decide +kernel
theorem dX12_cheapest_24 : decode cX12_cheapest 24 = .ok (.aload_n 0, 1) := by decide +kernel
theorem dX12_cheapest_25 : decode cX12_cheapest 25 = .ok (.invokevirtual 384, 3) := by decide +kernel
theorem dX12_cheapest_28 : decode cX12_cheapest 28 = .ok (.aload_n 0, 1) := by decide +kernel
theorem dX12_cheapest_29 : decode cX12_cheapest 29 = .ok (.iload_n 2, 1) := by decide +kernel
theorem dX12_cheapest_30 : decode cX12_cheapest 30 = .ok (.invokevirtual 398, 3) := by decide +kernel
theorem dX12_cheapest_33 : decode cX12_cheapest 33 = .ok (.istore 4, 2) := by decide +kernel
theorem dX12_cheapest_35 : decode cX12_cheapest 35 = .ok (.iload 4, 2) := by decide +kernel
theorem dX12_cheapest_37 : decode cX12_cheapest 37 = .ok (.iconst (-1), 1) := by decide +kernel
theorem dX12_cheapest_38 : decode cX12_cheapest 38 = .ok (.if_icmp .ne 5, 3) := by decide +kernel
theorem dX12_cheapest_41 : decode cX12_cheapest 41 = .ok (.iconst (-1), 1) := by decide +kernel
theorem dX12_cheapest_42 : decode cX12_cheapest 42 = .ok (.ireturn, 1) := by decide +kernel
theorem dX12_cheapest_43 : decode cX12_cheapest 43 = .ok (.aload_n 0, 1) := by decide +kernel
theorem dX12_cheapest_44 : decode cX12_cheapest 44 = .ok (.iload 4, 2) := by decide +kernel
theorem dX12_cheapest_46 : decode cX12_cheapest 46 = .ok (.invokevirtual 401, 3) := by decide +kernel
theorem dX12_cheapest_49 : decode cX12_cheapest 49 = .ok (.aload_n 0, 1) := by decide +kernel
theorem dX12_cheapest_50 : decode cX12_cheapest 50 = .ok (.iconst (-1), 1) := by decide +kernel
theorem dX12_cheapest_51 : decode cX12_cheapest 51 = .ok (.invokevirtual 404, 3) := by decide +kernel
theorem dX12_cheapest_54 : decode cX12_cheapest 54 = .ok (.istore 5, 2) := by decide +kernel
theorem dX12_cheapest_56 : decode cX12_cheapest 56 = .ok (.iload 5, 2) := by decide +kernel
theorem dX12_cheapest_58 : decode cX12_cheapest 58 = .ok (.iconst (-1), 1) := by decide +kernel
theorem dX12_cheapest_59 : decode cX12_cheapest 59 = .ok (.if_icmp .ne 5, 3) := by decide +kernel
theorem dX12_cheapest_62 : decode cX12_cheapest 62 = .ok (.iconst (-1), 1) := by decide +kernel
theorem dX12_cheapest_63 : decode cX12_cheapest 63 = .ok (.ireturn, 1) := by decide +kernel
theorem dX12_cheapest_64 : decode cX12_cheapest 64 = .ok (.aload_n 0, 1) := by decide +kernel
theorem dX12_cheapest_65 : decode cX12_cheapest 65 = .ok (.getfield 95, 3) := by decide +kernel
theorem dX12_cheapest_68 : decode cX12_cheapest 68 = .ok (.iload 5, 2) := by decide +kernel
theorem dX12_cheapest_70 : decode cX12_cheapest 70 = .ok (.iaload, 1) := by decide +kernel
theorem dX12_cheapest_71 : decode cX12_cheapest 71 = .ok (.istore 6, 2) := by decide +kernel
theorem dX12_cheapest_73 : decode cX12_cheapest 73 = .ok (.aload_n 0, 1) := by decide +kernel
theorem dX12_cheapest_74 : decode cX12_cheapest 74 = .ok (.getfield 122, 3) := by decide +kernel
theorem dX12_cheapest_77 : decode cX12_cheapest 77 = .ok (.iload 6, 2) := by decide +kernel
theorem dX12_cheapest_79 : decode cX12_cheapest 79 = .ok (.iaload, 1) := by decide +kernel
theorem dX12_cheapest_80 : decode cX12_cheapest 80 = .ok (.iconst 1, 1) := by decide +kernel
theorem dX12_cheapest_81 : decode cX12_cheapest 81 = .ok (.iadd, 1) := by decide +kernel
theorem dX12_cheapest_82 : decode cX12_cheapest 82 = .ok (.istore 7, 2) := by decide +kernel
theorem dX12_cheapest_84 : decode cX12_cheapest 84 = .ok (.iload_n 3, 1) := by decide +kernel
theorem dX12_cheapest_85 : decode cX12_cheapest 85 = .ok (.bipush (-2), 2) := by decide +kernel
theorem dX12_cheapest_87 : decode cX12_cheapest 87 = .ok (.if_icmp .ne 24, 3) := by decide +kernel
theorem dX12_cheapest_90 : decode cX12_cheapest 90 = .ok (.aload_n 0, 1) := by decide +kernel
theorem dX12_cheapest_91 : decode cX12_cheapest 91 = .ok (.getfield 119, 3) := by decide +kernel
theorem dX12_cheapest_94 : decode cX12_cheapest 94 = .ok (.iload 6, 2) := by decide +kernel
theorem dX12_cheapest_96 : decode cX12_cheapest 96 = .ok (.iaload, 1) := by decide +kernel
theorem dX12_cheapest_97 : decode cX12_cheapest 97 = .ok (.aload_n 0, 1) := by decide +kernel
theorem dX12_cheapest_98 : decode cX12_cheapest 98 = .ok (.getfield 27, 3) := by decide +kernel
theorem dX12_cheapest_101 : decode cX12_cheapest 101 = .ok (.aload_n 0, 1) := by decide +kernel
theorem dX12_cheapest_102 : decode cX12_cheapest 102 = .ok (.getfield 80, 3) := by decide +kernel
theorem dX12_cheapest_105 : decode cX12_cheapest 105 = .ok (.iload 5, 2) := by decide +kernel
theorem dX12_cheapest_107 : decode cX12_cheapest 107 = .ok (.iaload, 1) := by decide +kernel
theorem dX12_cheapest_108 : decode cX12_cheapest 108 = .ok (.iaload, 1) := by decide +kernel
theorem dX12_cheapest_109 : decode cX12_cheapest 109 = .ok (.iadd, 1) := by decide +kernel
theorem dX12_cheapest_110 : decode cX12_cheapest 110 = .ok (.ireturn, 1) := by decide +kernel
theorem dX12_cheapest_111 : decode cX12_cheapest 111 = .ok (.iload_n 3, 1) := by decide +kernel
theorem dX12_cheapest_112 : decode cX12_cheapest 112 = .ok (.iconst (-1), 1) := by decide +kernel
theorem dX12_cheapest_113 : decode cX12_cheapest 113 = .ok (.if_icmp .ne 6, 3) := by decide +kernel
theorem dX12_cheapest_116 : decode cX12_cheapest 116 = .ok (.iload 7, 2) := by decide +kernel
theorem dX12_cheapest_118 : decode cX12_cheapest 118 = .ok (.ireturn, 1) := by decide +kernel
theorem dX12_cheapest_119 : decode cX12_cheapest 119 = .ok (.iload_n 3, 1) := by decide +kernel
theorem dX12_cheapest_120 : decode cX12_cheapest 120 = .ok (.iload 7, 2) := by decide +kernel
theorem dX12_cheapest_122 : decode cX12_cheapest 122 = .ok (.if_icmp .lt 5, 3) := by decide +kernel
theorem dX12_cheapest_125 : decode cX12_cheapest 125 = .ok (.iconst (-1), 1) := by decide +kernel
theorem dX12_cheapest_126 : decode cX12_cheapest 126 = .ok (.ireturn, 1) := by decide +kernel
theorem dX12_cheapest_127 : decode cX12_cheapest 127 = .ok (.iconst 0, 1) := by decide +kernel
theorem dX12_cheapest_128 : decode cX12_cheapest 128 = .ok (.istore 8, 2) := by decide +kernel
theorem dX12_cheapest_130 : decode cX12_cheapest 130 = .ok (.iload 8, 2) := by decide +kernel
theorem dX12_cheapest_132 : decode cX12_cheapest 132 = .ok (.iload_n 3, 1) := by decide +kernel
theorem dX12_cheapest_133 : decode cX12_cheapest 133 = .ok (.if_icmp .ge 32, 3) := by decide +kernel
theorem dX12_cheapest_136 : decode cX12_cheapest 136 = .ok (.aload_n 0, 1) := by decide +kernel
theorem dX12_cheapest_137 : decode cX12_cheapest 137 = .ok (.iload 6, 2) := by decide +kernel
theorem dX12_cheapest_139 : decode cX12_cheapest 139 = .ok (.invokevirtual 404, 3) := by decide +kernel
theorem dX12_cheapest_142 : decode cX12_cheapest 142 = .ok (.istore 5, 2) := by decide +kernel
theorem dX12_cheapest_144 : decode cX12_cheapest 144 = .ok (.aload_n 0, 1) := by decide +kernel
theorem dX12_cheapest_145 : decode cX12_cheapest 145 = .ok (.getfield 89, 3) := by decide +kernel
theorem dX12_cheapest_148 : decode cX12_cheapest 148 = .ok (.bipush 6, 2) := by decide +kernel
theorem dX12_cheapest_150 : decode cX12_cheapest 150 = .ok (.iload 6, 2) := by decide +kernel
theorem dX12_cheapest_152 : decode cX12_cheapest 152 = .ok (.imul, 1) := by decide +kernel
theorem dX12_cheapest_153 : decode cX12_cheapest 153 = .ok (.iload 5, 2) := by decide +kernel
theorem dX12_cheapest_155 : decode cX12_cheapest 155 = .ok (.iadd, 1) := by decide +kernel
theorem dX12_cheapest_156 : decode cX12_cheapest 156 = .ok (.iaload, 1) := by decide +kernel
theorem dX12_cheapest_157 : decode cX12_cheapest 157 = .ok (.istore 6, 2) := by decide +kernel
theorem dX12_cheapest_159 : decode cX12_cheapest 159 = .ok (.iinc 8 1, 3) := by decide +kernel
theorem dX12_cheapest_162 : decode cX12_cheapest 162 = .ok (.goto (-32), 3) := by decide +kernel
theorem dX12_cheapest_165 : decode cX12_cheapest 165 = .ok (.aload_n 0, 1) := by decide +kernel
theorem dX12_cheapest_166 : decode cX12_cheapest 166 = .ok (.getfield 80, 3) := by decide +kernel
theorem dX12_cheapest_169 : decode cX12_cheapest 169 = .ok (.iload 5, 2) := by decide +kernel
theorem dX12_cheapest_171 : decode cX12_cheapest 171 = .ok (.iaload, 1) := by decide +kernel
theorem dX12_cheapest_172 : decode cX12_cheapest 172 = .ok (.ireturn, 1) := by decide +kernel
def f_X12_cheapest_u22 (Q : Int → ml_St → Prop) (σ : ml_St) : Prop :=
Q (-1) σ
def f_X12_cheapest_u130 (Q : Int → ml_St → Prop) (K165 : ml_St → Int → Prop) : Nat → ml_St → Int → Int → Int → Int → Prop
| 0, _, _, _, _, _ => False
| N + 1, σ, x3, x5, x6, x8 =>
(x3 ≤ x8 →
K165 σ x5) ∧
(¬ (x3 ≤ x8) →
f_X12_best σ x6 (fun r2 σ2 => ∀ _ : I32 r2,
I32 (6 * x6) ∧
I32 ((6 * x6) + r2) ∧
(0 : Int) ≤ ((6 * x6) + r2) ∧ (((6 * x6) + r2) : Int) < 5700 ∧
∀ _ : I32 (σ2 240 ((6 * x6) + r2)),
∀ y6 : Int, y6 = σ2 240 ((6 * x6) + r2) →
I32 (x8 + 1) ∧
∀ y7 : Int, y7 = x8 + 1 →
f_X12_cheapest_u130 Q K165 N σ2 x3 r2 y6 y7))
def f_X12_cheapest_u165 (Q : Int → ml_St → Prop) (σ : ml_St) (x5 : Int) : Prop :=
(0 : Int) ≤ x5 ∧ (x5 : Int) < 6 ∧
∀ _ : I32 (σ 237 x5),
Q (σ 237 x5) σ
def f_X12_cheapest_u0 (Q : Int → ml_St → Prop) (σ : ml_St) (x1 : Int) (x2 : Int) (x3 : Int) : Prop :=
f_X12_isLetters σ x1 (fun r1 σ1 => ∀ _ : ml_B r1,
(r1 = 0 →
f_X12_cheapest_u22 Q σ1) ∧
(r1 ≠ 0 →
f_X12_isMade σ1 x2 (fun r3 σ3 => ∀ _ : ml_B r3,
(r3 = 0 →
f_X12_cheapest_u22 Q σ3) ∧
(r3 ≠ 0 →
((-2) ≤ x3 →
f_X12_joinsAll σ3 (fun σ6 =>
f_X12_targetOf σ6 x2 (fun r7 σ7 => ∀ _ : I32 r7,
(r7 ≠ (-1) →
f_X12_prices σ7 r7 (fun σ9 =>
f_X12_best σ9 (-1) (fun r10 σ10 => ∀ _ : I32 r10,
(r10 ≠ (-1) →
(0 : Int) ≤ r10 ∧ (r10 : Int) < 6 ∧
∀ _ : I32 (σ10 242 r10),
∀ y13 : Int, y13 = σ10 242 r10 →
(0 : Int) ≤ y13 ∧ (y13 : Int) < 950 ∧
∀ _ : I32 (σ10 251 y13),
I32 ((σ10 251 y13) + 1) ∧
∀ y16 : Int, y16 = (σ10 251 y13) + 1 →
(x3 ≠ (-2) →
(x3 ≠ (-1) →
(x3 < y16 →
∃ N1, f_X12_cheapest_u130 Q (f_X12_cheapest_u165 Q) N1 σ10 x3 r10 y13 0) ∧
(¬ (x3 < y16) →
Q (-1) σ10)) ∧
(x3 = (-1) →
Q y16 σ10)) ∧
(x3 = (-2) →
(0 : Int) ≤ y13 ∧ (y13 : Int) < 950 ∧
∀ _ : I32 (σ10 250 y13),
(0 : Int) ≤ r10 ∧ (r10 : Int) < 6 ∧
∀ _ : I32 (σ10 237 r10),
(0 : Int) ≤ (σ10 237 r10) ∧ ((σ10 237 r10) : Int) < 16 ∧
∀ _ : I32 (σ10 220 (σ10 237 r10)),
I32 ((σ10 250 y13) + (σ10 220 (σ10 237 r10))) ∧
Q ((σ10 250 y13) + (σ10 220 (σ10 237 r10))) σ10)) ∧
(r10 = (-1) →
Q (-1) σ10)))) ∧
(r7 = (-1) →
Q (-1) σ7)))) ∧
(¬ ((-2) ≤ x3) →
f_X12_cheapest_u22 Q σ3)))))
def f_X12_cheapest (σ : ml_St) (x1 : Int) (x2 : Int) (x3 : Int) (Q : Int → ml_St → Prop) : Prop := f_X12_cheapest_u0 Q σ x1 x2 x3
def rm_X12_cheapest : Room := { frames := 4, cells := 0, slots := 0, locals := 92 }
set_option maxRecDepth 100000 in
set_option maxHeartbeats 4000000 in
theorem u_X12_cheapest_22 {p : Program} {e : Env} {s : State} {m : MethodId} {args : Array Value} {below : List Frame} {meth : Method} {c : Code} {base : Nat} {D : va_G} {cA : Nat → ClassId} {n : Nat} {l : Launch} {Q : Int → ml_St → Prop} (X : ml_X p s m c meth args D cA cX12_cheapest 9 RX12 (some .int)) (hn : 256 ≤ n) (σ : ml_St) (ls : Array Slot) (hl : lv_has ls 9 []) (hw : f_X12_cheapest_u22 Q σ) : ml_V p l e rm_X12_cheapest s m args below meth c (MQ below (ml_Qi I32 base D cA n Q) args s 0 0 (ml_A base)) base D cA 0 0 n n σ (F0 m 22 ls []) := by
  unfold f_X12_cheapest_u22 at hw
  refine ml_iconst (pc := 22) X dX12_cheapest_22 ?_
  exact ml_iret (pc := 23) X ⟨by decide, by decide⟩ hw dX12_cheapest_23
set_option maxRecDepth 100000 in
set_option maxHeartbeats 4000000 in
theorem u_X12_cheapest_130 {p : Program} {e : Env} {s : State} {m : MethodId} {args : Array Value} {below : List Frame} {meth : Method} {c : Code} {base : Nat} {D : va_G} {cA : Nat → ClassId} {n : Nat} {l : Launch} {Q : Int → ml_St → Prop} {K165 : ml_St → Int → Prop} (X : ml_X p s m c meth args D cA cX12_cheapest 9 RX12 (some .int)) (hn : 256 ≤ n) (hK165 : ∀ (σ : ml_St) (x5 : Int) (h_x5 : I32 x5) (ls : Array Slot), lv_has ls 9 [(0, .ref (base + (215 : Int).toNat)), (5, .int (Int32.ofInt x5))] → K165 σ x5 → ml_V p l e rm_X12_cheapest s m args below meth c (MQ below (ml_Qi I32 base D cA n Q) args s 0 0 (ml_A base)) base D cA 0 0 n n σ (F0 m 165 ls [])) : ∀ (N : Nat) (σ : ml_St) (x3 : Int) (x5 : Int) (x6 : Int) (x8 : Int) (h_x3 : I32 x3) (h_x5 : I32 x5) (h_x6 : I32 x6) (h_x8 : I32 x8) (ls : Array Slot), lv_has ls 9 [(0, .ref (base + (215 : Int).toNat)), (3, .int (Int32.ofInt x3)), (5, .int (Int32.ofInt x5)), (6, .int (Int32.ofInt x6)), (8, .int (Int32.ofInt x8))] → f_X12_cheapest_u130 Q K165 N σ x3 x5 x6 x8 → ml_V p l e rm_X12_cheapest s m args below meth c (MQ below (ml_Qi I32 base D cA n Q) args s 0 0 (ml_A base)) base D cA 0 0 n n σ (F0 m 130 ls []) := by
  intro N
  induction N with
  | zero => intro σ x3 x5 x6 x8 h_x3 h_x5 h_x6 h_x8 ls hl hw; exact False.elim hw
  | succ N ih =>
    intro σ x3 x5 x6 x8 h_x3 h_x5 h_x6 h_x8 ls hl hw
    unfold f_X12_cheapest_u130 at hw
    refine ml_iload (pc := 130) X hl 4 rfl dX12_cheapest_130 ?_
    refine ml_iload_n (pc := 132) X hl 1 rfl rfl dX12_cheapest_132 ?_
    refine ml_icmp_ge (pc := 133) (tgt := 165) X h_x8 h_x3 dX12_cheapest_133 (by decide) (fun c1 => ?_) (fun c1 => ?_)
    · have hw := hw.1 c1
      exact hK165 σ x5 h_x5 _ (lv_sub hl [0, 2] rfl) hw
    · have hw := hw.2 c1
      refine ml_aload_n (pc := 136) X hl 0 rfl rfl dX12_cheapest_136 ?_
      refine ml_iload (pc := 137) X hl 3 rfl dX12_cheapest_137 ?_
      refine ml_calliV (pc := 139) (rest := []) X [.int (Int32.ofInt x6)] (by decide) rfl (ml_c215 hn) (c_X12_best l base D cA n hn σ x6 h_x6 _ hw) cv_X12_404 ⟨rfl, rfl⟩ ⟨by decide, by decide⟩ rfl rfl hl (Nat.le_of_ble_eq_true rfl) ⟨Nat.zero_le _, Nat.zero_le _⟩ dX12_cheapest_139 (fun r2 σ2 t2 hw => ?_)
      have hw := hw t2
      refine ml_istore (pc := 142) X hl (by decide) (lst' := [(5, .int (Int32.ofInt r2)), (0, .ref (base + (215 : Int).toNat)), (3, .int (Int32.ofInt x3)), (6, .int (Int32.ofInt x6)), (8, .int (Int32.ofInt x8))]) rfl dX12_cheapest_142 (fun ls hl => ?_)
      refine ml_aload_n (pc := 144) X hl 1 rfl rfl dX12_cheapest_144 ?_
      refine gf_X12_89 (pc := 145) X (ml_c215 hn) dX12_cheapest_145 ?_
      refine ml_bipush (pc := 148) X dX12_cheapest_148 (by decide) ?_
      refine ml_iload (pc := 150) X hl 3 rfl dX12_cheapest_150 ?_
      obtain ⟨v3, hw⟩ := hw
      refine ml_imul (pc := 152) X dX12_cheapest_152 ?_
      refine ml_iload (pc := 153) X hl 0 rfl dX12_cheapest_153 ?_
      obtain ⟨v4, hw⟩ := hw
      refine ml_iadd (pc := 155) X dX12_cheapest_155 ?_
      obtain ⟨a5, b5, hw⟩ := hw
      refine ml_iald (pc := 156) (N := 5700) X (ml_c240 hn) a5 b5 dX12_cheapest_156 (fun r5 => ?_)
      have hw := hw r5
      refine ml_topI (pc := 157) (fun y6 e6 => ?_)
      have hw := hw y6 e6
      have q6 : I32 y6 := by rw [e6]; exact r5
      refine ml_istore (pc := 157) X hl (by decide) (lst' := [(6, .int (Int32.ofInt y6)), (5, .int (Int32.ofInt r2)), (0, .ref (base + (215 : Int).toNat)), (3, .int (Int32.ofInt x3)), (8, .int (Int32.ofInt x8))]) rfl dX12_cheapest_157 (fun ls hl => ?_)
      obtain ⟨v7, hw⟩ := hw
      obtain ⟨y7, e7⟩ : ∃ y : Int, y = x8 + 1 := ⟨_, rfl⟩
      have hw := hw y7 e7
      rw [← e7] at v7
      refine ml_iinc (pc := 159) X e7 hl 4 rfl (by decide) (lst' := [(8, .int (Int32.ofInt y7)), (6, .int (Int32.ofInt y6)), (5, .int (Int32.ofInt r2)), (0, .ref (base + (215 : Int).toNat)), (3, .int (Int32.ofInt x3))]) rfl dX12_cheapest_159 (fun ls hl => ?_)
      refine ml_goto (pc := 162) (tgt := 130) X dX12_cheapest_162 (by decide) ?_
      exact ih σ2 x3 r2 y6 y7 h_x3 t2 q6 v7 _ (lv_sub hl [3, 4, 2, 1, 0] rfl) hw
set_option maxRecDepth 100000 in
set_option maxHeartbeats 4000000 in
theorem u_X12_cheapest_165 {p : Program} {e : Env} {s : State} {m : MethodId} {args : Array Value} {below : List Frame} {meth : Method} {c : Code} {base : Nat} {D : va_G} {cA : Nat → ClassId} {n : Nat} {l : Launch} {Q : Int → ml_St → Prop} (X : ml_X p s m c meth args D cA cX12_cheapest 9 RX12 (some .int)) (hn : 256 ≤ n) (σ : ml_St) (x5 : Int) (h_x5 : I32 x5) (ls : Array Slot) (hl : lv_has ls 9 [(0, .ref (base + (215 : Int).toNat)), (5, .int (Int32.ofInt x5))]) (hw : f_X12_cheapest_u165 Q σ x5) : ml_V p l e rm_X12_cheapest s m args below meth c (MQ below (ml_Qi I32 base D cA n Q) args s 0 0 (ml_A base)) base D cA 0 0 n n σ (F0 m 165 ls []) := by
  unfold f_X12_cheapest_u165 at hw
  refine ml_aload_n (pc := 165) X hl 0 rfl rfl dX12_cheapest_165 ?_
  refine gf_X12_80 (pc := 166) X (ml_c215 hn) dX12_cheapest_166 ?_
  refine ml_iload (pc := 169) X hl 1 rfl dX12_cheapest_169 ?_
  obtain ⟨a1, b1, hw⟩ := hw
  refine ml_iald (pc := 171) (N := 6) X (ml_c237 hn) a1 b1 dX12_cheapest_171 (fun r1 => ?_)
  have hw := hw r1
  exact ml_iret (pc := 172) X r1 hw dX12_cheapest_172
set_option maxRecDepth 100000 in
set_option maxHeartbeats 4000000 in
theorem u_X12_cheapest_0 {p : Program} {e : Env} {s : State} {m : MethodId} {args : Array Value} {below : List Frame} {meth : Method} {c : Code} {base : Nat} {D : va_G} {cA : Nat → ClassId} {n : Nat} {l : Launch} {Q : Int → ml_St → Prop} (X : ml_X p s m c meth args D cA cX12_cheapest 9 RX12 (some .int)) (hn : 256 ≤ n) (σ : ml_St) (x1 : Int) (x2 : Int) (x3 : Int) (h_x1 : I32 x1) (h_x2 : I32 x2) (h_x3 : I32 x3) (ls : Array Slot) (hl : lv_has ls 9 [(0, .ref (base + (215 : Int).toNat)), (1, .int (Int32.ofInt x1)), (2, .int (Int32.ofInt x2)), (3, .int (Int32.ofInt x3))]) (hw : f_X12_cheapest_u0 Q σ x1 x2 x3) : ml_V p l e rm_X12_cheapest s m args below meth c (MQ below (ml_Qi I32 base D cA n Q) args s 0 0 (ml_A base)) base D cA 0 0 n n σ (F0 m 0 ls []) := by
  unfold f_X12_cheapest_u0 at hw
  refine ml_aload_n (pc := 0) X hl 0 rfl rfl dX12_cheapest_0 ?_
  refine ml_iload_n (pc := 1) X hl 1 rfl rfl dX12_cheapest_1 ?_
  refine ml_callzV (pc := 2) (rest := []) X [.int (Int32.ofInt x1)] (by decide) rfl (ml_c215 hn) (c_X12_isLetters l base D cA n hn σ x1 h_x1 _ hw) cv_X12_379 ⟨rfl, rfl⟩ ⟨by decide, by decide⟩ rfl rfl hl (Nat.le_of_ble_eq_true rfl) ⟨Nat.zero_le _, Nat.zero_le _⟩ dX12_cheapest_2 (fun r1 σ1 t1 hw => ?_)
  have hw := hw t1
  refine ml_if_eq (pc := 5) (tgt := 22) X t1.i dX12_cheapest_5 (by decide) (fun c2 => ?_) (fun c2 => ?_)
  · have hw := hw.1 c2
    exact u_X12_cheapest_22 X hn σ1   _ (lv_sub hl [] rfl) hw
  · have hw := hw.2 c2
    refine ml_aload_n (pc := 8) X hl 0 rfl rfl dX12_cheapest_8 ?_
    refine ml_iload_n (pc := 9) X hl 2 rfl rfl dX12_cheapest_9 ?_
    refine ml_callzV (pc := 10) (rest := []) X [.int (Int32.ofInt x2)] (by decide) rfl (ml_c215 hn) (c_X12_isMade l base D cA n hn σ1 x2 h_x2 _ hw) cv_X12_292 ⟨rfl, rfl⟩ ⟨by decide, by decide⟩ rfl rfl hl (Nat.le_of_ble_eq_true rfl) ⟨Nat.zero_le _, Nat.zero_le _⟩ dX12_cheapest_10 (fun r3 σ3 t3 hw => ?_)
    have hw := hw t3
    refine ml_if_eq (pc := 13) (tgt := 22) X t3.i dX12_cheapest_13 (by decide) (fun c4 => ?_) (fun c4 => ?_)
    · have hw := hw.1 c4
      exact u_X12_cheapest_22 X hn σ3   _ (lv_sub hl [] rfl) hw
    · have hw := hw.2 c4
      refine ml_iload_n (pc := 16) X hl 3 rfl rfl dX12_cheapest_16 ?_
      refine ml_bipush (pc := 17) X dX12_cheapest_17 (by decide) ?_
      refine ml_icmp_ge (pc := 19) (tgt := 24) X h_x3 ⟨by decide, by decide⟩ dX12_cheapest_19 (by decide) (fun c5 => ?_) (fun c5 => ?_)
      · have hw := hw.1 c5
        refine ml_aload_n (pc := 24) X hl 0 rfl rfl dX12_cheapest_24 ?_
        refine ml_callvV (pc := 25) (rest := []) X [] (by decide) rfl (ml_c215 hn) (c_X12_joinsAll l base D cA n hn σ3 _ hw) cv_X12_384 ⟨rfl, rfl⟩ ⟨by decide, by decide⟩ rfl rfl hl (Nat.le_of_ble_eq_true rfl) ⟨Nat.zero_le _, Nat.zero_le _⟩ dX12_cheapest_25 (fun σ6 hw => ?_)
        refine ml_aload_n (pc := 28) X hl 0 rfl rfl dX12_cheapest_28 ?_
        refine ml_iload_n (pc := 29) X hl 2 rfl rfl dX12_cheapest_29 ?_
        refine ml_calliV (pc := 30) (rest := []) X [.int (Int32.ofInt x2)] (by decide) rfl (ml_c215 hn) (c_X12_targetOf l base D cA n hn σ6 x2 h_x2 _ hw) cv_X12_398 ⟨rfl, rfl⟩ ⟨by decide, by decide⟩ rfl rfl hl (Nat.le_of_ble_eq_true rfl) ⟨Nat.zero_le _, Nat.zero_le _⟩ dX12_cheapest_30 (fun r7 σ7 t7 hw => ?_)
        have hw := hw t7
        refine ml_istore (pc := 33) X hl (by decide) (lst' := [(4, .int (Int32.ofInt r7)), (0, .ref (base + (215 : Int).toNat)), (1, .int (Int32.ofInt x1)), (2, .int (Int32.ofInt x2)), (3, .int (Int32.ofInt x3))]) rfl dX12_cheapest_33 (fun ls hl => ?_)
        refine ml_iload (pc := 35) X hl 0 rfl dX12_cheapest_35 ?_
        refine ml_iconst (pc := 37) X dX12_cheapest_37 ?_
        refine ml_icmp_ne (pc := 38) (tgt := 43) X t7 ⟨by decide, by decide⟩ dX12_cheapest_38 (by decide) (fun c8 => ?_) (fun c8 => ?_)
        · have hw := hw.1 c8
          refine ml_aload_n (pc := 43) X hl 1 rfl rfl dX12_cheapest_43 ?_
          refine ml_iload (pc := 44) X hl 0 rfl dX12_cheapest_44 ?_
          refine ml_callvV (pc := 46) (rest := []) X [.int (Int32.ofInt r7)] (by decide) rfl (ml_c215 hn) (c_X12_prices l base D cA n hn σ7 r7 t7 _ hw) cv_X12_401 ⟨rfl, rfl⟩ ⟨by decide, by decide⟩ rfl rfl hl (Nat.le_of_ble_eq_true rfl) ⟨Nat.zero_le _, Nat.zero_le _⟩ dX12_cheapest_46 (fun σ9 hw => ?_)
          refine ml_aload_n (pc := 49) X hl 1 rfl rfl dX12_cheapest_49 ?_
          refine ml_iconst (pc := 50) X dX12_cheapest_50 ?_
          refine ml_calliV (pc := 51) (rest := []) X [.int (Int32.ofInt (-1))] (by decide) rfl (ml_c215 hn) (c_X12_best l base D cA n hn σ9 (-1) ⟨by decide, by decide⟩ _ hw) cv_X12_404 ⟨rfl, rfl⟩ ⟨by decide, by decide⟩ rfl rfl hl (Nat.le_of_ble_eq_true rfl) ⟨Nat.zero_le _, Nat.zero_le _⟩ dX12_cheapest_51 (fun r10 σ10 t10 hw => ?_)
          have hw := hw t10
          refine ml_istore (pc := 54) X hl (by decide) (lst' := [(5, .int (Int32.ofInt r10)), (4, .int (Int32.ofInt r7)), (0, .ref (base + (215 : Int).toNat)), (1, .int (Int32.ofInt x1)), (2, .int (Int32.ofInt x2)), (3, .int (Int32.ofInt x3))]) rfl dX12_cheapest_54 (fun ls hl => ?_)
          refine ml_iload (pc := 56) X hl 0 rfl dX12_cheapest_56 ?_
          refine ml_iconst (pc := 58) X dX12_cheapest_58 ?_
          refine ml_icmp_ne (pc := 59) (tgt := 64) X t10 ⟨by decide, by decide⟩ dX12_cheapest_59 (by decide) (fun c11 => ?_) (fun c11 => ?_)
          · have hw := hw.1 c11
            refine ml_aload_n (pc := 64) X hl 2 rfl rfl dX12_cheapest_64 ?_
            refine gf_X12_95 (pc := 65) X (ml_c215 hn) dX12_cheapest_65 ?_
            refine ml_iload (pc := 68) X hl 0 rfl dX12_cheapest_68 ?_
            obtain ⟨a12, b12, hw⟩ := hw
            refine ml_iald (pc := 70) (N := 6) X (ml_c242 hn) a12 b12 dX12_cheapest_70 (fun r12 => ?_)
            have hw := hw r12
            refine ml_topI (pc := 71) (fun y13 e13 => ?_)
            have hw := hw y13 e13
            have q13 : I32 y13 := by rw [e13]; exact r12
            refine ml_istore (pc := 71) X hl (by decide) (lst' := [(6, .int (Int32.ofInt y13)), (5, .int (Int32.ofInt r10)), (4, .int (Int32.ofInt r7)), (0, .ref (base + (215 : Int).toNat)), (1, .int (Int32.ofInt x1)), (2, .int (Int32.ofInt x2)), (3, .int (Int32.ofInt x3))]) rfl dX12_cheapest_71 (fun ls hl => ?_)
            refine ml_aload_n (pc := 73) X hl 3 rfl rfl dX12_cheapest_73 ?_
            refine gf_X12_122 (pc := 74) X (ml_c215 hn) dX12_cheapest_74 ?_
            refine ml_iload (pc := 77) X hl 0 rfl dX12_cheapest_77 ?_
            obtain ⟨a14, b14, hw⟩ := hw
            refine ml_iald (pc := 79) (N := 950) X (ml_c251 hn) a14 b14 dX12_cheapest_79 (fun r14 => ?_)
            have hw := hw r14
            refine ml_iconst (pc := 80) X dX12_cheapest_80 ?_
            obtain ⟨v15, hw⟩ := hw
            refine ml_iadd (pc := 81) X dX12_cheapest_81 ?_
            refine ml_topI (pc := 82) (fun y16 e16 => ?_)
            have hw := hw y16 e16
            have q16 : I32 y16 := by rw [e16]; exact v15
            refine ml_istore (pc := 82) X hl (by decide) (lst' := [(7, .int (Int32.ofInt y16)), (6, .int (Int32.ofInt y13)), (5, .int (Int32.ofInt r10)), (4, .int (Int32.ofInt r7)), (0, .ref (base + (215 : Int).toNat)), (1, .int (Int32.ofInt x1)), (2, .int (Int32.ofInt x2)), (3, .int (Int32.ofInt x3))]) rfl dX12_cheapest_82 (fun ls hl => ?_)
            refine ml_iload_n (pc := 84) X hl 7 rfl rfl dX12_cheapest_84 ?_
            refine ml_bipush (pc := 85) X dX12_cheapest_85 (by decide) ?_
            refine ml_icmp_ne (pc := 87) (tgt := 111) X h_x3 ⟨by decide, by decide⟩ dX12_cheapest_87 (by decide) (fun c17 => ?_) (fun c17 => ?_)
            · have hw := hw.1 c17
              refine ml_iload_n (pc := 111) X hl 7 rfl rfl dX12_cheapest_111 ?_
              refine ml_iconst (pc := 112) X dX12_cheapest_112 ?_
              refine ml_icmp_ne (pc := 113) (tgt := 119) X h_x3 ⟨by decide, by decide⟩ dX12_cheapest_113 (by decide) (fun c18 => ?_) (fun c18 => ?_)
              · have hw := hw.1 c18
                refine ml_iload_n (pc := 119) X hl 7 rfl rfl dX12_cheapest_119 ?_
                refine ml_iload (pc := 120) X hl 0 rfl dX12_cheapest_120 ?_
                refine ml_icmp_lt (pc := 122) (tgt := 127) X h_x3 q16 dX12_cheapest_122 (by decide) (fun c19 => ?_) (fun c19 => ?_)
                · have hw := hw.1 c19
                  refine ml_iconst (pc := 127) X dX12_cheapest_127 ?_
                  refine ml_istore (pc := 128) X hl (by decide) (lst' := [(8, .int (Int32.ofInt 0)), (7, .int (Int32.ofInt y16)), (6, .int (Int32.ofInt y13)), (5, .int (Int32.ofInt r10)), (4, .int (Int32.ofInt r7)), (0, .ref (base + (215 : Int).toNat)), (1, .int (Int32.ofInt x1)), (2, .int (Int32.ofInt x2)), (3, .int (Int32.ofInt x3))]) rfl dX12_cheapest_128 (fun ls hl => ?_)
                  obtain ⟨N0, hw⟩ := hw
                  exact u_X12_cheapest_130 X hn (fun σ x5 h_x5 ls hl hw => u_X12_cheapest_165 X hn σ x5 h_x5 ls hl hw) N0 σ10 x3 r10 y13 0 h_x3 t10 q13 ⟨by decide, by decide⟩ _ (lv_sub hl [5, 8, 3, 2, 0] rfl) hw
                · have hw := hw.2 c19
                  refine ml_iconst (pc := 125) X dX12_cheapest_125 ?_
                  exact ml_iret (pc := 126) X ⟨by decide, by decide⟩ hw dX12_cheapest_126
              · have hw := hw.2 c18
                refine ml_iload (pc := 116) X hl 0 rfl dX12_cheapest_116 ?_
                exact ml_iret (pc := 118) X q16 hw dX12_cheapest_118
            · have hw := hw.2 c17
              refine ml_aload_n (pc := 90) X hl 4 rfl rfl dX12_cheapest_90 ?_
              refine gf_X12_119 (pc := 91) X (ml_c215 hn) dX12_cheapest_91 ?_
              refine ml_iload (pc := 94) X hl 1 rfl dX12_cheapest_94 ?_
              obtain ⟨a20, b20, hw⟩ := hw
              refine ml_iald (pc := 96) (N := 950) X (ml_c250 hn) a20 b20 dX12_cheapest_96 (fun r20 => ?_)
              have hw := hw r20
              refine ml_aload_n (pc := 97) X hl 4 rfl rfl dX12_cheapest_97 ?_
              refine gf_X12_27 (pc := 98) X (ml_c215 hn) dX12_cheapest_98 ?_
              refine ml_aload_n (pc := 101) X hl 4 rfl rfl dX12_cheapest_101 ?_
              refine gf_X12_80 (pc := 102) X (ml_c215 hn) dX12_cheapest_102 ?_
              refine ml_iload (pc := 105) X hl 2 rfl dX12_cheapest_105 ?_
              obtain ⟨a21, b21, hw⟩ := hw
              refine ml_iald (pc := 107) (N := 6) X (ml_c237 hn) a21 b21 dX12_cheapest_107 (fun r21 => ?_)
              have hw := hw r21
              obtain ⟨a22, b22, hw⟩ := hw
              refine ml_iald (pc := 108) (N := 16) X (ml_c220 hn) a22 b22 dX12_cheapest_108 (fun r22 => ?_)
              have hw := hw r22
              obtain ⟨v23, hw⟩ := hw
              refine ml_iadd (pc := 109) X dX12_cheapest_109 ?_
              exact ml_iret (pc := 110) X v23 hw dX12_cheapest_110
          · have hw := hw.2 c11
            refine ml_iconst (pc := 62) X dX12_cheapest_62 ?_
            exact ml_iret (pc := 63) X ⟨by decide, by decide⟩ hw dX12_cheapest_63
        · have hw := hw.2 c8
          refine ml_iconst (pc := 41) X dX12_cheapest_41 ?_
          exact ml_iret (pc := 42) X ⟨by decide, by decide⟩ hw dX12_cheapest_42
      · have hw := hw.2 c5
        exact u_X12_cheapest_22 X hn σ3   _ (lv_sub hl [] rfl) hw
set_option maxRecDepth 100000 in
theorem c_X12_cheapest (l : Launch) (base : Nat) (D : va_G) (cA : Nat → ClassId) (n : Nat) (hn : 256 ≤ n) (σ : ml_St) (x1 : Int) (x2 : Int) (x3 : Int) (h_x1 : I32 x1) (h_x2 : I32 x2) (h_x3 : I32 x3) (Q : Int → ml_St → Prop) (hw : f_X12_cheapest σ x1 x2 x3 Q) : Met l yX12_cheapest (Cond.code yX12_cheapest cX12_cheapest 9 (some .int) :: ml_T) rm_X12_cheapest (va_Pc [.ref (base + (215 : Int).toNat), .int (Int32.ofInt x1), .int (Int32.ofInt x2), .int (Int32.ofInt x3)] (ml_U base D cA n σ)) (ml_Qi I32 base D cA n Q) 0 0 (ml_A base) := by
  refine Met.ofW (cc := cX12_cheapest) (maxL := 9) (ret := (some .int)) (by decide) rfl ?_
  intro p e s m args below meth c s₁ B hml hv
  obtain ⟨rfl, hP, hK, hok, hro⟩ := hv
  have X : ml_X p s m c meth _ D cA cX12_cheapest 9 RX12 (some .int) := ⟨B.exec, B.bytes, hml, findClass_of_methodNamed B.named, fun w hw => atoms_spec (ws := Cond.code yX12_cheapest cX12_cheapest 9 (some .int) :: ml_T) B.pre w (List.mem_cons_of_mem _ hw), hK, B.notSynchronized, B.returns⟩
  have hl := lv_entry [.ref (base + (215 : Int).toNat), .int (Int32.ofInt x1), .int (Int32.ofInt x2), .int (Int32.ofInt x3)] (n := 9) (Nat.le_of_ble_eq_true rfl)
  rw [lg_entry_eq]
  generalize (lg_sl [.ref (base + (215 : Int).toNat), .int (Int32.ofInt x1), .int (Int32.ofInt x2), .int (Int32.ofInt x3)] ++ List.replicate (9 - (lg_sl [.ref (base + (215 : Int).toNat), .int (Int32.ofInt x1), .int (Int32.ofInt x2), .int (Int32.ofInt x3)]).length) Slot.unset).toArray = ls at hl ⊢
  have hl : lv_has ls 9 [(0, .ref (base + (215 : Int).toNat)), (1, .int (Int32.ofInt x1)), (2, .int (Int32.ofInt x2)), (3, .int (Int32.ofInt x3))] := hl
  unfold f_X12_cheapest at hw
  exact u_X12_cheapest_0 X hn σ x1 x2 x3 h_x1 h_x2 h_x3 _ (lv_sub hl [0, 1, 2, 3] rfl) hw s.heap [] hP va_S.rf hok hro
theorem dX12_isOne_0 : decode cX12_isOne 0 = .ok (.aload_n 0, 1) := by decide +kernel
theorem dX12_isOne_1 : decode cX12_isOne 1 = .ok (.bipush 20, 2) := by decide +kernel
theorem dX12_isOne_3 : decode cX12_isOne 3 = .ok (.invokevirtual 227, 3) := by decide +kernel
theorem dX12_isOne_6 : decode cX12_isOne 6 = .ok (.iconst 0, 1) := by decide +kernel
theorem dX12_isOne_7 : decode cX12_isOne 7 = .ok (.istore_n 3, 1) := by decide +kernel
theorem dX12_isOne_8 : decode cX12_isOne 8 = .ok (.iload_n 3, 1) := by decide +kernel
theorem dX12_isOne_9 : decode cX12_isOne 9 = .ok (.iload_n 1, 1) := by decide +kernel
theorem dX12_isOne_10 : decode cX12_isOne 10 = .ok (.if_icmp .ge 67, 3) := by decide +kernel
theorem dX12_isOne_13 : decode cX12_isOne 13 = .ok (.aload_n 0, 1) := by decide +kernel
theorem dX12_isOne_14 : decode cX12_isOne 14 = .ok (.bipush 21, 2) := by decide +kernel
theorem dX12_isOne_16 : decode cX12_isOne 16 = .ok (.aload_n 0, 1) := by decide +kernel
theorem dX12_isOne_17 : decode cX12_isOne 17 = .ok (.getfield 125, 3) := by decide +kernel
theorem dX12_isOne_20 : decode cX12_isOne 20 = .ok (.iload_n 3, 1) := by decide +kernel
theorem dX12_isOne_21 : decode cX12_isOne 21 = .ok (.iaload, 1) := by decide +kernel
theorem dX12_isOne_22 : decode cX12_isOne 22 = .ok (.iconst 1, 1) := by decide +kernel
theorem dX12_isOne_23 : decode cX12_isOne 23 = .ok (.if_icmp .ne 7, 3) := by decide +kernel
theorem dX12_isOne_26 : decode cX12_isOne 26 = .ok (.iconst 1, 1) := by decide +kernel
theorem dX12_isOne_27 : decode cX12_isOne 27 = .ok (.goto 4, 3) := by decide +kernel
theorem dX12_isOne_30 : decode cX12_isOne 30 = .ok (.iconst 0, 1) := by decide +kernel
theorem dX12_isOne_31 : decode cX12_isOne 31 = .ok (.iload_n 2, 1) := by decide +kernel
theorem dX12_isOne_32 : decode cX12_isOne 32 = .ok (.iload_n 3, 1) := by decide +kernel
theorem dX12_isOne_33 : decode cX12_isOne 33 = .ok (.invokestatic 361, 3) := by decide +kernel
theorem dX12_isOne_36 : decode cX12_isOne 36 = .ok (.if_icmp .eq 7, 3) := by decide +kernel
theorem dX12_isOne_39 : decode cX12_isOne 39 = .ok (.iconst 1, 1) := by decide +kernel
theorem dX12_isOne_40 : decode cX12_isOne 40 = .ok (.goto 4, 3) := by decide +kernel
theorem dX12_isOne_43 : decode cX12_isOne 43 = .ok (.iconst 0, 1) := by decide +kernel
theorem dX12_isOne_44 : decode cX12_isOne 44 = .ok (.aload_n 0, 1) := by decide +kernel
theorem dX12_isOne_45 : decode cX12_isOne 45 = .ok (.getfield 128, 3) := by decide +kernel
theorem dX12_isOne_48 : decode cX12_isOne 48 = .ok (.iload_n 3, 1) := by decide +kernel
theorem dX12_isOne_49 : decode cX12_isOne 49 = .ok (.iaload, 1) := by decide +kernel
theorem dX12_isOne_50 : decode cX12_isOne 50 = .ok (.invokevirtual 255, 3) := by decide +kernel
theorem dX12_isOne_53 : decode cX12_isOne 53 = .ok (.aload_n 0, 1) := by decide +kernel
theorem dX12_isOne_54 : decode cX12_isOne 54 = .ok (.bipush 20, 2) := by decide +kernel
theorem dX12_isOne_56 : decode cX12_isOne 56 = .ok (.bipush 21, 2) := by decide +kernel
theorem dX12_isOne_58 : decode cX12_isOne 58 = .ok (.bipush 22, 2) := by decide +kernel
theorem dX12_isOne_60 : decode cX12_isOne 60 = .ok (.invokevirtual 245, 3) := by decide +kernel
theorem dX12_isOne_63 : decode cX12_isOne 63 = .ok (.aload_n 0, 1) := by decide +kernel
theorem dX12_isOne_64 : decode cX12_isOne 64 = .ok (.bipush 22, 2) := by decide +kernel
theorem dX12_isOne_66 : decode cX12_isOne 66 = .ok (.bipush 20, 2) := by decide +kernel
theorem dX12_isOne_68 : decode cX12_isOne 68 = .ok (.invokevirtual 242, 3) := by decide +kernel
theorem dX12_isOne_71 : decode cX12_isOne 71 = .ok (.iinc 3 1, 3) := by decide +kernel
theorem dX12_isOne_74 : decode cX12_isOne 74 = .ok (.goto (-66), 3) := by decide +kernel
theorem dX12_isOne_77 : decode cX12_isOne 77 = .ok (.aload_n 0, 1) := by decide +kernel
theorem dX12_isOne_78 : decode cX12_isOne 78 = .ok (.getfield 55, 3) := by decide +kernel
theorem dX12_isOne_81 : decode cX12_isOne 81 = .ok (.bipush 20, 2) := by decide +kernel
theorem dX12_isOne_83 : decode cX12_isOne 83 = .ok (.laload, 1) := by decide +kernel
theorem dX12_isOne_84 : decode cX12_isOne 84 = .ok (.aload_n 0, 1) := by decide +kernel
theorem dX12_isOne_85 : decode cX12_isOne 85 = .ok (.bipush 20, 2) := by decide +kernel
theorem dX12_isOne_87 : decode cX12_isOne 87 = .ok (.invokevirtual 302, 3) := by decide +kernel
theorem dX12_isOne_90 : decode cX12_isOne 90 = .ok (.i2l, 1) := by decide +kernel
theorem dX12_isOne_91 : decode cX12_isOne 91 = .ok (.ladd, 1) := by decide +kernel
theorem dX12_isOne_92 : decode cX12_isOne 92 = .ok (.lconst 1, 1) := by decide +kernel
theorem dX12_isOne_93 : decode cX12_isOne 93 = .ok (.lcmp, 1) := by decide +kernel
theorem dX12_isOne_94 : decode cX12_isOne 94 = .ok (.ifCond .eq 5, 3) := by decide +kernel
theorem dX12_isOne_97 : decode cX12_isOne 97 = .ok (.iconst 0, 1) := by decide +kernel
theorem dX12_isOne_98 : decode cX12_isOne 98 = .ok (.ireturn, 1) := by decide +kernel
theorem dX12_isOne_99 : decode cX12_isOne 99 = .ok (.aload_n 0, 1) := by decide +kernel
theorem dX12_isOne_100 : decode cX12_isOne 100 = .ok (.bipush 20, 2) := by decide +kernel
theorem dX12_isOne_102 : decode cX12_isOne 102 = .ok (.invokevirtual 322, 3) := by decide +kernel
theorem dX12_isOne_105 : decode cX12_isOne 105 = .ok (.iconst 1, 1) := by decide +kernel
theorem dX12_isOne_106 : decode cX12_isOne 106 = .ok (.istore_n 3, 1) := by decide +kernel
theorem dX12_isOne_107 : decode cX12_isOne 107 = .ok (.iload_n 3, 1) := by decide +kernel
theorem dX12_isOne_108 : decode cX12_isOne 108 = .ok (.aload_n 0, 1) := by decide +kernel
theorem dX12_isOne_109 : decode cX12_isOne 109 = .ok (.getfield 316, 3) := by decide +kernel
theorem dX12_isOne_112 : decode cX12_isOne 112 = .ok (.if_icmp .gt 22, 3) := by decide +kernel
theorem dX12_isOne_115 : decode cX12_isOne 115 = .ok (.aload_n 0, 1) := by decide +kernel
theorem dX12_isOne_116 : decode cX12_isOne 116 = .ok (.getfield 77, 3) := by decide +kernel
theorem dX12_isOne_119 : decode cX12_isOne 119 = .ok (.iload_n 3, 1) := by decide +kernel
theorem dX12_isOne_120 : decode cX12_isOne 120 = .ok (.laload, 1) := by decide +kernel
theorem dX12_isOne_121 : decode cX12_isOne 121 = .ok (.lconst 1, 1) := by decide +kernel
theorem dX12_isOne_122 : decode cX12_isOne 122 = .ok (.lcmp, 1) := by decide +kernel
theorem dX12_isOne_123 : decode cX12_isOne 123 = .ok (.ifCond .eq 5, 3) := by decide +kernel
theorem dX12_isOne_126 : decode cX12_isOne 126 = .ok (.iconst 0, 1) := by decide +kernel
theorem dX12_isOne_127 : decode cX12_isOne 127 = .ok (.ireturn, 1) := by decide +kernel
theorem dX12_isOne_128 : decode cX12_isOne 128 = .ok (.iinc 3 1, 3) := by decide +kernel
theorem dX12_isOne_131 : decode cX12_isOne 131 = .ok (.goto (-24), 3) := by decide +kernel
theorem dX12_isOne_134 : decode cX12_isOne 134 = .ok (.iconst 1, 1) := by decide +kernel
theorem dX12_isOne_135 : decode cX12_isOne 135 = .ok (.ireturn, 1) := by decide +kernel
def f_X12_isOne_u44 (Q : Int → ml_St → Prop) (K8 : ml_St → Int → Int → Int → Prop) (σ : ml_St) (x1 : Int) (x2 : Int) (x3 : Int) (s1 : Int) (s2 : Int) : Prop :=
(0 : Int) ≤ x3 ∧ (x3 : Int) < 10 ∧
∀ _ : I32 (σ 253 x3),
f_X12_sign σ s1 s2 (σ 253 x3) (fun σ2 =>
f_X12_lays σ2 20 21 22 (fun σ3 =>
f_X12_copies σ3 22 20 (fun σ4 =>
I32 (x3 + 1) ∧
∀ y5 : Int, y5 = x3 + 1 →
K8 σ4 x1 x2 y5)))
def f_X12_isOne_u31 (Q : Int → ml_St → Prop) (K8 : ml_St → Int → Int → Int → Prop) (σ : ml_St) (x1 : Int) (x2 : Int) (x3 : Int) (s1 : Int) (s2 : Int) : Prop :=
f_X12_has σ x2 x3 (fun r1 σ1 => ∀ _ : ml_B r1,
(s2 = r1 →
f_X12_isOne_u44 Q K8 σ1 x1 x2 x3 s1 0) ∧
(s2 ≠ r1 →
f_X12_isOne_u44 Q K8 σ1 x1 x2 x3 s1 1))
def f_X12_isOne_u8 (Q : Int → ml_St → Prop) (K77 : ml_St → Prop) : Nat → ml_St → Int → Int → Int → Prop
| 0, _, _, _, _ => False
| N + 1, σ, x1, x2, x3 =>
(x1 ≤ x3 →
K77 σ) ∧
(¬ (x1 ≤ x3) →
(0 : Int) ≤ x3 ∧ (x3 : Int) < 10 ∧
∀ _ : I32 (σ 252 x3),
(((σ 252 x3) : Int) ≠ 1 →
f_X12_isOne_u31 Q (f_X12_isOne_u8 Q K77 N) σ x1 x2 x3 21 0) ∧
((σ 252 x3) = 1 →
f_X12_isOne_u31 Q (f_X12_isOne_u8 Q K77 N) σ x1 x2 x3 21 1))
def f_X12_isOne_u107 (Q : Int → ml_St → Prop) (K126 : ml_St → Prop) (K134 : ml_St → Prop) : Nat → ml_St → Int → Prop
| 0, _, _ => False
| N + 1, σ, x3 =>
∀ _ : I32 (σ 215 34),
((σ 215 34) < x3 →
K134 σ) ∧
(¬ ((σ 215 34) < x3) →
(0 : Int) ≤ x3 ∧ (x3 : Int) < 2900 ∧
∀ _ : I64 (σ 236 x3),
(((σ 236 x3) : Int) = 1 →
I32 (x3 + 1) ∧
∀ y5 : Int, y5 = x3 + 1 →
f_X12_isOne_u107 Q K126 K134 N σ y5) ∧
((σ 236 x3) ≠ 1 →
K126 σ))
def f_X12_isOne_u126 (Q : Int → ml_St → Prop) (σ : ml_St) : Prop :=
Q 0 σ
def f_X12_isOne_u134 (Q : Int → ml_St → Prop) (σ : ml_St) : Prop :=
Q 1 σ
def f_X12_isOne_u77 (Q : Int → ml_St → Prop) (σ : ml_St) : Prop :=
(0 : Int) ≤ 20 ∧ (20 : Int) < 64 ∧
∀ _ : I64 (σ 229 20),
f_X12_closing σ 20 (fun r2 σ2 => ∀ _ : I32 r2,
(((w64 ((σ 229 20) + r2)) : Int) = 1 →
f_X12_powers σ2 20 (fun σ5 =>
∃ N1, f_X12_isOne_u107 Q (f_X12_isOne_u126 Q) (f_X12_isOne_u134 Q) N1 σ5 1)) ∧
((w64 ((σ 229 20) + r2)) ≠ 1 →
Q 0 σ2))
def f_X12_isOne_u0 (Q : Int → ml_St → Prop) (σ : ml_St) (x1 : Int) (x2 : Int) : Prop :=
f_X12_straight σ 20 (fun σ1 =>
∃ N1, f_X12_isOne_u8 Q (f_X12_isOne_u77 Q) N1 σ1 x1 x2 0)
def f_X12_isOne (σ : ml_St) (x1 : Int) (x2 : Int) (Q : Int → ml_St → Prop) : Prop := f_X12_isOne_u0 Q σ x1 x2
def rm_X12_isOne : Room := { frames := 3, cells := 0, slots := 0, locals := 76 }
set_option maxRecDepth 100000 in
set_option maxHeartbeats 4000000 in
theorem u_X12_isOne_44 {p : Program} {e : Env} {s : State} {m : MethodId} {args : Array Value} {below : List Frame} {meth : Method} {c : Code} {base : Nat} {D : va_G} {cA : Nat → ClassId} {n : Nat} {l : Launch} {Q : Int → ml_St → Prop} {K8 : ml_St → Int → Int → Int → Prop} (X : ml_X p s m c meth args D cA cX12_isOne 4 RX12 (some .boolean)) (hn : 256 ≤ n) (hK8 : ∀ (σ : ml_St) (x1 : Int) (x2 : Int) (x3 : Int) (h_x1 : I32 x1) (h_x2 : I32 x2) (h_x3 : I32 x3) (ls : Array Slot), lv_has ls 4 [(0, .ref (base + (215 : Int).toNat)), (1, .int (Int32.ofInt x1)), (2, .int (Int32.ofInt x2)), (3, .int (Int32.ofInt x3))] → K8 σ x1 x2 x3 → ml_V p l e rm_X12_isOne s m args below meth c (MQ below (ml_Qi ml_B base D cA n Q) args s 0 0 (ml_A base)) base D cA 0 0 n n σ (F0 m 8 ls [])) (σ : ml_St) (x1 : Int) (x2 : Int) (x3 : Int) (s1 : Int) (s2 : Int) (h_x1 : I32 x1) (h_x2 : I32 x2) (h_x3 : I32 x3) (h_s1 : ml_I8 s1) (h_s2 : ml_B s2) (ls : Array Slot) (hl : lv_has ls 4 [(0, .ref (base + (215 : Int).toNat)), (1, .int (Int32.ofInt x1)), (2, .int (Int32.ofInt x2)), (3, .int (Int32.ofInt x3))]) (hw : f_X12_isOne_u44 Q K8 σ x1 x2 x3 s1 s2) : ml_V p l e rm_X12_isOne s m args below meth c (MQ below (ml_Qi ml_B base D cA n Q) args s 0 0 (ml_A base)) base D cA 0 0 n n σ (F0 m 44 ls [.int (Int32.ofInt s2), .int (Int32.ofInt s1), .ref (base + (215 : Int).toNat)]) := by
  unfold f_X12_isOne_u44 at hw
  refine ml_aload_n (pc := 44) X hl 0 rfl rfl dX12_isOne_44 ?_
  refine gf_X12_128 (pc := 45) X (ml_c215 hn) dX12_isOne_45 ?_
  refine ml_iload_n (pc := 48) X hl 3 rfl rfl dX12_isOne_48 ?_
  obtain ⟨a1, b1, hw⟩ := hw
  refine ml_iald (pc := 49) (N := 10) X (ml_c253 hn) a1 b1 dX12_isOne_49 (fun r1 => ?_)
  have hw := hw r1
  refine ml_callvV (pc := 50) (rest := []) X [.int (Int32.ofInt s1), .int (Int32.ofInt s2), .int (Int32.ofInt (σ 253 x3))] (by decide) rfl (ml_c215 hn) (c_X12_sign l base D cA n hn σ s1 s2 (σ 253 x3) h_s1.i h_s2 r1 _ hw) cv_X12_255 ⟨rfl, rfl⟩ ⟨by decide, by decide⟩ rfl rfl hl (Nat.le_of_ble_eq_true rfl) ⟨Nat.zero_le _, Nat.zero_le _⟩ dX12_isOne_50 (fun σ2 hw => ?_)
  refine ml_aload_n (pc := 53) X hl 0 rfl rfl dX12_isOne_53 ?_
  refine ml_bipush (pc := 54) X dX12_isOne_54 (by decide) ?_
  refine ml_bipush (pc := 56) X dX12_isOne_56 (by decide) ?_
  refine ml_bipush (pc := 58) X dX12_isOne_58 (by decide) ?_
  refine ml_callvV (pc := 60) (rest := []) X [.int (Int32.ofInt 20), .int (Int32.ofInt 21), .int (Int32.ofInt 22)] (by decide) rfl (ml_c215 hn) (c_X12_lays l base D cA n hn σ2 20 21 22 ⟨by decide, by decide⟩ ⟨by decide, by decide⟩ ⟨by decide, by decide⟩ _ hw) cv_X12_245 ⟨rfl, rfl⟩ ⟨by decide, by decide⟩ rfl rfl hl (Nat.le_of_ble_eq_true rfl) ⟨Nat.zero_le _, Nat.zero_le _⟩ dX12_isOne_60 (fun σ3 hw => ?_)
  refine ml_aload_n (pc := 63) X hl 0 rfl rfl dX12_isOne_63 ?_
  refine ml_bipush (pc := 64) X dX12_isOne_64 (by decide) ?_
  refine ml_bipush (pc := 66) X dX12_isOne_66 (by decide) ?_
  refine ml_callvV (pc := 68) (rest := []) X [.int (Int32.ofInt 22), .int (Int32.ofInt 20)] (by decide) rfl (ml_c215 hn) (c_X12_copies l base D cA n hn σ3 22 20 ⟨by decide, by decide⟩ ⟨by decide, by decide⟩ _ hw) cv_X12_242 ⟨rfl, rfl⟩ ⟨by decide, by decide⟩ rfl rfl hl (Nat.le_of_ble_eq_true rfl) ⟨Nat.zero_le _, Nat.zero_le _⟩ dX12_isOne_68 (fun σ4 hw => ?_)
  obtain ⟨v5, hw⟩ := hw
  obtain ⟨y5, e5⟩ : ∃ y : Int, y = x3 + 1 := ⟨_, rfl⟩
  have hw := hw y5 e5
  rw [← e5] at v5
  refine ml_iinc (pc := 71) X e5 hl 3 rfl (by decide) (lst' := [(3, .int (Int32.ofInt y5)), (0, .ref (base + (215 : Int).toNat)), (1, .int (Int32.ofInt x1)), (2, .int (Int32.ofInt x2))]) rfl dX12_isOne_71 (fun ls hl => ?_)
  refine ml_goto (pc := 74) (tgt := 8) X dX12_isOne_74 (by decide) ?_
  exact hK8 σ4 x1 x2 y5 h_x1 h_x2 v5 _ (lv_sub hl [1, 2, 3, 0] rfl) hw
set_option maxRecDepth 100000 in
set_option maxHeartbeats 4000000 in
theorem u_X12_isOne_31 {p : Program} {e : Env} {s : State} {m : MethodId} {args : Array Value} {below : List Frame} {meth : Method} {c : Code} {base : Nat} {D : va_G} {cA : Nat → ClassId} {n : Nat} {l : Launch} {Q : Int → ml_St → Prop} {K8 : ml_St → Int → Int → Int → Prop} (X : ml_X p s m c meth args D cA cX12_isOne 4 RX12 (some .boolean)) (hn : 256 ≤ n) (hK8 : ∀ (σ : ml_St) (x1 : Int) (x2 : Int) (x3 : Int) (h_x1 : I32 x1) (h_x2 : I32 x2) (h_x3 : I32 x3) (ls : Array Slot), lv_has ls 4 [(0, .ref (base + (215 : Int).toNat)), (1, .int (Int32.ofInt x1)), (2, .int (Int32.ofInt x2)), (3, .int (Int32.ofInt x3))] → K8 σ x1 x2 x3 → ml_V p l e rm_X12_isOne s m args below meth c (MQ below (ml_Qi ml_B base D cA n Q) args s 0 0 (ml_A base)) base D cA 0 0 n n σ (F0 m 8 ls [])) (σ : ml_St) (x1 : Int) (x2 : Int) (x3 : Int) (s1 : Int) (s2 : Int) (h_x1 : I32 x1) (h_x2 : I32 x2) (h_x3 : I32 x3) (h_s1 : ml_I8 s1) (h_s2 : ml_B s2) (ls : Array Slot) (hl : lv_has ls 4 [(0, .ref (base + (215 : Int).toNat)), (1, .int (Int32.ofInt x1)), (2, .int (Int32.ofInt x2)), (3, .int (Int32.ofInt x3))]) (hw : f_X12_isOne_u31 Q K8 σ x1 x2 x3 s1 s2) : ml_V p l e rm_X12_isOne s m args below meth c (MQ below (ml_Qi ml_B base D cA n Q) args s 0 0 (ml_A base)) base D cA 0 0 n n σ (F0 m 31 ls [.int (Int32.ofInt s2), .int (Int32.ofInt s1), .ref (base + (215 : Int).toNat)]) := by
  unfold f_X12_isOne_u31 at hw
  refine ml_iload_n (pc := 31) X hl 2 rfl rfl dX12_isOne_31 ?_
  refine ml_iload_n (pc := 32) X hl 3 rfl rfl dX12_isOne_32 ?_
  refine ml_callzS (pc := 33) (rest := [.int (Int32.ofInt s2), .int (Int32.ofInt s1), .ref (base + (215 : Int).toNat)]) X [.int (Int32.ofInt x2), .int (Int32.ofInt x3)] (c_X12_has l base D cA n hn σ x2 x3 h_x2 h_x3 _ hw) cv_X12_361 ⟨rfl, rfl⟩ ⟨by decide, by decide⟩ rfl rfl hl (Nat.le_of_ble_eq_true rfl) ⟨Nat.zero_le _, Nat.zero_le _⟩ dX12_isOne_33 (fun r1 σ1 t1 hw => ?_)
  have hw := hw t1
  refine ml_icmp_eq (pc := 36) (tgt := 43) X h_s2.i t1.i dX12_isOne_36 (by decide) (fun c2 => ?_) (fun c2 => ?_)
  · have hw := hw.1 c2
    refine ml_iconst (pc := 43) X dX12_isOne_43 ?_
    exact u_X12_isOne_44 X hn hK8 σ1 x1 x2 x3 s1 0 h_x1 h_x2 h_x3 h_s1 ⟨by decide, by decide⟩ _ (lv_sub hl [0, 1, 2, 3] rfl) hw
  · have hw := hw.2 c2
    refine ml_iconst (pc := 39) X dX12_isOne_39 ?_
    refine ml_goto (pc := 40) (tgt := 44) X dX12_isOne_40 (by decide) ?_
    exact u_X12_isOne_44 X hn hK8 σ1 x1 x2 x3 s1 1 h_x1 h_x2 h_x3 h_s1 ⟨by decide, by decide⟩ _ (lv_sub hl [0, 1, 2, 3] rfl) hw
set_option maxRecDepth 100000 in
set_option maxHeartbeats 4000000 in
theorem u_X12_isOne_8 {p : Program} {e : Env} {s : State} {m : MethodId} {args : Array Value} {below : List Frame} {meth : Method} {c : Code} {base : Nat} {D : va_G} {cA : Nat → ClassId} {n : Nat} {l : Launch} {Q : Int → ml_St → Prop} {K77 : ml_St → Prop} (X : ml_X p s m c meth args D cA cX12_isOne 4 RX12 (some .boolean)) (hn : 256 ≤ n) (hK77 : ∀ (σ : ml_St) (ls : Array Slot), lv_has ls 4 [(0, .ref (base + (215 : Int).toNat))] → K77 σ → ml_V p l e rm_X12_isOne s m args below meth c (MQ below (ml_Qi ml_B base D cA n Q) args s 0 0 (ml_A base)) base D cA 0 0 n n σ (F0 m 77 ls [])) : ∀ (N : Nat) (σ : ml_St) (x1 : Int) (x2 : Int) (x3 : Int) (h_x1 : I32 x1) (h_x2 : I32 x2) (h_x3 : I32 x3) (ls : Array Slot), lv_has ls 4 [(0, .ref (base + (215 : Int).toNat)), (1, .int (Int32.ofInt x1)), (2, .int (Int32.ofInt x2)), (3, .int (Int32.ofInt x3))] → f_X12_isOne_u8 Q K77 N σ x1 x2 x3 → ml_V p l e rm_X12_isOne s m args below meth c (MQ below (ml_Qi ml_B base D cA n Q) args s 0 0 (ml_A base)) base D cA 0 0 n n σ (F0 m 8 ls []) := by
  intro N
  induction N with
  | zero => intro σ x1 x2 x3 h_x1 h_x2 h_x3 ls hl hw; exact False.elim hw
  | succ N ih =>
    intro σ x1 x2 x3 h_x1 h_x2 h_x3 ls hl hw
    unfold f_X12_isOne_u8 at hw
    refine ml_iload_n (pc := 8) X hl 3 rfl rfl dX12_isOne_8 ?_
    refine ml_iload_n (pc := 9) X hl 1 rfl rfl dX12_isOne_9 ?_
    refine ml_icmp_ge (pc := 10) (tgt := 77) X h_x3 h_x1 dX12_isOne_10 (by decide) (fun c1 => ?_) (fun c1 => ?_)
    · have hw := hw.1 c1
      exact hK77 σ   _ (lv_sub hl [0] rfl) hw
    · have hw := hw.2 c1
      refine ml_aload_n (pc := 13) X hl 0 rfl rfl dX12_isOne_13 ?_
      refine ml_bipush (pc := 14) X dX12_isOne_14 (by decide) ?_
      refine ml_aload_n (pc := 16) X hl 0 rfl rfl dX12_isOne_16 ?_
      refine gf_X12_125 (pc := 17) X (ml_c215 hn) dX12_isOne_17 ?_
      refine ml_iload_n (pc := 20) X hl 3 rfl rfl dX12_isOne_20 ?_
      obtain ⟨a2, b2, hw⟩ := hw
      refine ml_iald (pc := 21) (N := 10) X (ml_c252 hn) a2 b2 dX12_isOne_21 (fun r2 => ?_)
      have hw := hw r2
      refine ml_iconst (pc := 22) X dX12_isOne_22 ?_
      refine ml_icmp_ne (pc := 23) (tgt := 30) X r2 ⟨by decide, by decide⟩ dX12_isOne_23 (by decide) (fun c3 => ?_) (fun c3 => ?_)
      · have hw := hw.1 c3
        refine ml_iconst (pc := 30) X dX12_isOne_30 ?_
        exact u_X12_isOne_31 X hn ih σ x1 x2 x3 21 0 h_x1 h_x2 h_x3 ⟨by decide, by decide⟩ ⟨by decide, by decide⟩ _ (lv_sub hl [0, 1, 2, 3] rfl) hw
      · have hw := hw.2 c3
        refine ml_iconst (pc := 26) X dX12_isOne_26 ?_
        refine ml_goto (pc := 27) (tgt := 31) X dX12_isOne_27 (by decide) ?_
        exact u_X12_isOne_31 X hn ih σ x1 x2 x3 21 1 h_x1 h_x2 h_x3 ⟨by decide, by decide⟩ ⟨by decide, by decide⟩ _ (lv_sub hl [0, 1, 2, 3] rfl) hw
set_option maxRecDepth 100000 in
set_option maxHeartbeats 4000000 in
theorem u_X12_isOne_107 {p : Program} {e : Env} {s : State} {m : MethodId} {args : Array Value} {below : List Frame} {meth : Method} {c : Code} {base : Nat} {D : va_G} {cA : Nat → ClassId} {n : Nat} {l : Launch} {Q : Int → ml_St → Prop} {K126 : ml_St → Prop} {K134 : ml_St → Prop} (X : ml_X p s m c meth args D cA cX12_isOne 4 RX12 (some .boolean)) (hn : 256 ≤ n) (hK126 : ∀ (σ : ml_St) (ls : Array Slot), lv_has ls 4 [] → K126 σ → ml_V p l e rm_X12_isOne s m args below meth c (MQ below (ml_Qi ml_B base D cA n Q) args s 0 0 (ml_A base)) base D cA 0 0 n n σ (F0 m 126 ls [])) (hK134 : ∀ (σ : ml_St) (ls : Array Slot), lv_has ls 4 [] → K134 σ → ml_V p l e rm_X12_isOne s m args below meth c (MQ below (ml_Qi ml_B base D cA n Q) args s 0 0 (ml_A base)) base D cA 0 0 n n σ (F0 m 134 ls [])) : ∀ (N : Nat) (σ : ml_St) (x3 : Int) (h_x3 : I32 x3) (ls : Array Slot), lv_has ls 4 [(0, .ref (base + (215 : Int).toNat)), (3, .int (Int32.ofInt x3))] → f_X12_isOne_u107 Q K126 K134 N σ x3 → ml_V p l e rm_X12_isOne s m args below meth c (MQ below (ml_Qi ml_B base D cA n Q) args s 0 0 (ml_A base)) base D cA 0 0 n n σ (F0 m 107 ls []) := by
  intro N
  induction N with
  | zero => intro σ x3 h_x3 ls hl hw; exact False.elim hw
  | succ N ih =>
    intro σ x3 h_x3 ls hl hw
    unfold f_X12_isOne_u107 at hw
    refine ml_iload_n (pc := 107) X hl 1 rfl rfl dX12_isOne_107 ?_
    refine ml_aload_n (pc := 108) X hl 0 rfl rfl dX12_isOne_108 ?_
    refine gf_X12_316 (pc := 109) X (ml_c215 hn) dX12_isOne_109 (fun r1 => ?_)
    have hw := hw r1
    refine ml_icmp_gt (pc := 112) (tgt := 134) X h_x3 r1 dX12_isOne_112 (by decide) (fun c2 => ?_) (fun c2 => ?_)
    · have hw := hw.1 c2
      exact hK134 σ   _ (lv_sub hl [] rfl) hw
    · have hw := hw.2 c2
      refine ml_aload_n (pc := 115) X hl 0 rfl rfl dX12_isOne_115 ?_
      refine gf_X12_77 (pc := 116) X (ml_c215 hn) dX12_isOne_116 ?_
      refine ml_iload_n (pc := 119) X hl 1 rfl rfl dX12_isOne_119 ?_
      obtain ⟨a3, b3, hw⟩ := hw
      refine ml_lald (pc := 120) (N := 2900) X (ml_c236 hn) a3 b3 dX12_isOne_120 (fun r3 => ?_)
      have hw := hw r3
      refine ml_lconst1 (pc := 121) X dX12_isOne_121 ?_
      refine ml_lcmp_eq (pc := 122) (tgt := 128) X r3 ⟨by decide, by decide⟩ dX12_isOne_122 dX12_isOne_123 (by decide) (fun c4 => ?_) (fun c4 => ?_)
      · have hw := hw.1 c4
        obtain ⟨v5, hw⟩ := hw
        obtain ⟨y5, e5⟩ : ∃ y : Int, y = x3 + 1 := ⟨_, rfl⟩
        have hw := hw y5 e5
        rw [← e5] at v5
        refine ml_iinc (pc := 128) X e5 hl 1 rfl (by decide) (lst' := [(3, .int (Int32.ofInt y5)), (0, .ref (base + (215 : Int).toNat))]) rfl dX12_isOne_128 (fun ls hl => ?_)
        refine ml_goto (pc := 131) (tgt := 107) X dX12_isOne_131 (by decide) ?_
        exact ih σ y5 v5 _ (lv_sub hl [1, 0] rfl) hw
      · have hw := hw.2 c4
        exact hK126 σ   _ (lv_sub hl [] rfl) hw
set_option maxRecDepth 100000 in
set_option maxHeartbeats 4000000 in
theorem u_X12_isOne_126 {p : Program} {e : Env} {s : State} {m : MethodId} {args : Array Value} {below : List Frame} {meth : Method} {c : Code} {base : Nat} {D : va_G} {cA : Nat → ClassId} {n : Nat} {l : Launch} {Q : Int → ml_St → Prop} (X : ml_X p s m c meth args D cA cX12_isOne 4 RX12 (some .boolean)) (hn : 256 ≤ n) (σ : ml_St) (ls : Array Slot) (hl : lv_has ls 4 []) (hw : f_X12_isOne_u126 Q σ) : ml_V p l e rm_X12_isOne s m args below meth c (MQ below (ml_Qi ml_B base D cA n Q) args s 0 0 (ml_A base)) base D cA 0 0 n n σ (F0 m 126 ls []) := by
  unfold f_X12_isOne_u126 at hw
  refine ml_iconst (pc := 126) X dX12_isOne_126 ?_
  exact ml_zret (pc := 127) X ⟨by decide, by decide⟩ hw dX12_isOne_127
set_option maxRecDepth 100000 in
set_option maxHeartbeats 4000000 in
theorem u_X12_isOne_134 {p : Program} {e : Env} {s : State} {m : MethodId} {args : Array Value} {below : List Frame} {meth : Method} {c : Code} {base : Nat} {D : va_G} {cA : Nat → ClassId} {n : Nat} {l : Launch} {Q : Int → ml_St → Prop} (X : ml_X p s m c meth args D cA cX12_isOne 4 RX12 (some .boolean)) (hn : 256 ≤ n) (σ : ml_St) (ls : Array Slot) (hl : lv_has ls 4 []) (hw : f_X12_isOne_u134 Q σ) : ml_V p l e rm_X12_isOne s m args below meth c (MQ below (ml_Qi ml_B base D cA n Q) args s 0 0 (ml_A base)) base D cA 0 0 n n σ (F0 m 134 ls []) := by
  unfold f_X12_isOne_u134 at hw
  refine ml_iconst (pc := 134) X dX12_isOne_134 ?_
  exact ml_zret (pc := 135) X ⟨by decide, by decide⟩ hw dX12_isOne_135
set_option maxRecDepth 100000 in
set_option maxHeartbeats 4000000 in
theorem u_X12_isOne_77 {p : Program} {e : Env} {s : State} {m : MethodId} {args : Array Value} {below : List Frame} {meth : Method} {c : Code} {base : Nat} {D : va_G} {cA : Nat → ClassId} {n : Nat} {l : Launch} {Q : Int → ml_St → Prop} (X : ml_X p s m c meth args D cA cX12_isOne 4 RX12 (some .boolean)) (hn : 256 ≤ n) (σ : ml_St) (ls : Array Slot) (hl : lv_has ls 4 [(0, .ref (base + (215 : Int).toNat))]) (hw : f_X12_isOne_u77 Q σ) : ml_V p l e rm_X12_isOne s m args below meth c (MQ below (ml_Qi ml_B base D cA n Q) args s 0 0 (ml_A base)) base D cA 0 0 n n σ (F0 m 77 ls []) := by
  unfold f_X12_isOne_u77 at hw
  refine ml_aload_n (pc := 77) X hl 0 rfl rfl dX12_isOne_77 ?_
  refine gf_X12_55 (pc := 78) X (ml_c215 hn) dX12_isOne_78 ?_
  refine ml_bipush (pc := 81) X dX12_isOne_81 (by decide) ?_
  obtain ⟨a1, b1, hw⟩ := hw
  refine ml_lald (pc := 83) (N := 64) X (ml_c229 hn) a1 b1 dX12_isOne_83 (fun r1 => ?_)
  have hw := hw r1
  refine ml_aload_n (pc := 84) X hl 0 rfl rfl dX12_isOne_84 ?_
  refine ml_bipush (pc := 85) X dX12_isOne_85 (by decide) ?_
  refine ml_calliV (pc := 87) (rest := [.long (Int64.ofInt (σ 229 20))]) X [.int (Int32.ofInt 20)] (by decide) rfl (ml_c215 hn) (c_X12_closing l base D cA n hn σ 20 ⟨by decide, by decide⟩ _ hw) cv_X12_302 ⟨rfl, rfl⟩ ⟨by decide, by decide⟩ rfl rfl hl (Nat.le_of_ble_eq_true rfl) ⟨Nat.zero_le _, Nat.zero_le _⟩ dX12_isOne_87 (fun r2 σ2 t2 hw => ?_)
  have hw := hw t2
  refine ml_i2l (pc := 90) X t2 dX12_isOne_90 ?_
  refine ml_laddW (pc := 91) X dX12_isOne_91 ?_
  refine ml_lconst1 (pc := 92) X dX12_isOne_92 ?_
  refine ml_lcmp_eq (pc := 93) (tgt := 99) X (w64_r _) ⟨by decide, by decide⟩ dX12_isOne_93 dX12_isOne_94 (by decide) (fun c4 => ?_) (fun c4 => ?_)
  · have hw := hw.1 c4
    refine ml_aload_n (pc := 99) X hl 0 rfl rfl dX12_isOne_99 ?_
    refine ml_bipush (pc := 100) X dX12_isOne_100 (by decide) ?_
    refine ml_callvV (pc := 102) (rest := []) X [.int (Int32.ofInt 20)] (by decide) rfl (ml_c215 hn) (c_X12_powers l base D cA n hn σ2 20 ⟨by decide, by decide⟩ _ hw) cv_X12_322 ⟨rfl, rfl⟩ ⟨by decide, by decide⟩ rfl rfl hl (Nat.le_of_ble_eq_true rfl) ⟨Nat.zero_le _, Nat.zero_le _⟩ dX12_isOne_102 (fun σ5 hw => ?_)
    refine ml_iconst (pc := 105) X dX12_isOne_105 ?_
    refine ml_istore_n (pc := 106) X rfl hl (by decide) (lst' := [(3, .int (Int32.ofInt 1)), (0, .ref (base + (215 : Int).toNat))]) rfl dX12_isOne_106 (fun ls hl => ?_)
    obtain ⟨N0, hw⟩ := hw
    exact u_X12_isOne_107 X hn (fun σ   ls hl hw => u_X12_isOne_126 X hn σ   ls hl hw) (fun σ   ls hl hw => u_X12_isOne_134 X hn σ   ls hl hw) N0 σ5 1 ⟨by decide, by decide⟩ _ (lv_sub hl [1, 0] rfl) hw
  · have hw := hw.2 c4
    refine ml_iconst (pc := 97) X dX12_isOne_97 ?_
    exact ml_zret (pc := 98) X ⟨by decide, by decide⟩ hw dX12_isOne_98
set_option maxRecDepth 100000 in
set_option maxHeartbeats 4000000 in
theorem u_X12_isOne_0 {p : Program} {e : Env} {s : State} {m : MethodId} {args : Array Value} {below : List Frame} {meth : Method} {c : Code} {base : Nat} {D : va_G} {cA : Nat → ClassId} {n : Nat} {l : Launch} {Q : Int → ml_St → Prop} (X : ml_X p s m c meth args D cA cX12_isOne 4 RX12 (some .boolean)) (hn : 256 ≤ n) (σ : ml_St) (x1 : Int) (x2 : Int) (h_x1 : I32 x1) (h_x2 : I32 x2) (ls : Array Slot) (hl : lv_has ls 4 [(0, .ref (base + (215 : Int).toNat)), (1, .int (Int32.ofInt x1)), (2, .int (Int32.ofInt x2))]) (hw : f_X12_isOne_u0 Q σ x1 x2) : ml_V p l e rm_X12_isOne s m args below meth c (MQ below (ml_Qi ml_B base D cA n Q) args s 0 0 (ml_A base)) base D cA 0 0 n n σ (F0 m 0 ls []) := by
  unfold f_X12_isOne_u0 at hw
  refine ml_aload_n (pc := 0) X hl 0 rfl rfl dX12_isOne_0 ?_
  refine ml_bipush (pc := 1) X dX12_isOne_1 (by decide) ?_
  refine ml_callvV (pc := 3) (rest := []) X [.int (Int32.ofInt 20)] (by decide) rfl (ml_c215 hn) (c_X12_straight l base D cA n hn σ 20 ⟨by decide, by decide⟩ _ hw) cv_X12_227 ⟨rfl, rfl⟩ ⟨by decide, by decide⟩ rfl rfl hl (Nat.le_of_ble_eq_true rfl) ⟨Nat.zero_le _, Nat.zero_le _⟩ dX12_isOne_3 (fun σ1 hw => ?_)
  refine ml_iconst (pc := 6) X dX12_isOne_6 ?_
  refine ml_istore_n (pc := 7) X rfl hl (by decide) (lst' := [(3, .int (Int32.ofInt 0)), (0, .ref (base + (215 : Int).toNat)), (1, .int (Int32.ofInt x1)), (2, .int (Int32.ofInt x2))]) rfl dX12_isOne_7 (fun ls hl => ?_)
  obtain ⟨N0, hw⟩ := hw
  exact u_X12_isOne_8 X hn (fun σ   ls hl hw => u_X12_isOne_77 X hn σ   ls hl hw) N0 σ1 x1 x2 0 h_x1 h_x2 ⟨by decide, by decide⟩ _ (lv_sub hl [1, 2, 3, 0] rfl) hw
set_option maxRecDepth 100000 in
theorem c_X12_isOne (l : Launch) (base : Nat) (D : va_G) (cA : Nat → ClassId) (n : Nat) (hn : 256 ≤ n) (σ : ml_St) (x1 : Int) (x2 : Int) (h_x1 : I32 x1) (h_x2 : I32 x2) (Q : Int → ml_St → Prop) (hw : f_X12_isOne σ x1 x2 Q) : Met l yX12_isOne (Cond.code yX12_isOne cX12_isOne 4 (some .boolean) :: ml_T) rm_X12_isOne (va_Pc [.ref (base + (215 : Int).toNat), .int (Int32.ofInt x1), .int (Int32.ofInt x2)] (ml_U base D cA n σ)) (ml_Qi ml_B base D cA n Q) 0 0 (ml_A base) := by
  refine Met.ofW (cc := cX12_isOne) (maxL := 4) (ret := (some .boolean)) (by decide) rfl ?_
  intro p e s m args below meth c s₁ B hml hv
  obtain ⟨rfl, hP, hK, hok, hro⟩ := hv
  have X : ml_X p s m c meth _ D cA cX12_isOne 4 RX12 (some .boolean) := ⟨B.exec, B.bytes, hml, findClass_of_methodNamed B.named, fun w hw => atoms_spec (ws := Cond.code yX12_isOne cX12_isOne 4 (some .boolean) :: ml_T) B.pre w (List.mem_cons_of_mem _ hw), hK, B.notSynchronized, B.returns⟩
  have hl := lv_entry [.ref (base + (215 : Int).toNat), .int (Int32.ofInt x1), .int (Int32.ofInt x2)] (n := 4) (Nat.le_of_ble_eq_true rfl)
  rw [lg_entry_eq]
  generalize (lg_sl [.ref (base + (215 : Int).toNat), .int (Int32.ofInt x1), .int (Int32.ofInt x2)] ++ List.replicate (4 - (lg_sl [.ref (base + (215 : Int).toNat), .int (Int32.ofInt x1), .int (Int32.ofInt x2)]).length) Slot.unset).toArray = ls at hl ⊢
  have hl : lv_has ls 4 [(0, .ref (base + (215 : Int).toNat)), (1, .int (Int32.ofInt x1)), (2, .int (Int32.ofInt x2))] := hl
  unfold f_X12_isOne at hw
  exact u_X12_isOne_0 X hn σ x1 x2 h_x1 h_x2 _ (lv_sub hl [0, 1, 2] rfl) hw s.heap [] hP va_S.rf hok hro
theorem dX12_sizeOf_0 : decode cX12_sizeOf 0 = .ok (.iconst 0, 1) := by decide +kernel
theorem dX12_sizeOf_1 : decode cX12_sizeOf 1 = .ok (.istore_n 1, 1) := by decide +kernel
theorem dX12_sizeOf_2 : decode cX12_sizeOf 2 = .ok (.iload_n 0, 1) := by decide +kernel
theorem dX12_sizeOf_3 : decode cX12_sizeOf 3 = .ok (.istore_n 2, 1) := by decide +kernel
theorem dX12_sizeOf_4 : decode cX12_sizeOf 4 = .ok (.iload_n 2, 1) := by decide +kernel
theorem dX12_sizeOf_5 : decode cX12_sizeOf 5 = .ok (.ifCond .eq 15, 3) := by decide +kernel
theorem dX12_sizeOf_8 : decode cX12_sizeOf 8 = .ok (.iinc 1 1, 3) := by decide +kernel
theorem dX12_sizeOf_11 : decode cX12_sizeOf 11 = .ok (.iload_n 2, 1) := by decide +kernel
theorem dX12_sizeOf_12 : decode cX12_sizeOf 12 = .ok (.iload_n 2, 1) := by decide +kernel
theorem dX12_sizeOf_13 : decode cX12_sizeOf 13 = .ok (.iconst 1, 1) := by decide +kernel
theorem dX12_sizeOf_14 : decode cX12_sizeOf 14 = .ok (.isub, 1) := by decide +kernel
theorem dX12_sizeOf_15 : decode cX12_sizeOf 15 = .ok (.iand, 1) := by decide +kernel
theorem dX12_sizeOf_16 : decode cX12_sizeOf 16 = .ok (.istore_n 2, 1) := by decide +kernel
theorem dX12_sizeOf_17 : decode cX12_sizeOf 17 = .ok (.goto (-13), 3) := by decide +kernel
theorem dX12_sizeOf_20 : decode cX12_sizeOf 20 = .ok (.iload_n 1, 1) := by decide +kernel
theorem dX12_sizeOf_21 : decode cX12_sizeOf 21 = .ok (.ireturn, 1) := by decide +kernel
def f_X12_sizeOf_u4 (Q : Int → ml_St → Prop) (K20 : ml_St → Int → Prop) : Nat → ml_St → Int → Int → Prop
| 0, _, _, _ => False
| N + 1, σ, x1, x2 =>
(x2 = 0 →
K20 σ x1) ∧
(x2 ≠ 0 →
I32 (x1 + 1) ∧
∀ y2 : Int, y2 = x1 + 1 →
I32 (x2 - 1) ∧
∀ y4 : Int, y4 = b_and x2 (x2 - 1) →
f_X12_sizeOf_u4 Q K20 N σ y2 y4)
def f_X12_sizeOf_u20 (Q : Int → ml_St → Prop) (σ : ml_St) (x1 : Int) : Prop :=
Q x1 σ
def f_X12_sizeOf_u0 (Q : Int → ml_St → Prop) (σ : ml_St) (x0 : Int) : Prop :=
∃ N1, f_X12_sizeOf_u4 Q (f_X12_sizeOf_u20 Q) N1 σ 0 x0
def f_X12_sizeOf (σ : ml_St) (x0 : Int) (Q : Int → ml_St → Prop) : Prop := f_X12_sizeOf_u0 Q σ x0
def rm_X12_sizeOf : Room := { frames := 0, cells := 0, slots := 0, locals := 0 }
set_option maxRecDepth 100000 in
set_option maxHeartbeats 4000000 in
theorem u_X12_sizeOf_4 {p : Program} {e : Env} {s : State} {m : MethodId} {args : Array Value} {below : List Frame} {meth : Method} {c : Code} {base : Nat} {D : va_G} {cA : Nat → ClassId} {n : Nat} {l : Launch} {Q : Int → ml_St → Prop} {K20 : ml_St → Int → Prop} (X : ml_X p s m c meth args D cA cX12_sizeOf 3 RX12 (some .int)) (hn : 256 ≤ n) (hK20 : ∀ (σ : ml_St) (x1 : Int) (h_x1 : I32 x1) (ls : Array Slot), lv_has ls 3 [(1, .int (Int32.ofInt x1))] → K20 σ x1 → ml_V p l e rm_X12_sizeOf s m args below meth c (MQ below (ml_Qi I32 base D cA n Q) args s 0 0 (ml_A base)) base D cA 0 0 n n σ (F0 m 20 ls [])) : ∀ (N : Nat) (σ : ml_St) (x1 : Int) (x2 : Int) (h_x1 : I32 x1) (h_x2 : I32 x2) (ls : Array Slot), lv_has ls 3 [(1, .int (Int32.ofInt x1)), (2, .int (Int32.ofInt x2))] → f_X12_sizeOf_u4 Q K20 N σ x1 x2 → ml_V p l e rm_X12_sizeOf s m args below meth c (MQ below (ml_Qi I32 base D cA n Q) args s 0 0 (ml_A base)) base D cA 0 0 n n σ (F0 m 4 ls []) := by
  intro N
  induction N with
  | zero => intro σ x1 x2 h_x1 h_x2 ls hl hw; exact False.elim hw
  | succ N ih =>
    intro σ x1 x2 h_x1 h_x2 ls hl hw
    unfold f_X12_sizeOf_u4 at hw
    refine ml_iload_n (pc := 4) X hl 1 rfl rfl dX12_sizeOf_4 ?_
    refine ml_if_eq (pc := 5) (tgt := 20) X h_x2 dX12_sizeOf_5 (by decide) (fun c1 => ?_) (fun c1 => ?_)
    · have hw := hw.1 c1
      exact hK20 σ x1 h_x1 _ (lv_sub hl [0] rfl) hw
    · have hw := hw.2 c1
      obtain ⟨v2, hw⟩ := hw
      obtain ⟨y2, e2⟩ : ∃ y : Int, y = x1 + 1 := ⟨_, rfl⟩
      have hw := hw y2 e2
      rw [← e2] at v2
      refine ml_iinc (pc := 8) X e2 hl 0 rfl (by decide) (lst' := [(1, .int (Int32.ofInt y2)), (2, .int (Int32.ofInt x2))]) rfl dX12_sizeOf_8 (fun ls hl => ?_)
      refine ml_iload_n (pc := 11) X hl 1 rfl rfl dX12_sizeOf_11 ?_
      refine ml_iload_n (pc := 12) X hl 1 rfl rfl dX12_sizeOf_12 ?_
      refine ml_iconst (pc := 13) X dX12_sizeOf_13 ?_
      obtain ⟨v3, hw⟩ := hw
      refine ml_isub (pc := 14) X dX12_sizeOf_14 ?_
      refine ml_iand (pc := 15) X dX12_sizeOf_15 ?_
      refine ml_topI (pc := 16) (fun y4 e4 => ?_)
      have hw := hw y4 e4
      have q4 : I32 y4 := by rw [e4]; exact (b_and_r _ _)
      refine ml_istore_n (pc := 16) X rfl hl (by decide) (lst' := [(2, .int (Int32.ofInt y4)), (1, .int (Int32.ofInt y2))]) rfl dX12_sizeOf_16 (fun ls hl => ?_)
      refine ml_goto (pc := 17) (tgt := 4) X dX12_sizeOf_17 (by decide) ?_
      exact ih σ y2 y4 v2 q4 _ (lv_sub hl [1, 0] rfl) hw
set_option maxRecDepth 100000 in
set_option maxHeartbeats 4000000 in
theorem u_X12_sizeOf_20 {p : Program} {e : Env} {s : State} {m : MethodId} {args : Array Value} {below : List Frame} {meth : Method} {c : Code} {base : Nat} {D : va_G} {cA : Nat → ClassId} {n : Nat} {l : Launch} {Q : Int → ml_St → Prop} (X : ml_X p s m c meth args D cA cX12_sizeOf 3 RX12 (some .int)) (hn : 256 ≤ n) (σ : ml_St) (x1 : Int) (h_x1 : I32 x1) (ls : Array Slot) (hl : lv_has ls 3 [(1, .int (Int32.ofInt x1))]) (hw : f_X12_sizeOf_u20 Q σ x1) : ml_V p l e rm_X12_sizeOf s m args below meth c (MQ below (ml_Qi I32 base D cA n Q) args s 0 0 (ml_A base)) base D cA 0 0 n n σ (F0 m 20 ls []) := by
  unfold f_X12_sizeOf_u20 at hw
  refine ml_iload_n (pc := 20) X hl 0 rfl rfl dX12_sizeOf_20 ?_
  exact ml_iret (pc := 21) X h_x1 hw dX12_sizeOf_21
set_option maxRecDepth 100000 in
set_option maxHeartbeats 4000000 in
theorem u_X12_sizeOf_0 {p : Program} {e : Env} {s : State} {m : MethodId} {args : Array Value} {below : List Frame} {meth : Method} {c : Code} {base : Nat} {D : va_G} {cA : Nat → ClassId} {n : Nat} {l : Launch} {Q : Int → ml_St → Prop} (X : ml_X p s m c meth args D cA cX12_sizeOf 3 RX12 (some .int)) (hn : 256 ≤ n) (σ : ml_St) (x0 : Int) (h_x0 : I32 x0) (ls : Array Slot) (hl : lv_has ls 3 [(0, .int (Int32.ofInt x0))]) (hw : f_X12_sizeOf_u0 Q σ x0) : ml_V p l e rm_X12_sizeOf s m args below meth c (MQ below (ml_Qi I32 base D cA n Q) args s 0 0 (ml_A base)) base D cA 0 0 n n σ (F0 m 0 ls []) := by
  unfold f_X12_sizeOf_u0 at hw
  refine ml_iconst (pc := 0) X dX12_sizeOf_0 ?_
  refine ml_istore_n (pc := 1) X rfl hl (by decide) (lst' := [(1, .int (Int32.ofInt 0)), (0, .int (Int32.ofInt x0))]) rfl dX12_sizeOf_1 (fun ls hl => ?_)
  refine ml_iload_n (pc := 2) X hl 1 rfl rfl dX12_sizeOf_2 ?_
  refine ml_istore_n (pc := 3) X rfl hl (by decide) (lst' := [(2, .int (Int32.ofInt x0)), (1, .int (Int32.ofInt 0)), (0, .int (Int32.ofInt x0))]) rfl dX12_sizeOf_3 (fun ls hl => ?_)
  obtain ⟨N0, hw⟩ := hw
  exact u_X12_sizeOf_4 X hn (fun σ x1 h_x1 ls hl hw => u_X12_sizeOf_20 X hn σ x1 h_x1 ls hl hw) N0 σ 0 x0 ⟨by decide, by decide⟩ h_x0 _ (lv_sub hl [1, 0] rfl) hw
set_option maxRecDepth 100000 in
theorem c_X12_sizeOf (l : Launch) (base : Nat) (D : va_G) (cA : Nat → ClassId) (n : Nat) (hn : 256 ≤ n) (σ : ml_St) (x0 : Int) (h_x0 : I32 x0) (Q : Int → ml_St → Prop) (hw : f_X12_sizeOf σ x0 Q) : Met l yX12_sizeOf (Cond.code yX12_sizeOf cX12_sizeOf 3 (some .int) :: ml_T) rm_X12_sizeOf (va_Pc [.int (Int32.ofInt x0)] (ml_U base D cA n σ)) (ml_Qi I32 base D cA n Q) 0 0 (ml_A base) := by
  refine Met.ofW (cc := cX12_sizeOf) (maxL := 3) (ret := (some .int)) (by decide) rfl ?_
  intro p e s m args below meth c s₁ B hml hv
  obtain ⟨rfl, hP, hK, hok, hro⟩ := hv
  have X : ml_X p s m c meth _ D cA cX12_sizeOf 3 RX12 (some .int) := ⟨B.exec, B.bytes, hml, findClass_of_methodNamed B.named, fun w hw => atoms_spec (ws := Cond.code yX12_sizeOf cX12_sizeOf 3 (some .int) :: ml_T) B.pre w (List.mem_cons_of_mem _ hw), hK, B.notSynchronized, B.returns⟩
  have hl := lv_entry [.int (Int32.ofInt x0)] (n := 3) (Nat.le_of_ble_eq_true rfl)
  rw [lg_entry_eq]
  generalize (lg_sl [.int (Int32.ofInt x0)] ++ List.replicate (3 - (lg_sl [.int (Int32.ofInt x0)]).length) Slot.unset).toArray = ls at hl ⊢
  have hl : lv_has ls 3 [(0, .int (Int32.ofInt x0))] := hl
  unfold f_X12_sizeOf at hw
  exact u_X12_sizeOf_0 X hn σ x0 h_x0 _ (lv_sub hl [0] rfl) hw s.heap [] hP va_S.rf hok hro
theorem dX12_mend_0 : decode cX12_mend 0 = .ok (.aload_n 0, 1) := by decide +kernel
theorem dX12_mend_1 : decode cX12_mend 1 = .ok (.iload_n 1, 1) := by decide +kernel
theorem dX12_mend_2 : decode cX12_mend 2 = .ok (.invokevirtual 287, 3) := by decide +kernel
theorem dX12_mend_5 : decode cX12_mend 5 = .ok (.ifCond .eq 22, 3) := by decide +kernel
theorem dX12_mend_8 : decode cX12_mend 8 = .ok (.aload_n 0, 1) := by decide +kernel
theorem dX12_mend_9 : decode cX12_mend 9 = .ok (.iload_n 1, 1) := by decide +kernel
theorem dX12_mend_10 : decode cX12_mend 10 = .ok (.invokevirtual 358, 3) := by decide +kernel
theorem dX12_mend_13 : decode cX12_mend 13 = .ok (.ifCond .eq 14, 3) := by decide +kernel
theorem dX12_mend_16 : decode cX12_mend 16 = .ok (.aload_n 0, 1) := by decide +kernel
theorem dX12_mend_17 : decode cX12_mend 17 = .ok (.getfield 24, 3) := by decide +kernel
theorem dX12_mend_20 : decode cX12_mend 20 = .ok (.iload_n 1, 1) := by decide +kernel
theorem dX12_mend_21 : decode cX12_mend 21 = .ok (.iaload, 1) := by decide +kernel
theorem dX12_mend_22 : decode cX12_mend 22 = .ok (.bipush 20, 2) := by decide +kernel
theorem dX12_mend_24 : decode cX12_mend 24 = .ok (.if_icmp .le 5, 3) := by decide +kernel
theorem dX12_mend_27 : decode cX12_mend 27 = .ok (.iconst (-1), 1) := by decide +kernel
theorem dX12_mend_28 : decode cX12_mend 28 = .ok (.ireturn, 1) := by decide +kernel
theorem dX12_mend_29 : decode cX12_mend 29 = .ok (.aload_n 0, 1) := by decide +kernel
theorem dX12_mend_30 : decode cX12_mend 30 = .ok (.getfield 24, 3) := by decide +kernel
theorem dX12_mend_33 : decode cX12_mend 33 = .ok (.iload_n 1, 1) := by decide +kernel
theorem dX12_mend_34 : decode cX12_mend 34 = .ok (.iaload, 1) := by decide +kernel
theorem dX12_mend_35 : decode cX12_mend 35 = .ok (.iconst 2, 1) := by decide +kernel
theorem dX12_mend_36 : decode cX12_mend 36 = .ok (.idiv, 1) := by decide +kernel
theorem dX12_mend_37 : decode cX12_mend 37 = .ok (.istore_n 2, 1) := by decide +kernel
theorem dX12_mend_38 : decode cX12_mend 38 = .ok (.iconst 0, 1) := by decide +kernel
theorem dX12_mend_39 : decode cX12_mend 39 = .ok (.istore_n 3, 1) := by decide +kernel
theorem dX12_mend_40 : decode cX12_mend 40 = .ok (.iload_n 3, 1) := by decide +kernel
theorem dX12_mend_41 : decode cX12_mend 41 = .ok (.iload_n 2, 1) := by decide +kernel
theorem dX12_mend_42 : decode cX12_mend 42 = .ok (.if_icmp .ge 62, 3) := by decide +kernel
theorem dX12_mend_45 : decode cX12_mend 45 = .ok (.aload_n 0, 1) := by decide +kernel
theorem dX12_mend_46 : decode cX12_mend 46 = .ok (.getfield 125, 3) := by decide +kernel
theorem dX12_mend_49 : decode cX12_mend 49 = .ok (.iload_n 3, 1) := by decide +kernel
theorem dX12_mend_50 : decode cX12_mend 50 = .ok (.aload_n 0, 1) := by decide +kernel
theorem dX12_mend_51 : decode cX12_mend 51 = .ok (.getfield 21, 3) := by decide +kernel
theorem dX12_mend_54 : decode cX12_mend 54 = .ok (.bipush 100, 2) := by decide +kernel
theorem dX12_mend_56 : decode cX12_mend 56 = .ok (.iload_n 1, 1) := by decide +kernel
theorem dX12_mend_57 : decode cX12_mend 57 = .ok (.imul, 1) := by decide +kernel
theorem dX12_mend_58 : decode cX12_mend 58 = .ok (.iconst 2, 1) := by decide +kernel
theorem dX12_mend_59 : decode cX12_mend 59 = .ok (.iload_n 3, 1) := by decide +kernel
theorem dX12_mend_60 : decode cX12_mend 60 = .ok (.imul, 1) := by decide +kernel
theorem dX12_mend_61 : decode cX12_mend 61 = .ok (.iadd, 1) := by decide +kernel
theorem dX12_mend_62 : decode cX12_mend 62 = .ok (.baload, 1) := by decide +kernel
theorem dX12_mend_63 : decode cX12_mend 63 = .ok (.bipush 120, 2) := by decide +kernel
theorem dX12_mend_65 : decode cX12_mend 65 = .ok (.if_icmp .ne 7, 3) := by decide +kernel
theorem dX12_mend_68 : decode cX12_mend 68 = .ok (.iconst 1, 1) := by decide +kernel
theorem dX12_mend_69 : decode cX12_mend 69 = .ok (.goto 4, 3) := by decide +kernel
theorem dX12_mend_72 : decode cX12_mend 72 = .ok (.iconst 0, 1) := by decide +kernel
theorem dX12_mend_73 : decode cX12_mend 73 = .ok (.iastore, 1) := by decide +kernel
theorem dX12_mend_74 : decode cX12_mend 74 = .ok (.aload_n 0, 1) := by decide +kernel
theorem dX12_mend_75 : decode cX12_mend 75 = .ok (.getfield 128, 3) := by decide +kernel
theorem dX12_mend_78 : decode cX12_mend 78 = .ok (.iload_n 3, 1) := by decide +kernel
theorem dX12_mend_79 : decode cX12_mend 79 = .ok (.aload_n 0, 1) := by decide +kernel
theorem dX12_mend_80 : decode cX12_mend 80 = .ok (.getfield 21, 3) := by decide +kernel
theorem dX12_mend_83 : decode cX12_mend 83 = .ok (.bipush 100, 2) := by decide +kernel
theorem dX12_mend_85 : decode cX12_mend 85 = .ok (.iload_n 1, 1) := by decide +kernel
theorem dX12_mend_86 : decode cX12_mend 86 = .ok (.imul, 1) := by decide +kernel
theorem dX12_mend_87 : decode cX12_mend 87 = .ok (.iconst 2, 1) := by decide +kernel
theorem dX12_mend_88 : decode cX12_mend 88 = .ok (.iload_n 3, 1) := by decide +kernel
theorem dX12_mend_89 : decode cX12_mend 89 = .ok (.imul, 1) := by decide +kernel
theorem dX12_mend_90 : decode cX12_mend 90 = .ok (.iadd, 1) := by decide +kernel
theorem dX12_mend_91 : decode cX12_mend 91 = .ok (.iconst 1, 1) := by decide +kernel
theorem dX12_mend_92 : decode cX12_mend 92 = .ok (.iadd, 1) := by decide +kernel
theorem dX12_mend_93 : decode cX12_mend 93 = .ok (.baload, 1) := by decide +kernel
theorem dX12_mend_94 : decode cX12_mend 94 = .ok (.bipush 48, 2) := by decide +kernel
theorem dX12_mend_96 : decode cX12_mend 96 = .ok (.isub, 1) := by decide +kernel
theorem dX12_mend_97 : decode cX12_mend 97 = .ok (.iastore, 1) := by decide +kernel
theorem dX12_mend_98 : decode cX12_mend 98 = .ok (.iinc 3 1, 3) := by decide +kernel
theorem dX12_mend_101 : decode cX12_mend 101 = .ok (.goto (-61), 3) := by decide +kernel
theorem dX12_mend_104 : decode cX12_mend 104 = .ok (.bipush (-2), 2) := by decide +kernel
theorem dX12_mend_106 : decode cX12_mend 106 = .ok (.istore_n 3, 1) := by decide +kernel
theorem dX12_mend_107 : decode cX12_mend 107 = .ok (.iconst 0, 1) := by decide +kernel
theorem dX12_mend_108 : decode cX12_mend 108 = .ok (.istore 4, 2) := by decide +kernel
theorem dX12_mend_110 : decode cX12_mend 110 = .ok (.iload 4, 2) := by decide +kernel
theorem dX12_mend_112 : decode cX12_mend 112 = .ok (.iconst 1, 1) := by decide +kernel
theorem dX12_mend_113 : decode cX12_mend 113 = .ok (.iload_n 2, 1) := by decide +kernel
theorem dX12_mend_114 : decode cX12_mend 114 = .ok (.ishl, 1) := by decide +kernel
theorem dX12_mend_115 : decode cX12_mend 115 = .ok (.if_icmp .ge 38, 3) := by decide +kernel
theorem dX12_mend_118 : decode cX12_mend 118 = .ok (.iload_n 3, 1) := by decide +kernel
theorem dX12_mend_119 : decode cX12_mend 119 = .ok (.ifCond .lt 15, 3) := by decide +kernel
theorem dX12_mend_122 : decode cX12_mend 122 = .ok (.iload 4, 2) := by decide +kernel
theorem dX12_mend_124 : decode cX12_mend 124 = .ok (.invokestatic 407, 3) := by decide +kernel
theorem dX12_mend_127 : decode cX12_mend 127 = .ok (.iload_n 3, 1) := by decide +kernel
theorem dX12_mend_128 : decode cX12_mend 128 = .ok (.invokestatic 407, 3) := by decide +kernel
theorem dX12_mend_131 : decode cX12_mend 131 = .ok (.if_icmp .ge 16, 3) := by decide +kernel
theorem dX12_mend_134 : decode cX12_mend 134 = .ok (.aload_n 0, 1) := by decide +kernel
theorem dX12_mend_135 : decode cX12_mend 135 = .ok (.iload_n 2, 1) := by decide +kernel
theorem dX12_mend_136 : decode cX12_mend 136 = .ok (.iload 4, 2) := by decide +kernel
theorem dX12_mend_138 : decode cX12_mend 138 = .ok (.invokevirtual 410, 3) := by decide +kernel
theorem dX12_mend_141 : decode cX12_mend 141 = .ok (.ifCond .eq 6, 3) := by decide +kernel
theorem dX12_mend_144 : decode cX12_mend 144 = .ok (.iload 4, 2) := by decide +kernel
theorem dX12_mend_146 : decode cX12_mend 146 = .ok (.istore_n 3, 1) := by decide +kernel
theorem dX12_mend_147 : decode cX12_mend 147 = .ok (.iinc 4 1, 3) := by decide +kernel
theorem dX12_mend_150 : decode cX12_mend 150 = .ok (.goto (-40), 3) := by decide +kernel
theorem dX12_mend_153 : decode cX12_mend 153 = .ok (.iload_n 3, 1) := by decide +kernel
theorem dX12_mend_154 : decode cX12_mend 154 = .ok (.ireturn, 1) := by decide +kernel
def f_X12_mend_u27 (Q : Int → ml_St → Prop) (σ : ml_St) : Prop :=
Q (-1) σ
def f_X12_mend_u73 (Q : Int → ml_St → Prop) (K40 : ml_St → Int → Int → Int → Prop) (σ : ml_St) (x1 : Int) (x2 : Int) (x3 : Int) (s1 : Int) (s2 : Int) : Prop :=
(0 : Int) ≤ s1 ∧ (s1 : Int) < 10 ∧
∀ σ1, σ1 = ml_up σ 252 s1 s2 →
I32 (100 * x1) ∧
I32 (2 * x3) ∧
I32 ((100 * x1) + (2 * x3)) ∧
I32 (((100 * x1) + (2 * x3)) + 1) ∧
(0 : Int) ≤ (((100 * x1) + (2 * x3)) + 1) ∧ ((((100 * x1) + (2 * x3)) + 1) : Int) < 1600 ∧
∀ _ : ml_I8 (σ1 218 (((100 * x1) + (2 * x3)) + 1)),
I32 ((σ1 218 (((100 * x1) + (2 * x3)) + 1)) - 48) ∧
(0 : Int) ≤ x3 ∧ (x3 : Int) < 10 ∧
∀ σ8, σ8 = ml_up σ1 253 x3 ((σ1 218 (((100 * x1) + (2 * x3)) + 1)) - 48) →
I32 (x3 + 1) ∧
∀ y9 : Int, y9 = x3 + 1 →
K40 σ8 x1 x2 y9
def f_X12_mend_u40 (Q : Int → ml_St → Prop) (K104 : ml_St → Int → Prop) : Nat → ml_St → Int → Int → Int → Prop
| 0, _, _, _, _ => False
| N + 1, σ, x1, x2, x3 =>
(x2 ≤ x3 →
K104 σ x2) ∧
(¬ (x2 ≤ x3) →
I32 (100 * x1) ∧
I32 (2 * x3) ∧
I32 ((100 * x1) + (2 * x3)) ∧
(0 : Int) ≤ ((100 * x1) + (2 * x3)) ∧ (((100 * x1) + (2 * x3)) : Int) < 1600 ∧
∀ _ : ml_I8 (σ 218 ((100 * x1) + (2 * x3))),
(((σ 218 ((100 * x1) + (2 * x3))) : Int) ≠ 120 →
f_X12_mend_u73 Q (f_X12_mend_u40 Q K104 N) σ x1 x2 x3 x3 0) ∧
((σ 218 ((100 * x1) + (2 * x3))) = 120 →
f_X12_mend_u73 Q (f_X12_mend_u40 Q K104 N) σ x1 x2 x3 x3 1))
def f_X12_mend_u147 (Q : Int → ml_St → Prop) (K110 : ml_St → Int → Int → Int → Prop) (σ : ml_St) (x2 : Int) (x3 : Int) (x4 : Int) : Prop :=
I32 (x4 + 1) ∧
∀ y1 : Int, y1 = x4 + 1 →
K110 σ x2 x3 y1
def f_X12_mend_u134 (Q : Int → ml_St → Prop) (K110 : ml_St → Int → Int → Int → Prop) (σ : ml_St) (x2 : Int) (x3 : Int) (x4 : Int) : Prop :=
f_X12_isOne σ x2 x4 (fun r1 σ1 => ∀ _ : ml_B r1,
(r1 = 0 →
f_X12_mend_u147 Q K110 σ1 x2 x3 x4) ∧
(r1 ≠ 0 →
f_X12_mend_u147 Q K110 σ1 x2 x4 x4))
def f_X12_mend_u110 (Q : Int → ml_St → Prop) (K153 : ml_St → Int → Prop) : Nat → ml_St → Int → Int → Int → Prop
| 0, _, _, _, _ => False
| N + 1, σ, x2, x3, x4 =>
((b_shl 1 x2) ≤ x4 →
K153 σ x3) ∧
(¬ ((b_shl 1 x2) ≤ x4) →
(x3 < 0 →
f_X12_mend_u134 Q (f_X12_mend_u110 Q K153 N) σ x2 x3 x4) ∧
(¬ (x3 < 0) →
f_X12_sizeOf σ x4 (fun r3 σ3 => ∀ _ : I32 r3,
f_X12_sizeOf σ3 x3 (fun r4 σ4 => ∀ _ : I32 r4,
(r4 ≤ r3 →
f_X12_mend_u147 Q (f_X12_mend_u110 Q K153 N) σ4 x2 x3 x4) ∧
(¬ (r4 ≤ r3) →
f_X12_mend_u134 Q (f_X12_mend_u110 Q K153 N) σ4 x2 x3 x4)))))
def f_X12_mend_u153 (Q : Int → ml_St → Prop) (σ : ml_St) (x3 : Int) : Prop :=
Q x3 σ
def f_X12_mend_u104 (Q : Int → ml_St → Prop) (σ : ml_St) (x2 : Int) : Prop :=
∃ N1, f_X12_mend_u110 Q (f_X12_mend_u153 Q) N1 σ x2 (-2) 0
def f_X12_mend_u0 (Q : Int → ml_St → Prop) (σ : ml_St) (x1 : Int) : Prop :=
f_X12_isWord σ x1 (fun r1 σ1 => ∀ _ : ml_B r1,
(r1 = 0 →
f_X12_mend_u27 Q σ1) ∧
(r1 ≠ 0 →
f_X12_isPlain σ1 x1 (fun r3 σ3 => ∀ _ : ml_B r3,
(r3 = 0 →
f_X12_mend_u27 Q σ3) ∧
(r3 ≠ 0 →
(0 : Int) ≤ x1 ∧ (x1 : Int) < 16 ∧
∀ _ : I32 (σ3 219 x1),
(((σ3 219 x1) : Int) ≤ 20 →
(0 : Int) ≤ x1 ∧ (x1 : Int) < 16 ∧
∀ _ : I32 (σ3 219 x1),
(2 : Int) ≠ 0 ∧ I32 (Int.tdiv (σ3 219 x1) 2) ∧
∀ y9 : Int, y9 = Int.tdiv (σ3 219 x1) 2 →
∃ N1, f_X12_mend_u40 Q (f_X12_mend_u104 Q) N1 σ3 x1 y9 0) ∧
(¬ (((σ3 219 x1) : Int) ≤ 20) →
f_X12_mend_u27 Q σ3)))))
def f_X12_mend (σ : ml_St) (x1 : Int) (Q : Int → ml_St → Prop) : Prop := f_X12_mend_u0 Q σ x1
def rm_X12_mend : Room := { frames := 4, cells := 0, slots := 0, locals := 99 }
set_option maxRecDepth 100000 in
set_option maxHeartbeats 4000000 in
theorem u_X12_mend_27 {p : Program} {e : Env} {s : State} {m : MethodId} {args : Array Value} {below : List Frame} {meth : Method} {c : Code} {base : Nat} {D : va_G} {cA : Nat → ClassId} {n : Nat} {l : Launch} {Q : Int → ml_St → Prop} (X : ml_X p s m c meth args D cA cX12_mend 5 RX12 (some .int)) (hn : 256 ≤ n) (σ : ml_St) (ls : Array Slot) (hl : lv_has ls 5 []) (hw : f_X12_mend_u27 Q σ) : ml_V p l e rm_X12_mend s m args below meth c (MQ below (ml_Qi I32 base D cA n Q) args s 0 0 (ml_A base)) base D cA 0 0 n n σ (F0 m 27 ls []) := by
  unfold f_X12_mend_u27 at hw
  refine ml_iconst (pc := 27) X dX12_mend_27 ?_
  exact ml_iret (pc := 28) X ⟨by decide, by decide⟩ hw dX12_mend_28
set_option maxRecDepth 100000 in
set_option maxHeartbeats 4000000 in
theorem u_X12_mend_73 {p : Program} {e : Env} {s : State} {m : MethodId} {args : Array Value} {below : List Frame} {meth : Method} {c : Code} {base : Nat} {D : va_G} {cA : Nat → ClassId} {n : Nat} {l : Launch} {Q : Int → ml_St → Prop} {K40 : ml_St → Int → Int → Int → Prop} (X : ml_X p s m c meth args D cA cX12_mend 5 RX12 (some .int)) (hn : 256 ≤ n) (hK40 : ∀ (σ : ml_St) (x1 : Int) (x2 : Int) (x3 : Int) (h_x1 : I32 x1) (h_x2 : I32 x2) (h_x3 : I32 x3) (ls : Array Slot), lv_has ls 5 [(0, .ref (base + (215 : Int).toNat)), (1, .int (Int32.ofInt x1)), (2, .int (Int32.ofInt x2)), (3, .int (Int32.ofInt x3))] → K40 σ x1 x2 x3 → ml_V p l e rm_X12_mend s m args below meth c (MQ below (ml_Qi I32 base D cA n Q) args s 0 0 (ml_A base)) base D cA 0 0 n n σ (F0 m 40 ls [])) (σ : ml_St) (x1 : Int) (x2 : Int) (x3 : Int) (s1 : Int) (s2 : Int) (h_x1 : I32 x1) (h_x2 : I32 x2) (h_x3 : I32 x3) (h_s1 : I32 s1) (h_s2 : ml_B s2) (ls : Array Slot) (hl : lv_has ls 5 [(0, .ref (base + (215 : Int).toNat)), (1, .int (Int32.ofInt x1)), (2, .int (Int32.ofInt x2)), (3, .int (Int32.ofInt x3))]) (hw : f_X12_mend_u73 Q K40 σ x1 x2 x3 s1 s2) : ml_V p l e rm_X12_mend s m args below meth c (MQ below (ml_Qi I32 base D cA n Q) args s 0 0 (ml_A base)) base D cA 0 0 n n σ (F0 m 73 ls [.int (Int32.ofInt s2), .int (Int32.ofInt s1), .ref (base + (252 : Int).toNat)]) := by
  unfold f_X12_mend_u73 at hw
  obtain ⟨a1, b1, hw⟩ := hw
  refine ml_iast (pc := 73) (N := 10) X (ml_c252 hn) a1 b1 h_s2.i dX12_mend_73 (fun σ1 g1 => ?_)
  have hw := hw σ1 g1
  refine ml_aload_n (pc := 74) X hl 0 rfl rfl dX12_mend_74 ?_
  refine gf_X12_128 (pc := 75) X (ml_c215 hn) dX12_mend_75 ?_
  refine ml_iload_n (pc := 78) X hl 3 rfl rfl dX12_mend_78 ?_
  refine ml_aload_n (pc := 79) X hl 0 rfl rfl dX12_mend_79 ?_
  refine gf_X12_21 (pc := 80) X (ml_c215 hn) dX12_mend_80 ?_
  refine ml_bipush (pc := 83) X dX12_mend_83 (by decide) ?_
  refine ml_iload_n (pc := 85) X hl 1 rfl rfl dX12_mend_85 ?_
  obtain ⟨v2, hw⟩ := hw
  refine ml_imul (pc := 86) X dX12_mend_86 ?_
  refine ml_iconst (pc := 87) X dX12_mend_87 ?_
  refine ml_iload_n (pc := 88) X hl 3 rfl rfl dX12_mend_88 ?_
  obtain ⟨v3, hw⟩ := hw
  refine ml_imul (pc := 89) X dX12_mend_89 ?_
  obtain ⟨v4, hw⟩ := hw
  refine ml_iadd (pc := 90) X dX12_mend_90 ?_
  refine ml_iconst (pc := 91) X dX12_mend_91 ?_
  obtain ⟨v5, hw⟩ := hw
  refine ml_iadd (pc := 92) X dX12_mend_92 ?_
  obtain ⟨a6, b6, hw⟩ := hw
  refine ml_bald (pc := 93) (N := 1600) X (ml_c218 hn) a6 b6 dX12_mend_93 (fun r6 => ?_)
  have hw := hw r6
  refine ml_bipush (pc := 94) X dX12_mend_94 (by decide) ?_
  obtain ⟨v7, hw⟩ := hw
  refine ml_isub (pc := 96) X dX12_mend_96 ?_
  obtain ⟨a8, b8, hw⟩ := hw
  refine ml_iast (pc := 97) (N := 10) X (ml_c253 hn) a8 b8 v7 dX12_mend_97 (fun σ8 g8 => ?_)
  have hw := hw σ8 g8
  obtain ⟨v9, hw⟩ := hw
  obtain ⟨y9, e9⟩ : ∃ y : Int, y = x3 + 1 := ⟨_, rfl⟩
  have hw := hw y9 e9
  rw [← e9] at v9
  refine ml_iinc (pc := 98) X e9 hl 3 rfl (by decide) (lst' := [(3, .int (Int32.ofInt y9)), (0, .ref (base + (215 : Int).toNat)), (1, .int (Int32.ofInt x1)), (2, .int (Int32.ofInt x2))]) rfl dX12_mend_98 (fun ls hl => ?_)
  refine ml_goto (pc := 101) (tgt := 40) X dX12_mend_101 (by decide) ?_
  exact hK40 σ8 x1 x2 y9 h_x1 h_x2 v9 _ (lv_sub hl [1, 2, 3, 0] rfl) hw
set_option maxRecDepth 100000 in
set_option maxHeartbeats 4000000 in
theorem u_X12_mend_40 {p : Program} {e : Env} {s : State} {m : MethodId} {args : Array Value} {below : List Frame} {meth : Method} {c : Code} {base : Nat} {D : va_G} {cA : Nat → ClassId} {n : Nat} {l : Launch} {Q : Int → ml_St → Prop} {K104 : ml_St → Int → Prop} (X : ml_X p s m c meth args D cA cX12_mend 5 RX12 (some .int)) (hn : 256 ≤ n) (hK104 : ∀ (σ : ml_St) (x2 : Int) (h_x2 : I32 x2) (ls : Array Slot), lv_has ls 5 [(0, .ref (base + (215 : Int).toNat)), (2, .int (Int32.ofInt x2))] → K104 σ x2 → ml_V p l e rm_X12_mend s m args below meth c (MQ below (ml_Qi I32 base D cA n Q) args s 0 0 (ml_A base)) base D cA 0 0 n n σ (F0 m 104 ls [])) : ∀ (N : Nat) (σ : ml_St) (x1 : Int) (x2 : Int) (x3 : Int) (h_x1 : I32 x1) (h_x2 : I32 x2) (h_x3 : I32 x3) (ls : Array Slot), lv_has ls 5 [(0, .ref (base + (215 : Int).toNat)), (1, .int (Int32.ofInt x1)), (2, .int (Int32.ofInt x2)), (3, .int (Int32.ofInt x3))] → f_X12_mend_u40 Q K104 N σ x1 x2 x3 → ml_V p l e rm_X12_mend s m args below meth c (MQ below (ml_Qi I32 base D cA n Q) args s 0 0 (ml_A base)) base D cA 0 0 n n σ (F0 m 40 ls []) := by
  intro N
  induction N with
  | zero => intro σ x1 x2 x3 h_x1 h_x2 h_x3 ls hl hw; exact False.elim hw
  | succ N ih =>
    intro σ x1 x2 x3 h_x1 h_x2 h_x3 ls hl hw
    unfold f_X12_mend_u40 at hw
    refine ml_iload_n (pc := 40) X hl 3 rfl rfl dX12_mend_40 ?_
    refine ml_iload_n (pc := 41) X hl 2 rfl rfl dX12_mend_41 ?_
    refine ml_icmp_ge (pc := 42) (tgt := 104) X h_x3 h_x2 dX12_mend_42 (by decide) (fun c1 => ?_) (fun c1 => ?_)
    · have hw := hw.1 c1
      exact hK104 σ x2 h_x2 _ (lv_sub hl [0, 2] rfl) hw
    · have hw := hw.2 c1
      refine ml_aload_n (pc := 45) X hl 0 rfl rfl dX12_mend_45 ?_
      refine gf_X12_125 (pc := 46) X (ml_c215 hn) dX12_mend_46 ?_
      refine ml_iload_n (pc := 49) X hl 3 rfl rfl dX12_mend_49 ?_
      refine ml_aload_n (pc := 50) X hl 0 rfl rfl dX12_mend_50 ?_
      refine gf_X12_21 (pc := 51) X (ml_c215 hn) dX12_mend_51 ?_
      refine ml_bipush (pc := 54) X dX12_mend_54 (by decide) ?_
      refine ml_iload_n (pc := 56) X hl 1 rfl rfl dX12_mend_56 ?_
      obtain ⟨v2, hw⟩ := hw
      refine ml_imul (pc := 57) X dX12_mend_57 ?_
      refine ml_iconst (pc := 58) X dX12_mend_58 ?_
      refine ml_iload_n (pc := 59) X hl 3 rfl rfl dX12_mend_59 ?_
      obtain ⟨v3, hw⟩ := hw
      refine ml_imul (pc := 60) X dX12_mend_60 ?_
      obtain ⟨v4, hw⟩ := hw
      refine ml_iadd (pc := 61) X dX12_mend_61 ?_
      obtain ⟨a5, b5, hw⟩ := hw
      refine ml_bald (pc := 62) (N := 1600) X (ml_c218 hn) a5 b5 dX12_mend_62 (fun r5 => ?_)
      have hw := hw r5
      refine ml_bipush (pc := 63) X dX12_mend_63 (by decide) ?_
      refine ml_icmp_ne (pc := 65) (tgt := 72) X r5.i ⟨by decide, by decide⟩ dX12_mend_65 (by decide) (fun c6 => ?_) (fun c6 => ?_)
      · have hw := hw.1 c6
        refine ml_iconst (pc := 72) X dX12_mend_72 ?_
        exact u_X12_mend_73 X hn ih σ x1 x2 x3 x3 0 h_x1 h_x2 h_x3 h_x3 ⟨by decide, by decide⟩ _ (lv_sub hl [0, 1, 2, 3] rfl) hw
      · have hw := hw.2 c6
        refine ml_iconst (pc := 68) X dX12_mend_68 ?_
        refine ml_goto (pc := 69) (tgt := 73) X dX12_mend_69 (by decide) ?_
        exact u_X12_mend_73 X hn ih σ x1 x2 x3 x3 1 h_x1 h_x2 h_x3 h_x3 ⟨by decide, by decide⟩ _ (lv_sub hl [0, 1, 2, 3] rfl) hw
set_option maxRecDepth 100000 in
set_option maxHeartbeats 4000000 in
theorem u_X12_mend_147 {p : Program} {e : Env} {s : State} {m : MethodId} {args : Array Value} {below : List Frame} {meth : Method} {c : Code} {base : Nat} {D : va_G} {cA : Nat → ClassId} {n : Nat} {l : Launch} {Q : Int → ml_St → Prop} {K110 : ml_St → Int → Int → Int → Prop} (X : ml_X p s m c meth args D cA cX12_mend 5 RX12 (some .int)) (hn : 256 ≤ n) (hK110 : ∀ (σ : ml_St) (x2 : Int) (x3 : Int) (x4 : Int) (h_x2 : I32 x2) (h_x3 : I32 x3) (h_x4 : I32 x4) (ls : Array Slot), lv_has ls 5 [(0, .ref (base + (215 : Int).toNat)), (2, .int (Int32.ofInt x2)), (3, .int (Int32.ofInt x3)), (4, .int (Int32.ofInt x4))] → K110 σ x2 x3 x4 → ml_V p l e rm_X12_mend s m args below meth c (MQ below (ml_Qi I32 base D cA n Q) args s 0 0 (ml_A base)) base D cA 0 0 n n σ (F0 m 110 ls [])) (σ : ml_St) (x2 : Int) (x3 : Int) (x4 : Int) (h_x2 : I32 x2) (h_x3 : I32 x3) (h_x4 : I32 x4) (ls : Array Slot) (hl : lv_has ls 5 [(0, .ref (base + (215 : Int).toNat)), (2, .int (Int32.ofInt x2)), (3, .int (Int32.ofInt x3)), (4, .int (Int32.ofInt x4))]) (hw : f_X12_mend_u147 Q K110 σ x2 x3 x4) : ml_V p l e rm_X12_mend s m args below meth c (MQ below (ml_Qi I32 base D cA n Q) args s 0 0 (ml_A base)) base D cA 0 0 n n σ (F0 m 147 ls []) := by
  unfold f_X12_mend_u147 at hw
  obtain ⟨v1, hw⟩ := hw
  obtain ⟨y1, e1⟩ : ∃ y : Int, y = x4 + 1 := ⟨_, rfl⟩
  have hw := hw y1 e1
  rw [← e1] at v1
  refine ml_iinc (pc := 147) X e1 hl 3 rfl (by decide) (lst' := [(4, .int (Int32.ofInt y1)), (0, .ref (base + (215 : Int).toNat)), (2, .int (Int32.ofInt x2)), (3, .int (Int32.ofInt x3))]) rfl dX12_mend_147 (fun ls hl => ?_)
  refine ml_goto (pc := 150) (tgt := 110) X dX12_mend_150 (by decide) ?_
  exact hK110 σ x2 x3 y1 h_x2 h_x3 v1 _ (lv_sub hl [1, 2, 3, 0] rfl) hw
set_option maxRecDepth 100000 in
set_option maxHeartbeats 4000000 in
theorem u_X12_mend_134 {p : Program} {e : Env} {s : State} {m : MethodId} {args : Array Value} {below : List Frame} {meth : Method} {c : Code} {base : Nat} {D : va_G} {cA : Nat → ClassId} {n : Nat} {l : Launch} {Q : Int → ml_St → Prop} {K110 : ml_St → Int → Int → Int → Prop} (X : ml_X p s m c meth args D cA cX12_mend 5 RX12 (some .int)) (hn : 256 ≤ n) (hK110 : ∀ (σ : ml_St) (x2 : Int) (x3 : Int) (x4 : Int) (h_x2 : I32 x2) (h_x3 : I32 x3) (h_x4 : I32 x4) (ls : Array Slot), lv_has ls 5 [(0, .ref (base + (215 : Int).toNat)), (2, .int (Int32.ofInt x2)), (3, .int (Int32.ofInt x3)), (4, .int (Int32.ofInt x4))] → K110 σ x2 x3 x4 → ml_V p l e rm_X12_mend s m args below meth c (MQ below (ml_Qi I32 base D cA n Q) args s 0 0 (ml_A base)) base D cA 0 0 n n σ (F0 m 110 ls [])) (σ : ml_St) (x2 : Int) (x3 : Int) (x4 : Int) (h_x2 : I32 x2) (h_x3 : I32 x3) (h_x4 : I32 x4) (ls : Array Slot) (hl : lv_has ls 5 [(0, .ref (base + (215 : Int).toNat)), (2, .int (Int32.ofInt x2)), (3, .int (Int32.ofInt x3)), (4, .int (Int32.ofInt x4))]) (hw : f_X12_mend_u134 Q K110 σ x2 x3 x4) : ml_V p l e rm_X12_mend s m args below meth c (MQ below (ml_Qi I32 base D cA n Q) args s 0 0 (ml_A base)) base D cA 0 0 n n σ (F0 m 134 ls []) := by
  unfold f_X12_mend_u134 at hw
  refine ml_aload_n (pc := 134) X hl 0 rfl rfl dX12_mend_134 ?_
  refine ml_iload_n (pc := 135) X hl 1 rfl rfl dX12_mend_135 ?_
  refine ml_iload (pc := 136) X hl 3 rfl dX12_mend_136 ?_
  refine ml_callzV (pc := 138) (rest := []) X [.int (Int32.ofInt x2), .int (Int32.ofInt x4)] (by decide) rfl (ml_c215 hn) (c_X12_isOne l base D cA n hn σ x2 x4 h_x2 h_x4 _ hw) cv_X12_410 ⟨rfl, rfl⟩ ⟨by decide, by decide⟩ rfl rfl hl (Nat.le_of_ble_eq_true rfl) ⟨Nat.zero_le _, Nat.zero_le _⟩ dX12_mend_138 (fun r1 σ1 t1 hw => ?_)
  have hw := hw t1
  refine ml_if_eq (pc := 141) (tgt := 147) X t1.i dX12_mend_141 (by decide) (fun c2 => ?_) (fun c2 => ?_)
  · have hw := hw.1 c2
    exact u_X12_mend_147 X hn hK110 σ1 x2 x3 x4 h_x2 h_x3 h_x4 _ (lv_sub hl [0, 1, 2, 3] rfl) hw
  · have hw := hw.2 c2
    refine ml_iload (pc := 144) X hl 3 rfl dX12_mend_144 ?_
    refine ml_istore_n (pc := 146) X rfl hl (by decide) (lst' := [(3, .int (Int32.ofInt x4)), (0, .ref (base + (215 : Int).toNat)), (2, .int (Int32.ofInt x2)), (4, .int (Int32.ofInt x4))]) rfl dX12_mend_146 (fun ls hl => ?_)
    exact u_X12_mend_147 X hn hK110 σ1 x2 x4 x4 h_x2 h_x4 h_x4 _ (lv_sub hl [1, 2, 0, 3] rfl) hw
set_option maxRecDepth 100000 in
set_option maxHeartbeats 4000000 in
theorem u_X12_mend_110 {p : Program} {e : Env} {s : State} {m : MethodId} {args : Array Value} {below : List Frame} {meth : Method} {c : Code} {base : Nat} {D : va_G} {cA : Nat → ClassId} {n : Nat} {l : Launch} {Q : Int → ml_St → Prop} {K153 : ml_St → Int → Prop} (X : ml_X p s m c meth args D cA cX12_mend 5 RX12 (some .int)) (hn : 256 ≤ n) (hK153 : ∀ (σ : ml_St) (x3 : Int) (h_x3 : I32 x3) (ls : Array Slot), lv_has ls 5 [(3, .int (Int32.ofInt x3))] → K153 σ x3 → ml_V p l e rm_X12_mend s m args below meth c (MQ below (ml_Qi I32 base D cA n Q) args s 0 0 (ml_A base)) base D cA 0 0 n n σ (F0 m 153 ls [])) : ∀ (N : Nat) (σ : ml_St) (x2 : Int) (x3 : Int) (x4 : Int) (h_x2 : I32 x2) (h_x3 : I32 x3) (h_x4 : I32 x4) (ls : Array Slot), lv_has ls 5 [(0, .ref (base + (215 : Int).toNat)), (2, .int (Int32.ofInt x2)), (3, .int (Int32.ofInt x3)), (4, .int (Int32.ofInt x4))] → f_X12_mend_u110 Q K153 N σ x2 x3 x4 → ml_V p l e rm_X12_mend s m args below meth c (MQ below (ml_Qi I32 base D cA n Q) args s 0 0 (ml_A base)) base D cA 0 0 n n σ (F0 m 110 ls []) := by
  intro N
  induction N with
  | zero => intro σ x2 x3 x4 h_x2 h_x3 h_x4 ls hl hw; exact False.elim hw
  | succ N ih =>
    intro σ x2 x3 x4 h_x2 h_x3 h_x4 ls hl hw
    unfold f_X12_mend_u110 at hw
    refine ml_iload (pc := 110) X hl 3 rfl dX12_mend_110 ?_
    refine ml_iconst (pc := 112) X dX12_mend_112 ?_
    refine ml_iload_n (pc := 113) X hl 1 rfl rfl dX12_mend_113 ?_
    refine ml_ishl (pc := 114) X dX12_mend_114 ?_
    refine ml_icmp_ge (pc := 115) (tgt := 153) X h_x4 (b_shl_r _ _) dX12_mend_115 (by decide) (fun c1 => ?_) (fun c1 => ?_)
    · have hw := hw.1 c1
      exact hK153 σ x3 h_x3 _ (lv_sub hl [2] rfl) hw
    · have hw := hw.2 c1
      refine ml_iload_n (pc := 118) X hl 2 rfl rfl dX12_mend_118 ?_
      refine ml_if_lt (pc := 119) (tgt := 134) X h_x3 dX12_mend_119 (by decide) (fun c2 => ?_) (fun c2 => ?_)
      · have hw := hw.1 c2
        exact u_X12_mend_134 X hn ih σ x2 x3 x4 h_x2 h_x3 h_x4 _ (lv_sub hl [0, 1, 2, 3] rfl) hw
      · have hw := hw.2 c2
        refine ml_iload (pc := 122) X hl 3 rfl dX12_mend_122 ?_
        refine ml_calliS (pc := 124) (rest := []) X [.int (Int32.ofInt x4)] (c_X12_sizeOf l base D cA n hn σ x4 h_x4 _ hw) cv_X12_407 ⟨rfl, rfl⟩ ⟨by decide, by decide⟩ rfl rfl hl (Nat.le_of_ble_eq_true rfl) ⟨Nat.zero_le _, Nat.zero_le _⟩ dX12_mend_124 (fun r3 σ3 t3 hw => ?_)
        have hw := hw t3
        refine ml_iload_n (pc := 127) X hl 2 rfl rfl dX12_mend_127 ?_
        refine ml_calliS (pc := 128) (rest := [.int (Int32.ofInt r3)]) X [.int (Int32.ofInt x3)] (c_X12_sizeOf l base D cA n hn σ3 x3 h_x3 _ hw) cv_X12_407 ⟨rfl, rfl⟩ ⟨by decide, by decide⟩ rfl rfl hl (Nat.le_of_ble_eq_true rfl) ⟨Nat.zero_le _, Nat.zero_le _⟩ dX12_mend_128 (fun r4 σ4 t4 hw => ?_)
        have hw := hw t4
        refine ml_icmp_ge (pc := 131) (tgt := 147) X t3 t4 dX12_mend_131 (by decide) (fun c5 => ?_) (fun c5 => ?_)
        · have hw := hw.1 c5
          exact u_X12_mend_147 X hn ih σ4 x2 x3 x4 h_x2 h_x3 h_x4 _ (lv_sub hl [0, 1, 2, 3] rfl) hw
        · have hw := hw.2 c5
          exact u_X12_mend_134 X hn ih σ4 x2 x3 x4 h_x2 h_x3 h_x4 _ (lv_sub hl [0, 1, 2, 3] rfl) hw
set_option maxRecDepth 100000 in
set_option maxHeartbeats 4000000 in
theorem u_X12_mend_153 {p : Program} {e : Env} {s : State} {m : MethodId} {args : Array Value} {below : List Frame} {meth : Method} {c : Code} {base : Nat} {D : va_G} {cA : Nat → ClassId} {n : Nat} {l : Launch} {Q : Int → ml_St → Prop} (X : ml_X p s m c meth args D cA cX12_mend 5 RX12 (some .int)) (hn : 256 ≤ n) (σ : ml_St) (x3 : Int) (h_x3 : I32 x3) (ls : Array Slot) (hl : lv_has ls 5 [(3, .int (Int32.ofInt x3))]) (hw : f_X12_mend_u153 Q σ x3) : ml_V p l e rm_X12_mend s m args below meth c (MQ below (ml_Qi I32 base D cA n Q) args s 0 0 (ml_A base)) base D cA 0 0 n n σ (F0 m 153 ls []) := by
  unfold f_X12_mend_u153 at hw
  refine ml_iload_n (pc := 153) X hl 0 rfl rfl dX12_mend_153 ?_
  exact ml_iret (pc := 154) X h_x3 hw dX12_mend_154
set_option maxRecDepth 100000 in
set_option maxHeartbeats 4000000 in
theorem u_X12_mend_104 {p : Program} {e : Env} {s : State} {m : MethodId} {args : Array Value} {below : List Frame} {meth : Method} {c : Code} {base : Nat} {D : va_G} {cA : Nat → ClassId} {n : Nat} {l : Launch} {Q : Int → ml_St → Prop} (X : ml_X p s m c meth args D cA cX12_mend 5 RX12 (some .int)) (hn : 256 ≤ n) (σ : ml_St) (x2 : Int) (h_x2 : I32 x2) (ls : Array Slot) (hl : lv_has ls 5 [(0, .ref (base + (215 : Int).toNat)), (2, .int (Int32.ofInt x2))]) (hw : f_X12_mend_u104 Q σ x2) : ml_V p l e rm_X12_mend s m args below meth c (MQ below (ml_Qi I32 base D cA n Q) args s 0 0 (ml_A base)) base D cA 0 0 n n σ (F0 m 104 ls []) := by
  unfold f_X12_mend_u104 at hw
  refine ml_bipush (pc := 104) X dX12_mend_104 (by decide) ?_
  refine ml_istore_n (pc := 106) X rfl hl (by decide) (lst' := [(3, .int (Int32.ofInt (-2))), (0, .ref (base + (215 : Int).toNat)), (2, .int (Int32.ofInt x2))]) rfl dX12_mend_106 (fun ls hl => ?_)
  refine ml_iconst (pc := 107) X dX12_mend_107 ?_
  refine ml_istore (pc := 108) X hl (by decide) (lst' := [(4, .int (Int32.ofInt 0)), (3, .int (Int32.ofInt (-2))), (0, .ref (base + (215 : Int).toNat)), (2, .int (Int32.ofInt x2))]) rfl dX12_mend_108 (fun ls hl => ?_)
  obtain ⟨N0, hw⟩ := hw
  exact u_X12_mend_110 X hn (fun σ x3 h_x3 ls hl hw => u_X12_mend_153 X hn σ x3 h_x3 ls hl hw) N0 σ x2 (-2) 0 h_x2 ⟨by decide, by decide⟩ ⟨by decide, by decide⟩ _ (lv_sub hl [2, 3, 1, 0] rfl) hw
set_option maxRecDepth 100000 in
set_option maxHeartbeats 4000000 in
theorem u_X12_mend_0 {p : Program} {e : Env} {s : State} {m : MethodId} {args : Array Value} {below : List Frame} {meth : Method} {c : Code} {base : Nat} {D : va_G} {cA : Nat → ClassId} {n : Nat} {l : Launch} {Q : Int → ml_St → Prop} (X : ml_X p s m c meth args D cA cX12_mend 5 RX12 (some .int)) (hn : 256 ≤ n) (σ : ml_St) (x1 : Int) (h_x1 : I32 x1) (ls : Array Slot) (hl : lv_has ls 5 [(0, .ref (base + (215 : Int).toNat)), (1, .int (Int32.ofInt x1))]) (hw : f_X12_mend_u0 Q σ x1) : ml_V p l e rm_X12_mend s m args below meth c (MQ below (ml_Qi I32 base D cA n Q) args s 0 0 (ml_A base)) base D cA 0 0 n n σ (F0 m 0 ls []) := by
  unfold f_X12_mend_u0 at hw
  refine ml_aload_n (pc := 0) X hl 0 rfl rfl dX12_mend_0 ?_
  refine ml_iload_n (pc := 1) X hl 1 rfl rfl dX12_mend_1 ?_
  refine ml_callzV (pc := 2) (rest := []) X [.int (Int32.ofInt x1)] (by decide) rfl (ml_c215 hn) (c_X12_isWord l base D cA n hn σ x1 h_x1 _ hw) cv_X12_287 ⟨rfl, rfl⟩ ⟨by decide, by decide⟩ rfl rfl hl (Nat.le_of_ble_eq_true rfl) ⟨Nat.zero_le _, Nat.zero_le _⟩ dX12_mend_2 (fun r1 σ1 t1 hw => ?_)
  have hw := hw t1
  refine ml_if_eq (pc := 5) (tgt := 27) X t1.i dX12_mend_5 (by decide) (fun c2 => ?_) (fun c2 => ?_)
  · have hw := hw.1 c2
    exact u_X12_mend_27 X hn σ1   _ (lv_sub hl [] rfl) hw
  · have hw := hw.2 c2
    refine ml_aload_n (pc := 8) X hl 0 rfl rfl dX12_mend_8 ?_
    refine ml_iload_n (pc := 9) X hl 1 rfl rfl dX12_mend_9 ?_
    refine ml_callzV (pc := 10) (rest := []) X [.int (Int32.ofInt x1)] (by decide) rfl (ml_c215 hn) (c_X12_isPlain l base D cA n hn σ1 x1 h_x1 _ hw) cv_X12_358 ⟨rfl, rfl⟩ ⟨by decide, by decide⟩ rfl rfl hl (Nat.le_of_ble_eq_true rfl) ⟨Nat.zero_le _, Nat.zero_le _⟩ dX12_mend_10 (fun r3 σ3 t3 hw => ?_)
    have hw := hw t3
    refine ml_if_eq (pc := 13) (tgt := 27) X t3.i dX12_mend_13 (by decide) (fun c4 => ?_) (fun c4 => ?_)
    · have hw := hw.1 c4
      exact u_X12_mend_27 X hn σ3   _ (lv_sub hl [] rfl) hw
    · have hw := hw.2 c4
      refine ml_aload_n (pc := 16) X hl 0 rfl rfl dX12_mend_16 ?_
      refine gf_X12_24 (pc := 17) X (ml_c215 hn) dX12_mend_17 ?_
      refine ml_iload_n (pc := 20) X hl 1 rfl rfl dX12_mend_20 ?_
      obtain ⟨a5, b5, hw⟩ := hw
      refine ml_iald (pc := 21) (N := 16) X (ml_c219 hn) a5 b5 dX12_mend_21 (fun r5 => ?_)
      have hw := hw r5
      refine ml_bipush (pc := 22) X dX12_mend_22 (by decide) ?_
      refine ml_icmp_le (pc := 24) (tgt := 29) X r5 ⟨by decide, by decide⟩ dX12_mend_24 (by decide) (fun c6 => ?_) (fun c6 => ?_)
      · have hw := hw.1 c6
        refine ml_aload_n (pc := 29) X hl 0 rfl rfl dX12_mend_29 ?_
        refine gf_X12_24 (pc := 30) X (ml_c215 hn) dX12_mend_30 ?_
        refine ml_iload_n (pc := 33) X hl 1 rfl rfl dX12_mend_33 ?_
        obtain ⟨a7, b7, hw⟩ := hw
        refine ml_iald (pc := 34) (N := 16) X (ml_c219 hn) a7 b7 dX12_mend_34 (fun r7 => ?_)
        have hw := hw r7
        refine ml_iconst (pc := 35) X dX12_mend_35 ?_
        obtain ⟨z8, v8, hw⟩ := hw
        refine ml_idiv (pc := 36) X r7 ⟨by decide, by decide⟩ z8 dX12_mend_36 ?_
        refine ml_topI (pc := 37) (fun y9 e9 => ?_)
        have hw := hw y9 e9
        have q9 : I32 y9 := by rw [e9]; exact v8
        refine ml_istore_n (pc := 37) X rfl hl (by decide) (lst' := [(2, .int (Int32.ofInt y9)), (0, .ref (base + (215 : Int).toNat)), (1, .int (Int32.ofInt x1))]) rfl dX12_mend_37 (fun ls hl => ?_)
        refine ml_iconst (pc := 38) X dX12_mend_38 ?_
        refine ml_istore_n (pc := 39) X rfl hl (by decide) (lst' := [(3, .int (Int32.ofInt 0)), (2, .int (Int32.ofInt y9)), (0, .ref (base + (215 : Int).toNat)), (1, .int (Int32.ofInt x1))]) rfl dX12_mend_39 (fun ls hl => ?_)
        obtain ⟨N0, hw⟩ := hw
        exact u_X12_mend_40 X hn (fun σ x2 h_x2 ls hl hw => u_X12_mend_104 X hn σ x2 h_x2 ls hl hw) N0 σ3 x1 y9 0 h_x1 q9 ⟨by decide, by decide⟩ _ (lv_sub hl [2, 3, 1, 0] rfl) hw
      · have hw := hw.2 c6
        exact u_X12_mend_27 X hn σ3   _ (lv_sub hl [] rfl) hw
set_option maxRecDepth 100000 in
theorem c_X12_mend (l : Launch) (base : Nat) (D : va_G) (cA : Nat → ClassId) (n : Nat) (hn : 256 ≤ n) (σ : ml_St) (x1 : Int) (h_x1 : I32 x1) (Q : Int → ml_St → Prop) (hw : f_X12_mend σ x1 Q) : Met l yX12_mend (Cond.code yX12_mend cX12_mend 5 (some .int) :: ml_T) rm_X12_mend (va_Pc [.ref (base + (215 : Int).toNat), .int (Int32.ofInt x1)] (ml_U base D cA n σ)) (ml_Qi I32 base D cA n Q) 0 0 (ml_A base) := by
  refine Met.ofW (cc := cX12_mend) (maxL := 5) (ret := (some .int)) (by decide) rfl ?_
  intro p e s m args below meth c s₁ B hml hv
  obtain ⟨rfl, hP, hK, hok, hro⟩ := hv
  have X : ml_X p s m c meth _ D cA cX12_mend 5 RX12 (some .int) := ⟨B.exec, B.bytes, hml, findClass_of_methodNamed B.named, fun w hw => atoms_spec (ws := Cond.code yX12_mend cX12_mend 5 (some .int) :: ml_T) B.pre w (List.mem_cons_of_mem _ hw), hK, B.notSynchronized, B.returns⟩
  have hl := lv_entry [.ref (base + (215 : Int).toNat), .int (Int32.ofInt x1)] (n := 5) (Nat.le_of_ble_eq_true rfl)
  rw [lg_entry_eq]
  generalize (lg_sl [.ref (base + (215 : Int).toNat), .int (Int32.ofInt x1)] ++ List.replicate (5 - (lg_sl [.ref (base + (215 : Int).toNat), .int (Int32.ofInt x1)]).length) Slot.unset).toArray = ls at hl ⊢
  have hl : lv_has ls 5 [(0, .ref (base + (215 : Int).toNat)), (1, .int (Int32.ofInt x1))] := hl
  unfold f_X12_mend at hw
  exact u_X12_mend_0 X hn σ x1 h_x1 _ (lv_sub hl [0, 1] rfl) hw s.heap [] hP va_S.rf hok hro
theorem dX12_numberAt_0 : decode cX12_numberAt 0 = .ok (.iconst 0, 1) := by decide +kernel
theorem dX12_numberAt_1 : decode cX12_numberAt 1 = .ok (.istore_n 2, 1) := by decide +kernel
theorem dX12_numberAt_2 : decode cX12_numberAt 2 = .ok (.iconst 0, 1) := by decide +kernel
theorem dX12_numberAt_3 : decode cX12_numberAt 3 = .ok (.istore_n 3, 1) := by decide +kernel
theorem dX12_numberAt_4 : decode cX12_numberAt 4 = .ok (.iload_n 3, 1) := by decide +kernel
theorem dX12_numberAt_5 : decode cX12_numberAt 5 = .ok (.iconst 4, 1) := by decide +kernel
theorem dX12_numberAt_6 : decode cX12_numberAt 6 = .ok (.if_icmp .ge 29, 3) := by decide +kernel
theorem dX12_numberAt_9 : decode cX12_numberAt 9 = .ok (.iload_n 2, 1) := by decide +kernel
theorem dX12_numberAt_10 : decode cX12_numberAt 10 = .ok (.bipush 8, 2) := by decide +kernel
theorem dX12_numberAt_12 : decode cX12_numberAt 12 = .ok (.ishl, 1) := by decide +kernel
theorem dX12_numberAt_13 : decode cX12_numberAt 13 = .ok (.aload_n 0, 1) := by decide +kernel
theorem dX12_numberAt_14 : decode cX12_numberAt 14 = .ok (.getfield 7, 3) := by decide +kernel
theorem dX12_numberAt_17 : decode cX12_numberAt 17 = .ok (.iconst 4, 1) := by decide +kernel
theorem dX12_numberAt_18 : decode cX12_numberAt 18 = .ok (.iload_n 1, 1) := by decide +kernel
theorem dX12_numberAt_19 : decode cX12_numberAt 19 = .ok (.imul, 1) := by decide +kernel
theorem dX12_numberAt_20 : decode cX12_numberAt 20 = .ok (.iload_n 3, 1) := by decide +kernel
theorem dX12_numberAt_21 : decode cX12_numberAt 21 = .ok (.iadd, 1) := by decide +kernel
theorem dX12_numberAt_22 : decode cX12_numberAt 22 = .ok (.baload, 1) := by decide +kernel
theorem dX12_numberAt_23 : decode cX12_numberAt 23 = .ok (.sipush 255, 3) := by decide +kernel
theorem dX12_numberAt_26 : decode cX12_numberAt 26 = .ok (.iand, 1) := by decide +kernel
theorem dX12_numberAt_27 : decode cX12_numberAt 27 = .ok (.ior, 1) := by decide +kernel
theorem dX12_numberAt_28 : decode cX12_numberAt 28 = .ok (.istore_n 2, 1) := by decide +kernel
theorem dX12_numberAt_29 : decode cX12_numberAt 29 = .ok (.iinc 3 1, 3) := by decide +kernel
theorem dX12_numberAt_32 : decode cX12_numberAt 32 = .ok (.goto (-28), 3) := by decide +kernel
theorem dX12_numberAt_35 : decode cX12_numberAt 35 = .ok (.iload_n 2, 1) := by decide +kernel
theorem dX12_numberAt_36 : decode cX12_numberAt 36 = .ok (.ireturn, 1) := by decide +kernel
def f_X12_numberAt_u4 (Q : Int → ml_St → Prop) (K35 : ml_St → Int → Prop) : Nat → ml_St → Int → Int → Int → Prop
| 0, _, _, _, _ => False
| N + 1, σ, x1, x2, x3 =>
(4 ≤ x3 →
K35 σ x2) ∧
(¬ (4 ≤ x3) →
I32 (4 * x1) ∧
I32 ((4 * x1) + x3) ∧
(0 : Int) ≤ ((4 * x1) + x3) ∧ (((4 * x1) + x3) : Int) < 200 ∧
∀ _ : ml_I8 (σ 216 ((4 * x1) + x3)),
∀ y5 : Int, y5 = b_or (b_shl x2 8) (b_and (σ 216 ((4 * x1) + x3)) 255) →
I32 (x3 + 1) ∧
∀ y6 : Int, y6 = x3 + 1 →
f_X12_numberAt_u4 Q K35 N σ x1 y5 y6)
def f_X12_numberAt_u35 (Q : Int → ml_St → Prop) (σ : ml_St) (x2 : Int) : Prop :=
Q x2 σ
def f_X12_numberAt_u0 (Q : Int → ml_St → Prop) (σ : ml_St) (x1 : Int) : Prop :=
∃ N1, f_X12_numberAt_u4 Q (f_X12_numberAt_u35 Q) N1 σ x1 0 0
def f_X12_numberAt (σ : ml_St) (x1 : Int) (Q : Int → ml_St → Prop) : Prop := f_X12_numberAt_u0 Q σ x1
def rm_X12_numberAt : Room := { frames := 0, cells := 0, slots := 0, locals := 0 }
set_option maxRecDepth 100000 in
set_option maxHeartbeats 4000000 in
theorem u_X12_numberAt_4 {p : Program} {e : Env} {s : State} {m : MethodId} {args : Array Value} {below : List Frame} {meth : Method} {c : Code} {base : Nat} {D : va_G} {cA : Nat → ClassId} {n : Nat} {l : Launch} {Q : Int → ml_St → Prop} {K35 : ml_St → Int → Prop} (X : ml_X p s m c meth args D cA cX12_numberAt 4 RX12 (some .int)) (hn : 256 ≤ n) (hK35 : ∀ (σ : ml_St) (x2 : Int) (h_x2 : I32 x2) (ls : Array Slot), lv_has ls 4 [(2, .int (Int32.ofInt x2))] → K35 σ x2 → ml_V p l e rm_X12_numberAt s m args below meth c (MQ below (ml_Qi I32 base D cA n Q) args s 0 0 (ml_A base)) base D cA 0 0 n n σ (F0 m 35 ls [])) : ∀ (N : Nat) (σ : ml_St) (x1 : Int) (x2 : Int) (x3 : Int) (h_x1 : I32 x1) (h_x2 : I32 x2) (h_x3 : I32 x3) (ls : Array Slot), lv_has ls 4 [(0, .ref (base + (215 : Int).toNat)), (1, .int (Int32.ofInt x1)), (2, .int (Int32.ofInt x2)), (3, .int (Int32.ofInt x3))] → f_X12_numberAt_u4 Q K35 N σ x1 x2 x3 → ml_V p l e rm_X12_numberAt s m args below meth c (MQ below (ml_Qi I32 base D cA n Q) args s 0 0 (ml_A base)) base D cA 0 0 n n σ (F0 m 4 ls []) := by
  intro N
  induction N with
  | zero => intro σ x1 x2 x3 h_x1 h_x2 h_x3 ls hl hw; exact False.elim hw
  | succ N ih =>
    intro σ x1 x2 x3 h_x1 h_x2 h_x3 ls hl hw
    unfold f_X12_numberAt_u4 at hw
    refine ml_iload_n (pc := 4) X hl 3 rfl rfl dX12_numberAt_4 ?_
    refine ml_iconst (pc := 5) X dX12_numberAt_5 ?_
    refine ml_icmp_ge (pc := 6) (tgt := 35) X h_x3 ⟨by decide, by decide⟩ dX12_numberAt_6 (by decide) (fun c1 => ?_) (fun c1 => ?_)
    · have hw := hw.1 c1
      exact hK35 σ x2 h_x2 _ (lv_sub hl [2] rfl) hw
    · have hw := hw.2 c1
      refine ml_iload_n (pc := 9) X hl 2 rfl rfl dX12_numberAt_9 ?_
      refine ml_bipush (pc := 10) X dX12_numberAt_10 (by decide) ?_
      refine ml_ishl (pc := 12) X dX12_numberAt_12 ?_
      refine ml_aload_n (pc := 13) X hl 0 rfl rfl dX12_numberAt_13 ?_
      refine gf_X12_7 (pc := 14) X (ml_c215 hn) dX12_numberAt_14 ?_
      refine ml_iconst (pc := 17) X dX12_numberAt_17 ?_
      refine ml_iload_n (pc := 18) X hl 1 rfl rfl dX12_numberAt_18 ?_
      obtain ⟨v2, hw⟩ := hw
      refine ml_imul (pc := 19) X dX12_numberAt_19 ?_
      refine ml_iload_n (pc := 20) X hl 3 rfl rfl dX12_numberAt_20 ?_
      obtain ⟨v3, hw⟩ := hw
      refine ml_iadd (pc := 21) X dX12_numberAt_21 ?_
      obtain ⟨a4, b4, hw⟩ := hw
      refine ml_bald (pc := 22) (N := 200) X (ml_c216 hn) a4 b4 dX12_numberAt_22 (fun r4 => ?_)
      have hw := hw r4
      refine ml_sipush (pc := 23) X dX12_numberAt_23 (by decide) ?_
      refine ml_iand (pc := 26) X dX12_numberAt_26 ?_
      refine ml_ior (pc := 27) X dX12_numberAt_27 ?_
      refine ml_topI (pc := 28) (fun y5 e5 => ?_)
      have hw := hw y5 e5
      have q5 : I32 y5 := by rw [e5]; exact (b_or_r _ _)
      refine ml_istore_n (pc := 28) X rfl hl (by decide) (lst' := [(2, .int (Int32.ofInt y5)), (0, .ref (base + (215 : Int).toNat)), (1, .int (Int32.ofInt x1)), (3, .int (Int32.ofInt x3))]) rfl dX12_numberAt_28 (fun ls hl => ?_)
      obtain ⟨v6, hw⟩ := hw
      obtain ⟨y6, e6⟩ : ∃ y : Int, y = x3 + 1 := ⟨_, rfl⟩
      have hw := hw y6 e6
      rw [← e6] at v6
      refine ml_iinc (pc := 29) X e6 hl 3 rfl (by decide) (lst' := [(3, .int (Int32.ofInt y6)), (2, .int (Int32.ofInt y5)), (0, .ref (base + (215 : Int).toNat)), (1, .int (Int32.ofInt x1))]) rfl dX12_numberAt_29 (fun ls hl => ?_)
      refine ml_goto (pc := 32) (tgt := 4) X dX12_numberAt_32 (by decide) ?_
      exact ih σ x1 y5 y6 h_x1 q5 v6 _ (lv_sub hl [2, 3, 1, 0] rfl) hw
set_option maxRecDepth 100000 in
set_option maxHeartbeats 4000000 in
theorem u_X12_numberAt_35 {p : Program} {e : Env} {s : State} {m : MethodId} {args : Array Value} {below : List Frame} {meth : Method} {c : Code} {base : Nat} {D : va_G} {cA : Nat → ClassId} {n : Nat} {l : Launch} {Q : Int → ml_St → Prop} (X : ml_X p s m c meth args D cA cX12_numberAt 4 RX12 (some .int)) (hn : 256 ≤ n) (σ : ml_St) (x2 : Int) (h_x2 : I32 x2) (ls : Array Slot) (hl : lv_has ls 4 [(2, .int (Int32.ofInt x2))]) (hw : f_X12_numberAt_u35 Q σ x2) : ml_V p l e rm_X12_numberAt s m args below meth c (MQ below (ml_Qi I32 base D cA n Q) args s 0 0 (ml_A base)) base D cA 0 0 n n σ (F0 m 35 ls []) := by
  unfold f_X12_numberAt_u35 at hw
  refine ml_iload_n (pc := 35) X hl 0 rfl rfl dX12_numberAt_35 ?_
  exact ml_iret (pc := 36) X h_x2 hw dX12_numberAt_36
set_option maxRecDepth 100000 in
set_option maxHeartbeats 4000000 in
theorem u_X12_numberAt_0 {p : Program} {e : Env} {s : State} {m : MethodId} {args : Array Value} {below : List Frame} {meth : Method} {c : Code} {base : Nat} {D : va_G} {cA : Nat → ClassId} {n : Nat} {l : Launch} {Q : Int → ml_St → Prop} (X : ml_X p s m c meth args D cA cX12_numberAt 4 RX12 (some .int)) (hn : 256 ≤ n) (σ : ml_St) (x1 : Int) (h_x1 : I32 x1) (ls : Array Slot) (hl : lv_has ls 4 [(0, .ref (base + (215 : Int).toNat)), (1, .int (Int32.ofInt x1))]) (hw : f_X12_numberAt_u0 Q σ x1) : ml_V p l e rm_X12_numberAt s m args below meth c (MQ below (ml_Qi I32 base D cA n Q) args s 0 0 (ml_A base)) base D cA 0 0 n n σ (F0 m 0 ls []) := by
  unfold f_X12_numberAt_u0 at hw
  refine ml_iconst (pc := 0) X dX12_numberAt_0 ?_
  refine ml_istore_n (pc := 1) X rfl hl (by decide) (lst' := [(2, .int (Int32.ofInt 0)), (0, .ref (base + (215 : Int).toNat)), (1, .int (Int32.ofInt x1))]) rfl dX12_numberAt_1 (fun ls hl => ?_)
  refine ml_iconst (pc := 2) X dX12_numberAt_2 ?_
  refine ml_istore_n (pc := 3) X rfl hl (by decide) (lst' := [(3, .int (Int32.ofInt 0)), (2, .int (Int32.ofInt 0)), (0, .ref (base + (215 : Int).toNat)), (1, .int (Int32.ofInt x1))]) rfl dX12_numberAt_3 (fun ls hl => ?_)
  obtain ⟨N0, hw⟩ := hw
  exact u_X12_numberAt_4 X hn (fun σ x2 h_x2 ls hl hw => u_X12_numberAt_35 X hn σ x2 h_x2 ls hl hw) N0 σ x1 0 0 h_x1 ⟨by decide, by decide⟩ ⟨by decide, by decide⟩ _ (lv_sub hl [2, 3, 1, 0] rfl) hw
set_option maxRecDepth 100000 in
theorem c_X12_numberAt (l : Launch) (base : Nat) (D : va_G) (cA : Nat → ClassId) (n : Nat) (hn : 256 ≤ n) (σ : ml_St) (x1 : Int) (h_x1 : I32 x1) (Q : Int → ml_St → Prop) (hw : f_X12_numberAt σ x1 Q) : Met l yX12_numberAt (Cond.code yX12_numberAt cX12_numberAt 4 (some .int) :: ml_T) rm_X12_numberAt (va_Pc [.ref (base + (215 : Int).toNat), .int (Int32.ofInt x1)] (ml_U base D cA n σ)) (ml_Qi I32 base D cA n Q) 0 0 (ml_A base) := by
  refine Met.ofW (cc := cX12_numberAt) (maxL := 4) (ret := (some .int)) (by decide) rfl ?_
  intro p e s m args below meth c s₁ B hml hv
  obtain ⟨rfl, hP, hK, hok, hro⟩ := hv
  have X : ml_X p s m c meth _ D cA cX12_numberAt 4 RX12 (some .int) := ⟨B.exec, B.bytes, hml, findClass_of_methodNamed B.named, fun w hw => atoms_spec (ws := Cond.code yX12_numberAt cX12_numberAt 4 (some .int) :: ml_T) B.pre w (List.mem_cons_of_mem _ hw), hK, B.notSynchronized, B.returns⟩
  have hl := lv_entry [.ref (base + (215 : Int).toNat), .int (Int32.ofInt x1)] (n := 4) (Nat.le_of_ble_eq_true rfl)
  rw [lg_entry_eq]
  generalize (lg_sl [.ref (base + (215 : Int).toNat), .int (Int32.ofInt x1)] ++ List.replicate (4 - (lg_sl [.ref (base + (215 : Int).toNat), .int (Int32.ofInt x1)]).length) Slot.unset).toArray = ls at hl ⊢
  have hl : lv_has ls 4 [(0, .ref (base + (215 : Int).toNat)), (1, .int (Int32.ofInt x1))] := hl
  unfold f_X12_numberAt at hw
  exact u_X12_numberAt_0 X hn σ x1 h_x1 _ (lv_sub hl [0, 1] rfl) hw s.heap [] hP va_S.rf hok hro
theorem dX12_back_0 : decode cX12_back 0 = .ok (.iload_n 1, 1) := by decide +kernel
theorem dX12_back_1 : decode cX12_back 1 = .ok (.i2l, 1) := by decide +kernel
theorem dX12_back_2 : decode cX12_back 2 = .ok (.lconst 1, 1) := by decide +kernel
theorem dX12_back_3 : decode cX12_back 3 = .ok (.ldc2_w 413, 3) := by decide +kernel
theorem dX12_back_6 : decode cX12_back 6 = .ok (.invokestatic 143, 3) := by decide +kernel
theorem dX12_back_9 : decode cX12_back 9 = .ok (.ifCond .eq 13, 3) := by decide +kernel
theorem dX12_back_12 : decode cX12_back 12 = .ok (.iconst 4, 1) := by decide +kernel
theorem dX12_back_13 : decode cX12_back 13 = .ok (.iload_n 1, 1) := by decide +kernel
theorem dX12_back_14 : decode cX12_back 14 = .ok (.imul, 1) := by decide +kernel
theorem dX12_back_15 : decode cX12_back 15 = .ok (.aload_n 0, 1) := by decide +kernel
theorem dX12_back_16 : decode cX12_back 16 = .ok (.getfield 155, 3) := by decide +kernel
theorem dX12_back_19 : decode cX12_back 19 = .ok (.if_icmp .le 5, 3) := by decide +kernel
theorem dX12_back_22 : decode cX12_back 22 = .ok (.iconst (-1), 1) := by decide +kernel
theorem dX12_back_23 : decode cX12_back 23 = .ok (.ireturn, 1) := by decide +kernel
theorem dX12_back_24 : decode cX12_back 24 = .ok (.aload_n 0, 1) := by decide +kernel
theorem dX12_back_25 : decode cX12_back 25 = .ok (.iconst 0, 1) := by decide +kernel
theorem dX12_back_26 : decode cX12_back 26 = .ok (.putfield 155, 3) := by decide +kernel
theorem dX12_back_29 : decode cX12_back 29 = .ok (.iconst 0, 1) := by decide +kernel
theorem dX12_back_30 : decode cX12_back 30 = .ok (.istore_n 2, 1) := by decide +kernel
theorem dX12_back_31 : decode cX12_back 31 = .ok (.iconst 0, 1) := by decide +kernel
theorem dX12_back_32 : decode cX12_back 32 = .ok (.istore_n 3, 1) := by decide +kernel
theorem dX12_back_33 : decode cX12_back 33 = .ok (.iload_n 3, 1) := by decide +kernel
theorem dX12_back_34 : decode cX12_back 34 = .ok (.aload_n 0, 1) := by decide +kernel
theorem dX12_back_35 : decode cX12_back 35 = .ok (.getfield 140, 3) := by decide +kernel
theorem dX12_back_38 : decode cX12_back 38 = .ok (.if_icmp .ge 115, 3) := by decide +kernel
theorem dX12_back_41 : decode cX12_back 41 = .ok (.aload_n 0, 1) := by decide +kernel
theorem dX12_back_42 : decode cX12_back 42 = .ok (.iload_n 3, 1) := by decide +kernel
theorem dX12_back_43 : decode cX12_back 43 = .ok (.invokevirtual 262, 3) := by decide +kernel
theorem dX12_back_46 : decode cX12_back 46 = .ok (.ifCond .eq 6, 3) := by decide +kernel
theorem dX12_back_49 : decode cX12_back 49 = .ok (.goto 98, 3) := by decide +kernel
theorem dX12_back_52 : decode cX12_back 52 = .ok (.iconst 1, 1) := by decide +kernel
theorem dX12_back_53 : decode cX12_back 53 = .ok (.istore 4, 2) := by decide +kernel
theorem dX12_back_55 : decode cX12_back 55 = .ok (.aload_n 0, 1) := by decide +kernel
theorem dX12_back_56 : decode cX12_back 56 = .ok (.iload_n 3, 1) := by decide +kernel
theorem dX12_back_57 : decode cX12_back 57 = .ok (.bipush 60, 2) := by decide +kernel
theorem dX12_back_59 : decode cX12_back 59 = .ok (.invokevirtual 242, 3) := by decide +kernel
theorem dX12_back_62 : decode cX12_back 62 = .ok (.iconst 0, 1) := by decide +kernel
theorem dX12_back_63 : decode cX12_back 63 = .ok (.istore 5, 2) := by decide +kernel
theorem dX12_back_65 : decode cX12_back 65 = .ok (.iload 5, 2) := by decide +kernel
theorem dX12_back_67 : decode cX12_back 67 = .ok (.iload_n 1, 1) := by decide +kernel
theorem dX12_back_68 : decode cX12_back 68 = .ok (.if_icmp .ge 64, 3) := by decide +kernel
theorem dX12_back_71 : decode cX12_back 71 = .ok (.iload 4, 2) := by decide +kernel
theorem dX12_back_73 : decode cX12_back 73 = .ok (.ifCond .eq 33, 3) := by decide +kernel
theorem dX12_back_76 : decode cX12_back 76 = .ok (.aload_n 0, 1) := by decide +kernel
theorem dX12_back_77 : decode cX12_back 77 = .ok (.getfield 55, 3) := by decide +kernel
theorem dX12_back_80 : decode cX12_back 80 = .ok (.bipush 60, 2) := by decide +kernel
theorem dX12_back_82 : decode cX12_back 82 = .ok (.laload, 1) := by decide +kernel
theorem dX12_back_83 : decode cX12_back 83 = .ok (.aload_n 0, 1) := by decide +kernel
theorem dX12_back_84 : decode cX12_back 84 = .ok (.bipush 60, 2) := by decide +kernel
theorem dX12_back_86 : decode cX12_back 86 = .ok (.invokevirtual 302, 3) := by decide +kernel
theorem dX12_back_89 : decode cX12_back 89 = .ok (.i2l, 1) := by decide +kernel
theorem dX12_back_90 : decode cX12_back 90 = .ok (.ladd, 1) := by decide +kernel
theorem dX12_back_91 : decode cX12_back 91 = .ok (.aload_n 0, 1) := by decide +kernel
theorem dX12_back_92 : decode cX12_back 92 = .ok (.iload 5, 2) := by decide +kernel
theorem dX12_back_94 : decode cX12_back 94 = .ok (.invokevirtual 415, 3) := by decide +kernel
theorem dX12_back_97 : decode cX12_back 97 = .ok (.i2l, 1) := by decide +kernel
theorem dX12_back_98 : decode cX12_back 98 = .ok (.lcmp, 1) := by decide +kernel
theorem dX12_back_99 : decode cX12_back 99 = .ok (.ifCond .ne 7, 3) := by decide +kernel
theorem dX12_back_102 : decode cX12_back 102 = .ok (.iconst 1, 1) := by decide +kernel
theorem dX12_back_103 : decode cX12_back 103 = .ok (.goto 4, 3) := by decide +kernel
theorem dX12_back_106 : decode cX12_back 106 = .ok (.iconst 0, 1) := by decide +kernel
theorem dX12_back_107 : decode cX12_back 107 = .ok (.istore 4, 2) := by decide +kernel
theorem dX12_back_109 : decode cX12_back 109 = .ok (.aload_n 0, 1) := by decide +kernel
theorem dX12_back_110 : decode cX12_back 110 = .ok (.bipush 60, 2) := by decide +kernel
theorem dX12_back_112 : decode cX12_back 112 = .ok (.iload_n 3, 1) := by decide +kernel
theorem dX12_back_113 : decode cX12_back 113 = .ok (.bipush 62, 2) := by decide +kernel
theorem dX12_back_115 : decode cX12_back 115 = .ok (.invokevirtual 245, 3) := by decide +kernel
theorem dX12_back_118 : decode cX12_back 118 = .ok (.aload_n 0, 1) := by decide +kernel
theorem dX12_back_119 : decode cX12_back 119 = .ok (.bipush 62, 2) := by decide +kernel
theorem dX12_back_121 : decode cX12_back 121 = .ok (.bipush 60, 2) := by decide +kernel
theorem dX12_back_123 : decode cX12_back 123 = .ok (.invokevirtual 242, 3) := by decide +kernel
theorem dX12_back_126 : decode cX12_back 126 = .ok (.iinc 5 1, 3) := by decide +kernel
theorem dX12_back_129 : decode cX12_back 129 = .ok (.goto (-64), 3) := by decide +kernel
theorem dX12_back_132 : decode cX12_back 132 = .ok (.iload_n 2, 1) := by decide +kernel
theorem dX12_back_133 : decode cX12_back 133 = .ok (.iload 4, 2) := by decide +kernel
theorem dX12_back_135 : decode cX12_back 135 = .ok (.ifCond .eq 9, 3) := by decide +kernel
theorem dX12_back_138 : decode cX12_back 138 = .ok (.iconst 1, 1) := by decide +kernel
theorem dX12_back_139 : decode cX12_back 139 = .ok (.iload_n 3, 1) := by decide +kernel
theorem dX12_back_140 : decode cX12_back 140 = .ok (.ishl, 1) := by decide +kernel
theorem dX12_back_141 : decode cX12_back 141 = .ok (.goto 4, 3) := by decide +kernel
theorem dX12_back_144 : decode cX12_back 144 = .ok (.iconst 0, 1) := by decide +kernel
theorem dX12_back_145 : decode cX12_back 145 = .ok (.ior, 1) := by decide +kernel
theorem dX12_back_146 : decode cX12_back 146 = .ok (.istore_n 2, 1) := by decide +kernel
theorem dX12_back_147 : decode cX12_back 147 = .ok (.iinc 3 1, 3) := by decide +kernel
theorem dX12_back_150 : decode cX12_back 150 = .ok (.goto (-117), 3) := by decide +kernel
theorem dX12_back_153 : decode cX12_back 153 = .ok (.iload_n 2, 1) := by decide +kernel
theorem dX12_back_154 : decode cX12_back 154 = .ok (.ireturn, 1) := by decide +kernel
def f_X12_back_u22 (Q : Int → ml_St → Prop) (σ : ml_St) : Prop :=
Q (-1) σ
def f_X12_back_u107 (Q : Int → ml_St → Prop) (K65 : ml_St → Int → Int → Int → Int → Int → Prop) (σ : ml_St) (x1 : Int) (x2 : Int) (x3 : Int) (x5 : Int) (s0 : Int) : Prop :=
f_X12_lays σ 60 x3 62 (fun σ1 =>
f_X12_copies σ1 62 60 (fun σ2 =>
I32 (x5 + 1) ∧
∀ y3 : Int, y3 = x5 + 1 →
K65 σ2 x1 x2 x3 s0 y3))
def f_X12_back_u106 (Q : Int → ml_St → Prop) (K65 : ml_St → Int → Int → Int → Int → Int → Prop) (σ : ml_St) (x1 : Int) (x2 : Int) (x3 : Int) (x5 : Int) : Prop :=
f_X12_back_u107 Q K65 σ x1 x2 x3 x5 0
def f_X12_back_u65 (Q : Int → ml_St → Prop) (K132 : ml_St → Int → Int → Int → Int → Prop) : Nat → ml_St → Int → Int → Int → Int → Int → Prop
| 0, _, _, _, _, _, _ => False
| N + 1, σ, x1, x2, x3, x4, x5 =>
(x1 ≤ x5 →
K132 σ x1 x2 x3 x4) ∧
(¬ (x1 ≤ x5) →
(x4 = 0 →
f_X12_back_u106 Q (f_X12_back_u65 Q K132 N) σ x1 x2 x3 x5) ∧
(x4 ≠ 0 →
(0 : Int) ≤ 60 ∧ (60 : Int) < 64 ∧
∀ _ : I64 (σ 229 60),
f_X12_closing σ 60 (fun r4 σ4 => ∀ _ : I32 r4,
f_X12_numberAt σ4 x5 (fun r6 σ6 => ∀ _ : I32 r6,
((w64 ((σ 229 60) + r4)) ≠ r6 →
f_X12_back_u106 Q (f_X12_back_u65 Q K132 N) σ6 x1 x2 x3 x5) ∧
((w64 ((σ 229 60) + r4)) = r6 →
f_X12_back_u107 Q (f_X12_back_u65 Q K132 N) σ6 x1 x2 x3 x5 1)))))
def f_X12_back_u147 (Q : Int → ml_St → Prop) (K33 : ml_St → Int → Int → Int → Prop) (σ : ml_St) (x1 : Int) (x2 : Int) (x3 : Int) : Prop :=
I32 (x3 + 1) ∧
∀ y1 : Int, y1 = x3 + 1 →
K33 σ x1 x2 y1
def f_X12_back_u145 (Q : Int → ml_St → Prop) (K33 : ml_St → Int → Int → Int → Prop) (σ : ml_St) (x1 : Int) (x3 : Int) (s0 : Int) (s1 : Int) : Prop :=
∀ y1 : Int, y1 = b_or s0 s1 →
f_X12_back_u147 Q K33 σ x1 y1 x3
def f_X12_back_u132 (Q : Int → ml_St → Prop) (K33 : ml_St → Int → Int → Int → Prop) (σ : ml_St) (x1 : Int) (x2 : Int) (x3 : Int) (x4 : Int) : Prop :=
(x4 = 0 →
f_X12_back_u145 Q K33 σ x1 x3 x2 0) ∧
(x4 ≠ 0 →
f_X12_back_u145 Q K33 σ x1 x3 x2 (b_shl 1 x3))
def f_X12_back_u33 (Q : Int → ml_St → Prop) (K153 : ml_St → Int → Prop) : Nat → ml_St → Int → Int → Int → Prop
| 0, _, _, _, _ => False
| N + 1, σ, x1, x2, x3 =>
∀ _ : I32 (σ 215 3),
((σ 215 3) ≤ x3 →
K153 σ x2) ∧
(¬ ((σ 215 3) ≤ x3) →
f_X12_isTooLong σ x3 (fun r3 σ3 => ∀ _ : ml_B r3,
(r3 = 0 →
f_X12_copies σ3 x3 60 (fun σ5 =>
∃ N1, f_X12_back_u65 Q (f_X12_back_u132 Q (f_X12_back_u33 Q K153 N)) N1 σ5 x1 x2 x3 1 0)) ∧
(r3 ≠ 0 →
f_X12_back_u147 Q (f_X12_back_u33 Q K153 N) σ3 x1 x2 x3)))
def f_X12_back_u153 (Q : Int → ml_St → Prop) (σ : ml_St) (x2 : Int) : Prop :=
Q x2 σ
def f_X12_back_u0 (Q : Int → ml_St → Prop) (σ : ml_St) (x1 : Int) : Prop :=
f_X12_lies σ x1 1 8 (fun r1 σ1 => ∀ _ : ml_B r1,
(r1 = 0 →
f_X12_back_u22 Q σ1) ∧
(r1 ≠ 0 →
I32 (4 * x1) ∧
∀ _ : I32 (σ1 215 1),
(((4 * x1) : Int) ≤ (σ1 215 1) →
∀ σ6, σ6 = ml_up σ1 215 1 0 →
∃ N1, f_X12_back_u33 Q (f_X12_back_u153 Q) N1 σ6 x1 0 0) ∧
(¬ (((4 * x1) : Int) ≤ (σ1 215 1)) →
f_X12_back_u22 Q σ1)))
def f_X12_back (σ : ml_St) (x1 : Int) (Q : Int → ml_St → Prop) : Prop := f_X12_back_u0 Q σ x1
def rm_X12_back : Room := { frames := 3, cells := 0, slots := 0, locals := 65 }
set_option maxRecDepth 100000 in
set_option maxHeartbeats 4000000 in
theorem u_X12_back_22 {p : Program} {e : Env} {s : State} {m : MethodId} {args : Array Value} {below : List Frame} {meth : Method} {c : Code} {base : Nat} {D : va_G} {cA : Nat → ClassId} {n : Nat} {l : Launch} {Q : Int → ml_St → Prop} (X : ml_X p s m c meth args D cA cX12_back 6 RX12 (some .int)) (hn : 256 ≤ n) (σ : ml_St) (ls : Array Slot) (hl : lv_has ls 6 []) (hw : f_X12_back_u22 Q σ) : ml_V p l e rm_X12_back s m args below meth c (MQ below (ml_Qi I32 base D cA n Q) args s 0 0 (ml_A base)) base D cA 0 0 n n σ (F0 m 22 ls []) := by
  unfold f_X12_back_u22 at hw
  refine ml_iconst (pc := 22) X dX12_back_22 ?_
  exact ml_iret (pc := 23) X ⟨by decide, by decide⟩ hw dX12_back_23
set_option maxRecDepth 100000 in
set_option maxHeartbeats 4000000 in
theorem u_X12_back_107 {p : Program} {e : Env} {s : State} {m : MethodId} {args : Array Value} {below : List Frame} {meth : Method} {c : Code} {base : Nat} {D : va_G} {cA : Nat → ClassId} {n : Nat} {l : Launch} {Q : Int → ml_St → Prop} {K65 : ml_St → Int → Int → Int → Int → Int → Prop} (X : ml_X p s m c meth args D cA cX12_back 6 RX12 (some .int)) (hn : 256 ≤ n) (hK65 : ∀ (σ : ml_St) (x1 : Int) (x2 : Int) (x3 : Int) (x4 : Int) (x5 : Int) (h_x1 : I32 x1) (h_x2 : I32 x2) (h_x3 : I32 x3) (h_x4 : ml_B x4) (h_x5 : I32 x5) (ls : Array Slot), lv_has ls 6 [(0, .ref (base + (215 : Int).toNat)), (1, .int (Int32.ofInt x1)), (2, .int (Int32.ofInt x2)), (3, .int (Int32.ofInt x3)), (4, .int (Int32.ofInt x4)), (5, .int (Int32.ofInt x5))] → K65 σ x1 x2 x3 x4 x5 → ml_V p l e rm_X12_back s m args below meth c (MQ below (ml_Qi I32 base D cA n Q) args s 0 0 (ml_A base)) base D cA 0 0 n n σ (F0 m 65 ls [])) (σ : ml_St) (x1 : Int) (x2 : Int) (x3 : Int) (x5 : Int) (s0 : Int) (h_x1 : I32 x1) (h_x2 : I32 x2) (h_x3 : I32 x3) (h_x5 : I32 x5) (h_s0 : ml_B s0) (ls : Array Slot) (hl : lv_has ls 6 [(0, .ref (base + (215 : Int).toNat)), (1, .int (Int32.ofInt x1)), (2, .int (Int32.ofInt x2)), (3, .int (Int32.ofInt x3)), (5, .int (Int32.ofInt x5))]) (hw : f_X12_back_u107 Q K65 σ x1 x2 x3 x5 s0) : ml_V p l e rm_X12_back s m args below meth c (MQ below (ml_Qi I32 base D cA n Q) args s 0 0 (ml_A base)) base D cA 0 0 n n σ (F0 m 107 ls [.int (Int32.ofInt s0)]) := by
  unfold f_X12_back_u107 at hw
  refine ml_istore (pc := 107) X hl (by decide) (lst' := [(4, .int (Int32.ofInt s0)), (0, .ref (base + (215 : Int).toNat)), (1, .int (Int32.ofInt x1)), (2, .int (Int32.ofInt x2)), (3, .int (Int32.ofInt x3)), (5, .int (Int32.ofInt x5))]) rfl dX12_back_107 (fun ls hl => ?_)
  refine ml_aload_n (pc := 109) X hl 1 rfl rfl dX12_back_109 ?_
  refine ml_bipush (pc := 110) X dX12_back_110 (by decide) ?_
  refine ml_iload_n (pc := 112) X hl 4 rfl rfl dX12_back_112 ?_
  refine ml_bipush (pc := 113) X dX12_back_113 (by decide) ?_
  refine ml_callvV (pc := 115) (rest := []) X [.int (Int32.ofInt 60), .int (Int32.ofInt x3), .int (Int32.ofInt 62)] (by decide) rfl (ml_c215 hn) (c_X12_lays l base D cA n hn σ 60 x3 62 ⟨by decide, by decide⟩ h_x3 ⟨by decide, by decide⟩ _ hw) cv_X12_245 ⟨rfl, rfl⟩ ⟨by decide, by decide⟩ rfl rfl hl (Nat.le_of_ble_eq_true rfl) ⟨Nat.zero_le _, Nat.zero_le _⟩ dX12_back_115 (fun σ1 hw => ?_)
  refine ml_aload_n (pc := 118) X hl 1 rfl rfl dX12_back_118 ?_
  refine ml_bipush (pc := 119) X dX12_back_119 (by decide) ?_
  refine ml_bipush (pc := 121) X dX12_back_121 (by decide) ?_
  refine ml_callvV (pc := 123) (rest := []) X [.int (Int32.ofInt 62), .int (Int32.ofInt 60)] (by decide) rfl (ml_c215 hn) (c_X12_copies l base D cA n hn σ1 62 60 ⟨by decide, by decide⟩ ⟨by decide, by decide⟩ _ hw) cv_X12_242 ⟨rfl, rfl⟩ ⟨by decide, by decide⟩ rfl rfl hl (Nat.le_of_ble_eq_true rfl) ⟨Nat.zero_le _, Nat.zero_le _⟩ dX12_back_123 (fun σ2 hw => ?_)
  obtain ⟨v3, hw⟩ := hw
  obtain ⟨y3, e3⟩ : ∃ y : Int, y = x5 + 1 := ⟨_, rfl⟩
  have hw := hw y3 e3
  rw [← e3] at v3
  refine ml_iinc (pc := 126) X e3 hl 5 rfl (by decide) (lst' := [(5, .int (Int32.ofInt y3)), (4, .int (Int32.ofInt s0)), (0, .ref (base + (215 : Int).toNat)), (1, .int (Int32.ofInt x1)), (2, .int (Int32.ofInt x2)), (3, .int (Int32.ofInt x3))]) rfl dX12_back_126 (fun ls hl => ?_)
  refine ml_goto (pc := 129) (tgt := 65) X dX12_back_129 (by decide) ?_
  exact hK65 σ2 x1 x2 x3 s0 y3 h_x1 h_x2 h_x3 h_s0 v3 _ (lv_sub hl [2, 3, 4, 5, 1, 0] rfl) hw
set_option maxRecDepth 100000 in
set_option maxHeartbeats 4000000 in
theorem u_X12_back_106 {p : Program} {e : Env} {s : State} {m : MethodId} {args : Array Value} {below : List Frame} {meth : Method} {c : Code} {base : Nat} {D : va_G} {cA : Nat → ClassId} {n : Nat} {l : Launch} {Q : Int → ml_St → Prop} {K65 : ml_St → Int → Int → Int → Int → Int → Prop} (X : ml_X p s m c meth args D cA cX12_back 6 RX12 (some .int)) (hn : 256 ≤ n) (hK65 : ∀ (σ : ml_St) (x1 : Int) (x2 : Int) (x3 : Int) (x4 : Int) (x5 : Int) (h_x1 : I32 x1) (h_x2 : I32 x2) (h_x3 : I32 x3) (h_x4 : ml_B x4) (h_x5 : I32 x5) (ls : Array Slot), lv_has ls 6 [(0, .ref (base + (215 : Int).toNat)), (1, .int (Int32.ofInt x1)), (2, .int (Int32.ofInt x2)), (3, .int (Int32.ofInt x3)), (4, .int (Int32.ofInt x4)), (5, .int (Int32.ofInt x5))] → K65 σ x1 x2 x3 x4 x5 → ml_V p l e rm_X12_back s m args below meth c (MQ below (ml_Qi I32 base D cA n Q) args s 0 0 (ml_A base)) base D cA 0 0 n n σ (F0 m 65 ls [])) (σ : ml_St) (x1 : Int) (x2 : Int) (x3 : Int) (x5 : Int) (h_x1 : I32 x1) (h_x2 : I32 x2) (h_x3 : I32 x3) (h_x5 : I32 x5) (ls : Array Slot) (hl : lv_has ls 6 [(0, .ref (base + (215 : Int).toNat)), (1, .int (Int32.ofInt x1)), (2, .int (Int32.ofInt x2)), (3, .int (Int32.ofInt x3)), (5, .int (Int32.ofInt x5))]) (hw : f_X12_back_u106 Q K65 σ x1 x2 x3 x5) : ml_V p l e rm_X12_back s m args below meth c (MQ below (ml_Qi I32 base D cA n Q) args s 0 0 (ml_A base)) base D cA 0 0 n n σ (F0 m 106 ls []) := by
  unfold f_X12_back_u106 at hw
  refine ml_iconst (pc := 106) X dX12_back_106 ?_
  exact u_X12_back_107 X hn hK65 σ x1 x2 x3 x5 0 h_x1 h_x2 h_x3 h_x5 ⟨by decide, by decide⟩ _ (lv_sub hl [0, 1, 2, 3, 4] rfl) hw
set_option maxRecDepth 100000 in
set_option maxHeartbeats 4000000 in
theorem u_X12_back_65 {p : Program} {e : Env} {s : State} {m : MethodId} {args : Array Value} {below : List Frame} {meth : Method} {c : Code} {base : Nat} {D : va_G} {cA : Nat → ClassId} {n : Nat} {l : Launch} {Q : Int → ml_St → Prop} {K132 : ml_St → Int → Int → Int → Int → Prop} (X : ml_X p s m c meth args D cA cX12_back 6 RX12 (some .int)) (hn : 256 ≤ n) (hK132 : ∀ (σ : ml_St) (x1 : Int) (x2 : Int) (x3 : Int) (x4 : Int) (h_x1 : I32 x1) (h_x2 : I32 x2) (h_x3 : I32 x3) (h_x4 : ml_B x4) (ls : Array Slot), lv_has ls 6 [(0, .ref (base + (215 : Int).toNat)), (1, .int (Int32.ofInt x1)), (2, .int (Int32.ofInt x2)), (3, .int (Int32.ofInt x3)), (4, .int (Int32.ofInt x4))] → K132 σ x1 x2 x3 x4 → ml_V p l e rm_X12_back s m args below meth c (MQ below (ml_Qi I32 base D cA n Q) args s 0 0 (ml_A base)) base D cA 0 0 n n σ (F0 m 132 ls [])) : ∀ (N : Nat) (σ : ml_St) (x1 : Int) (x2 : Int) (x3 : Int) (x4 : Int) (x5 : Int) (h_x1 : I32 x1) (h_x2 : I32 x2) (h_x3 : I32 x3) (h_x4 : ml_B x4) (h_x5 : I32 x5) (ls : Array Slot), lv_has ls 6 [(0, .ref (base + (215 : Int).toNat)), (1, .int (Int32.ofInt x1)), (2, .int (Int32.ofInt x2)), (3, .int (Int32.ofInt x3)), (4, .int (Int32.ofInt x4)), (5, .int (Int32.ofInt x5))] → f_X12_back_u65 Q K132 N σ x1 x2 x3 x4 x5 → ml_V p l e rm_X12_back s m args below meth c (MQ below (ml_Qi I32 base D cA n Q) args s 0 0 (ml_A base)) base D cA 0 0 n n σ (F0 m 65 ls []) := by
  intro N
  induction N with
  | zero => intro σ x1 x2 x3 x4 x5 h_x1 h_x2 h_x3 h_x4 h_x5 ls hl hw; exact False.elim hw
  | succ N ih =>
    intro σ x1 x2 x3 x4 x5 h_x1 h_x2 h_x3 h_x4 h_x5 ls hl hw
    unfold f_X12_back_u65 at hw
    refine ml_iload (pc := 65) X hl 5 rfl dX12_back_65 ?_
    refine ml_iload_n (pc := 67) X hl 1 rfl rfl dX12_back_67 ?_
    refine ml_icmp_ge (pc := 68) (tgt := 132) X h_x5 h_x1 dX12_back_68 (by decide) (fun c1 => ?_) (fun c1 => ?_)
    · have hw := hw.1 c1
      exact hK132 σ x1 x2 x3 x4 h_x1 h_x2 h_x3 h_x4 _ (lv_sub hl [0, 1, 2, 3, 4] rfl) hw
    · have hw := hw.2 c1
      refine ml_iload (pc := 71) X hl 4 rfl dX12_back_71 ?_
      refine ml_if_eq (pc := 73) (tgt := 106) X h_x4.i dX12_back_73 (by decide) (fun c2 => ?_) (fun c2 => ?_)
      · have hw := hw.1 c2
        exact u_X12_back_106 X hn ih σ x1 x2 x3 x5 h_x1 h_x2 h_x3 h_x5 _ (lv_sub hl [0, 1, 2, 3, 5] rfl) hw
      · have hw := hw.2 c2
        refine ml_aload_n (pc := 76) X hl 0 rfl rfl dX12_back_76 ?_
        refine gf_X12_55 (pc := 77) X (ml_c215 hn) dX12_back_77 ?_
        refine ml_bipush (pc := 80) X dX12_back_80 (by decide) ?_
        obtain ⟨a3, b3, hw⟩ := hw
        refine ml_lald (pc := 82) (N := 64) X (ml_c229 hn) a3 b3 dX12_back_82 (fun r3 => ?_)
        have hw := hw r3
        refine ml_aload_n (pc := 83) X hl 0 rfl rfl dX12_back_83 ?_
        refine ml_bipush (pc := 84) X dX12_back_84 (by decide) ?_
        refine ml_calliV (pc := 86) (rest := [.long (Int64.ofInt (σ 229 60))]) X [.int (Int32.ofInt 60)] (by decide) rfl (ml_c215 hn) (c_X12_closing l base D cA n hn σ 60 ⟨by decide, by decide⟩ _ hw) cv_X12_302 ⟨rfl, rfl⟩ ⟨by decide, by decide⟩ rfl rfl hl (Nat.le_of_ble_eq_true rfl) ⟨Nat.zero_le _, Nat.zero_le _⟩ dX12_back_86 (fun r4 σ4 t4 hw => ?_)
        have hw := hw t4
        refine ml_i2l (pc := 89) X t4 dX12_back_89 ?_
        refine ml_laddW (pc := 90) X dX12_back_90 ?_
        refine ml_aload_n (pc := 91) X hl 0 rfl rfl dX12_back_91 ?_
        refine ml_iload (pc := 92) X hl 5 rfl dX12_back_92 ?_
        refine ml_calliV (pc := 94) (rest := [.long (Int64.ofInt (w64 ((σ 229 60) + r4)))]) X [.int (Int32.ofInt x5)] (by decide) rfl (ml_c215 hn) (c_X12_numberAt l base D cA n hn σ4 x5 h_x5 _ hw) cv_X12_415 ⟨rfl, rfl⟩ ⟨by decide, by decide⟩ rfl rfl hl (Nat.le_of_ble_eq_true rfl) ⟨Nat.zero_le _, Nat.zero_le _⟩ dX12_back_94 (fun r6 σ6 t6 hw => ?_)
        have hw := hw t6
        refine ml_i2l (pc := 97) X t6 dX12_back_97 ?_
        refine ml_lcmp_ne (pc := 98) (tgt := 106) X (w64_r _) (t6).l dX12_back_98 dX12_back_99 (by decide) (fun c7 => ?_) (fun c7 => ?_)
        · have hw := hw.1 c7
          exact u_X12_back_106 X hn ih σ6 x1 x2 x3 x5 h_x1 h_x2 h_x3 h_x5 _ (lv_sub hl [0, 1, 2, 3, 5] rfl) hw
        · have hw := hw.2 c7
          refine ml_iconst (pc := 102) X dX12_back_102 ?_
          refine ml_goto (pc := 103) (tgt := 107) X dX12_back_103 (by decide) ?_
          exact u_X12_back_107 X hn ih σ6 x1 x2 x3 x5 1 h_x1 h_x2 h_x3 h_x5 ⟨by decide, by decide⟩ _ (lv_sub hl [0, 1, 2, 3, 5] rfl) hw
set_option maxRecDepth 100000 in
set_option maxHeartbeats 4000000 in
theorem u_X12_back_147 {p : Program} {e : Env} {s : State} {m : MethodId} {args : Array Value} {below : List Frame} {meth : Method} {c : Code} {base : Nat} {D : va_G} {cA : Nat → ClassId} {n : Nat} {l : Launch} {Q : Int → ml_St → Prop} {K33 : ml_St → Int → Int → Int → Prop} (X : ml_X p s m c meth args D cA cX12_back 6 RX12 (some .int)) (hn : 256 ≤ n) (hK33 : ∀ (σ : ml_St) (x1 : Int) (x2 : Int) (x3 : Int) (h_x1 : I32 x1) (h_x2 : I32 x2) (h_x3 : I32 x3) (ls : Array Slot), lv_has ls 6 [(0, .ref (base + (215 : Int).toNat)), (1, .int (Int32.ofInt x1)), (2, .int (Int32.ofInt x2)), (3, .int (Int32.ofInt x3))] → K33 σ x1 x2 x3 → ml_V p l e rm_X12_back s m args below meth c (MQ below (ml_Qi I32 base D cA n Q) args s 0 0 (ml_A base)) base D cA 0 0 n n σ (F0 m 33 ls [])) (σ : ml_St) (x1 : Int) (x2 : Int) (x3 : Int) (h_x1 : I32 x1) (h_x2 : I32 x2) (h_x3 : I32 x3) (ls : Array Slot) (hl : lv_has ls 6 [(0, .ref (base + (215 : Int).toNat)), (1, .int (Int32.ofInt x1)), (2, .int (Int32.ofInt x2)), (3, .int (Int32.ofInt x3))]) (hw : f_X12_back_u147 Q K33 σ x1 x2 x3) : ml_V p l e rm_X12_back s m args below meth c (MQ below (ml_Qi I32 base D cA n Q) args s 0 0 (ml_A base)) base D cA 0 0 n n σ (F0 m 147 ls []) := by
  unfold f_X12_back_u147 at hw
  obtain ⟨v1, hw⟩ := hw
  obtain ⟨y1, e1⟩ : ∃ y : Int, y = x3 + 1 := ⟨_, rfl⟩
  have hw := hw y1 e1
  rw [← e1] at v1
  refine ml_iinc (pc := 147) X e1 hl 3 rfl (by decide) (lst' := [(3, .int (Int32.ofInt y1)), (0, .ref (base + (215 : Int).toNat)), (1, .int (Int32.ofInt x1)), (2, .int (Int32.ofInt x2))]) rfl dX12_back_147 (fun ls hl => ?_)
  refine ml_goto (pc := 150) (tgt := 33) X dX12_back_150 (by decide) ?_
  exact hK33 σ x1 x2 y1 h_x1 h_x2 v1 _ (lv_sub hl [1, 2, 3, 0] rfl) hw
set_option maxRecDepth 100000 in
set_option maxHeartbeats 4000000 in
theorem u_X12_back_145 {p : Program} {e : Env} {s : State} {m : MethodId} {args : Array Value} {below : List Frame} {meth : Method} {c : Code} {base : Nat} {D : va_G} {cA : Nat → ClassId} {n : Nat} {l : Launch} {Q : Int → ml_St → Prop} {K33 : ml_St → Int → Int → Int → Prop} (X : ml_X p s m c meth args D cA cX12_back 6 RX12 (some .int)) (hn : 256 ≤ n) (hK33 : ∀ (σ : ml_St) (x1 : Int) (x2 : Int) (x3 : Int) (h_x1 : I32 x1) (h_x2 : I32 x2) (h_x3 : I32 x3) (ls : Array Slot), lv_has ls 6 [(0, .ref (base + (215 : Int).toNat)), (1, .int (Int32.ofInt x1)), (2, .int (Int32.ofInt x2)), (3, .int (Int32.ofInt x3))] → K33 σ x1 x2 x3 → ml_V p l e rm_X12_back s m args below meth c (MQ below (ml_Qi I32 base D cA n Q) args s 0 0 (ml_A base)) base D cA 0 0 n n σ (F0 m 33 ls [])) (σ : ml_St) (x1 : Int) (x3 : Int) (s0 : Int) (s1 : Int) (h_x1 : I32 x1) (h_x3 : I32 x3) (h_s0 : I32 s0) (h_s1 : I32 s1) (ls : Array Slot) (hl : lv_has ls 6 [(0, .ref (base + (215 : Int).toNat)), (1, .int (Int32.ofInt x1)), (3, .int (Int32.ofInt x3))]) (hw : f_X12_back_u145 Q K33 σ x1 x3 s0 s1) : ml_V p l e rm_X12_back s m args below meth c (MQ below (ml_Qi I32 base D cA n Q) args s 0 0 (ml_A base)) base D cA 0 0 n n σ (F0 m 145 ls [.int (Int32.ofInt s1), .int (Int32.ofInt s0)]) := by
  unfold f_X12_back_u145 at hw
  refine ml_ior (pc := 145) X dX12_back_145 ?_
  refine ml_topI (pc := 146) (fun y1 e1 => ?_)
  have hw := hw y1 e1
  have q1 : I32 y1 := by rw [e1]; exact (b_or_r _ _)
  refine ml_istore_n (pc := 146) X rfl hl (by decide) (lst' := [(2, .int (Int32.ofInt y1)), (0, .ref (base + (215 : Int).toNat)), (1, .int (Int32.ofInt x1)), (3, .int (Int32.ofInt x3))]) rfl dX12_back_146 (fun ls hl => ?_)
  exact u_X12_back_147 X hn hK33 σ x1 y1 x3 h_x1 q1 h_x3 _ (lv_sub hl [1, 2, 0, 3] rfl) hw
set_option maxRecDepth 100000 in
set_option maxHeartbeats 4000000 in
theorem u_X12_back_132 {p : Program} {e : Env} {s : State} {m : MethodId} {args : Array Value} {below : List Frame} {meth : Method} {c : Code} {base : Nat} {D : va_G} {cA : Nat → ClassId} {n : Nat} {l : Launch} {Q : Int → ml_St → Prop} {K33 : ml_St → Int → Int → Int → Prop} (X : ml_X p s m c meth args D cA cX12_back 6 RX12 (some .int)) (hn : 256 ≤ n) (hK33 : ∀ (σ : ml_St) (x1 : Int) (x2 : Int) (x3 : Int) (h_x1 : I32 x1) (h_x2 : I32 x2) (h_x3 : I32 x3) (ls : Array Slot), lv_has ls 6 [(0, .ref (base + (215 : Int).toNat)), (1, .int (Int32.ofInt x1)), (2, .int (Int32.ofInt x2)), (3, .int (Int32.ofInt x3))] → K33 σ x1 x2 x3 → ml_V p l e rm_X12_back s m args below meth c (MQ below (ml_Qi I32 base D cA n Q) args s 0 0 (ml_A base)) base D cA 0 0 n n σ (F0 m 33 ls [])) (σ : ml_St) (x1 : Int) (x2 : Int) (x3 : Int) (x4 : Int) (h_x1 : I32 x1) (h_x2 : I32 x2) (h_x3 : I32 x3) (h_x4 : ml_B x4) (ls : Array Slot) (hl : lv_has ls 6 [(0, .ref (base + (215 : Int).toNat)), (1, .int (Int32.ofInt x1)), (2, .int (Int32.ofInt x2)), (3, .int (Int32.ofInt x3)), (4, .int (Int32.ofInt x4))]) (hw : f_X12_back_u132 Q K33 σ x1 x2 x3 x4) : ml_V p l e rm_X12_back s m args below meth c (MQ below (ml_Qi I32 base D cA n Q) args s 0 0 (ml_A base)) base D cA 0 0 n n σ (F0 m 132 ls []) := by
  unfold f_X12_back_u132 at hw
  refine ml_iload_n (pc := 132) X hl 2 rfl rfl dX12_back_132 ?_
  refine ml_iload (pc := 133) X hl 4 rfl dX12_back_133 ?_
  refine ml_if_eq (pc := 135) (tgt := 144) X h_x4.i dX12_back_135 (by decide) (fun c1 => ?_) (fun c1 => ?_)
  · have hw := hw.1 c1
    refine ml_iconst (pc := 144) X dX12_back_144 ?_
    exact u_X12_back_145 X hn hK33 σ x1 x3 x2 0 h_x1 h_x3 h_x2 ⟨by decide, by decide⟩ _ (lv_sub hl [0, 1, 3] rfl) hw
  · have hw := hw.2 c1
    refine ml_iconst (pc := 138) X dX12_back_138 ?_
    refine ml_iload_n (pc := 139) X hl 3 rfl rfl dX12_back_139 ?_
    refine ml_ishl (pc := 140) X dX12_back_140 ?_
    refine ml_goto (pc := 141) (tgt := 145) X dX12_back_141 (by decide) ?_
    exact u_X12_back_145 X hn hK33 σ x1 x3 x2 (b_shl 1 x3) h_x1 h_x3 h_x2 (b_shl_r _ _) _ (lv_sub hl [0, 1, 3] rfl) hw
set_option maxRecDepth 100000 in
set_option maxHeartbeats 4000000 in
theorem u_X12_back_33 {p : Program} {e : Env} {s : State} {m : MethodId} {args : Array Value} {below : List Frame} {meth : Method} {c : Code} {base : Nat} {D : va_G} {cA : Nat → ClassId} {n : Nat} {l : Launch} {Q : Int → ml_St → Prop} {K153 : ml_St → Int → Prop} (X : ml_X p s m c meth args D cA cX12_back 6 RX12 (some .int)) (hn : 256 ≤ n) (hK153 : ∀ (σ : ml_St) (x2 : Int) (h_x2 : I32 x2) (ls : Array Slot), lv_has ls 6 [(2, .int (Int32.ofInt x2))] → K153 σ x2 → ml_V p l e rm_X12_back s m args below meth c (MQ below (ml_Qi I32 base D cA n Q) args s 0 0 (ml_A base)) base D cA 0 0 n n σ (F0 m 153 ls [])) : ∀ (N : Nat) (σ : ml_St) (x1 : Int) (x2 : Int) (x3 : Int) (h_x1 : I32 x1) (h_x2 : I32 x2) (h_x3 : I32 x3) (ls : Array Slot), lv_has ls 6 [(0, .ref (base + (215 : Int).toNat)), (1, .int (Int32.ofInt x1)), (2, .int (Int32.ofInt x2)), (3, .int (Int32.ofInt x3))] → f_X12_back_u33 Q K153 N σ x1 x2 x3 → ml_V p l e rm_X12_back s m args below meth c (MQ below (ml_Qi I32 base D cA n Q) args s 0 0 (ml_A base)) base D cA 0 0 n n σ (F0 m 33 ls []) := by
  intro N
  induction N with
  | zero => intro σ x1 x2 x3 h_x1 h_x2 h_x3 ls hl hw; exact False.elim hw
  | succ N ih =>
    intro σ x1 x2 x3 h_x1 h_x2 h_x3 ls hl hw
    unfold f_X12_back_u33 at hw
    refine ml_iload_n (pc := 33) X hl 3 rfl rfl dX12_back_33 ?_
    refine ml_aload_n (pc := 34) X hl 0 rfl rfl dX12_back_34 ?_
    refine gf_X12_140 (pc := 35) X (ml_c215 hn) dX12_back_35 (fun r1 => ?_)
    have hw := hw r1
    refine ml_icmp_ge (pc := 38) (tgt := 153) X h_x3 r1 dX12_back_38 (by decide) (fun c2 => ?_) (fun c2 => ?_)
    · have hw := hw.1 c2
      exact hK153 σ x2 h_x2 _ (lv_sub hl [2] rfl) hw
    · have hw := hw.2 c2
      refine ml_aload_n (pc := 41) X hl 0 rfl rfl dX12_back_41 ?_
      refine ml_iload_n (pc := 42) X hl 3 rfl rfl dX12_back_42 ?_
      refine ml_callzV (pc := 43) (rest := []) X [.int (Int32.ofInt x3)] (by decide) rfl (ml_c215 hn) (c_X12_isTooLong l base D cA n hn σ x3 h_x3 _ hw) cv_X12_262 ⟨rfl, rfl⟩ ⟨by decide, by decide⟩ rfl rfl hl (Nat.le_of_ble_eq_true rfl) ⟨Nat.zero_le _, Nat.zero_le _⟩ dX12_back_43 (fun r3 σ3 t3 hw => ?_)
      have hw := hw t3
      refine ml_if_eq (pc := 46) (tgt := 52) X t3.i dX12_back_46 (by decide) (fun c4 => ?_) (fun c4 => ?_)
      · have hw := hw.1 c4
        refine ml_iconst (pc := 52) X dX12_back_52 ?_
        refine ml_istore (pc := 53) X hl (by decide) (lst' := [(4, .int (Int32.ofInt 1)), (0, .ref (base + (215 : Int).toNat)), (1, .int (Int32.ofInt x1)), (2, .int (Int32.ofInt x2)), (3, .int (Int32.ofInt x3))]) rfl dX12_back_53 (fun ls hl => ?_)
        refine ml_aload_n (pc := 55) X hl 1 rfl rfl dX12_back_55 ?_
        refine ml_iload_n (pc := 56) X hl 4 rfl rfl dX12_back_56 ?_
        refine ml_bipush (pc := 57) X dX12_back_57 (by decide) ?_
        refine ml_callvV (pc := 59) (rest := []) X [.int (Int32.ofInt x3), .int (Int32.ofInt 60)] (by decide) rfl (ml_c215 hn) (c_X12_copies l base D cA n hn σ3 x3 60 h_x3 ⟨by decide, by decide⟩ _ hw) cv_X12_242 ⟨rfl, rfl⟩ ⟨by decide, by decide⟩ rfl rfl hl (Nat.le_of_ble_eq_true rfl) ⟨Nat.zero_le _, Nat.zero_le _⟩ dX12_back_59 (fun σ5 hw => ?_)
        refine ml_iconst (pc := 62) X dX12_back_62 ?_
        refine ml_istore (pc := 63) X hl (by decide) (lst' := [(5, .int (Int32.ofInt 0)), (4, .int (Int32.ofInt 1)), (0, .ref (base + (215 : Int).toNat)), (1, .int (Int32.ofInt x1)), (2, .int (Int32.ofInt x2)), (3, .int (Int32.ofInt x3))]) rfl dX12_back_63 (fun ls hl => ?_)
        obtain ⟨N0, hw⟩ := hw
        exact u_X12_back_65 X hn (fun σ x1 x2 x3 x4 h_x1 h_x2 h_x3 h_x4 ls hl hw => u_X12_back_132 X hn ih σ x1 x2 x3 x4 h_x1 h_x2 h_x3 h_x4 ls hl hw) N0 σ5 x1 x2 x3 1 0 h_x1 h_x2 h_x3 ⟨by decide, by decide⟩ ⟨by decide, by decide⟩ _ (lv_sub hl [2, 3, 4, 5, 1, 0] rfl) hw
      · have hw := hw.2 c4
        refine ml_goto (pc := 49) (tgt := 147) X dX12_back_49 (by decide) ?_
        exact u_X12_back_147 X hn ih σ3 x1 x2 x3 h_x1 h_x2 h_x3 _ (lv_sub hl [0, 1, 2, 3] rfl) hw
set_option maxRecDepth 100000 in
set_option maxHeartbeats 4000000 in
theorem u_X12_back_153 {p : Program} {e : Env} {s : State} {m : MethodId} {args : Array Value} {below : List Frame} {meth : Method} {c : Code} {base : Nat} {D : va_G} {cA : Nat → ClassId} {n : Nat} {l : Launch} {Q : Int → ml_St → Prop} (X : ml_X p s m c meth args D cA cX12_back 6 RX12 (some .int)) (hn : 256 ≤ n) (σ : ml_St) (x2 : Int) (h_x2 : I32 x2) (ls : Array Slot) (hl : lv_has ls 6 [(2, .int (Int32.ofInt x2))]) (hw : f_X12_back_u153 Q σ x2) : ml_V p l e rm_X12_back s m args below meth c (MQ below (ml_Qi I32 base D cA n Q) args s 0 0 (ml_A base)) base D cA 0 0 n n σ (F0 m 153 ls []) := by
  unfold f_X12_back_u153 at hw
  refine ml_iload_n (pc := 153) X hl 0 rfl rfl dX12_back_153 ?_
  exact ml_iret (pc := 154) X h_x2 hw dX12_back_154
set_option maxRecDepth 100000 in
set_option maxHeartbeats 4000000 in
theorem u_X12_back_0 {p : Program} {e : Env} {s : State} {m : MethodId} {args : Array Value} {below : List Frame} {meth : Method} {c : Code} {base : Nat} {D : va_G} {cA : Nat → ClassId} {n : Nat} {l : Launch} {Q : Int → ml_St → Prop} (X : ml_X p s m c meth args D cA cX12_back 6 RX12 (some .int)) (hn : 256 ≤ n) (σ : ml_St) (x1 : Int) (h_x1 : I32 x1) (ls : Array Slot) (hl : lv_has ls 6 [(0, .ref (base + (215 : Int).toNat)), (1, .int (Int32.ofInt x1))]) (hw : f_X12_back_u0 Q σ x1) : ml_V p l e rm_X12_back s m args below meth c (MQ below (ml_Qi I32 base D cA n Q) args s 0 0 (ml_A base)) base D cA 0 0 n n σ (F0 m 0 ls []) := by
  unfold f_X12_back_u0 at hw
  refine ml_iload_n (pc := 0) X hl 1 rfl rfl dX12_back_0 ?_
  refine ml_i2l (pc := 1) X h_x1 dX12_back_1 ?_
  refine ml_lconst1 (pc := 2) X dX12_back_2 ?_
  refine ml_ldc2 (pc := 3) (v := 8) X dX12_back_3 tc_6_226 ?_
  refine ml_callzS (pc := 6) (rest := []) X [.long (Int64.ofInt x1), .long (Int64.ofInt 1), .long (Int64.ofInt 8)] (c_X12_lies l base D cA n hn σ x1 1 8 (h_x1).l ⟨by decide, by decide⟩ ⟨by decide, by decide⟩ _ hw) cv_X12_143 ⟨rfl, rfl⟩ ⟨by decide, by decide⟩ rfl rfl hl (Nat.le_of_ble_eq_true rfl) ⟨Nat.zero_le _, Nat.zero_le _⟩ dX12_back_6 (fun r1 σ1 t1 hw => ?_)
  have hw := hw t1
  refine ml_if_eq (pc := 9) (tgt := 22) X t1.i dX12_back_9 (by decide) (fun c2 => ?_) (fun c2 => ?_)
  · have hw := hw.1 c2
    exact u_X12_back_22 X hn σ1   _ (lv_sub hl [] rfl) hw
  · have hw := hw.2 c2
    refine ml_iconst (pc := 12) X dX12_back_12 ?_
    refine ml_iload_n (pc := 13) X hl 1 rfl rfl dX12_back_13 ?_
    obtain ⟨v3, hw⟩ := hw
    refine ml_imul (pc := 14) X dX12_back_14 ?_
    refine ml_aload_n (pc := 15) X hl 0 rfl rfl dX12_back_15 ?_
    refine gf_X12_155 (pc := 16) X (ml_c215 hn) dX12_back_16 (fun r4 => ?_)
    have hw := hw r4
    refine ml_icmp_le (pc := 19) (tgt := 24) X v3 r4 dX12_back_19 (by decide) (fun c5 => ?_) (fun c5 => ?_)
    · have hw := hw.1 c5
      refine ml_aload_n (pc := 24) X hl 0 rfl rfl dX12_back_24 ?_
      refine ml_iconst (pc := 25) X dX12_back_25 ?_
      refine pf_X12_155 (pc := 26) X (ml_c215 hn) ⟨by decide, by decide⟩ dX12_back_26 (fun σ6 g6 => ?_)
      have hw := hw σ6 g6
      refine ml_iconst (pc := 29) X dX12_back_29 ?_
      refine ml_istore_n (pc := 30) X rfl hl (by decide) (lst' := [(2, .int (Int32.ofInt 0)), (0, .ref (base + (215 : Int).toNat)), (1, .int (Int32.ofInt x1))]) rfl dX12_back_30 (fun ls hl => ?_)
      refine ml_iconst (pc := 31) X dX12_back_31 ?_
      refine ml_istore_n (pc := 32) X rfl hl (by decide) (lst' := [(3, .int (Int32.ofInt 0)), (2, .int (Int32.ofInt 0)), (0, .ref (base + (215 : Int).toNat)), (1, .int (Int32.ofInt x1))]) rfl dX12_back_32 (fun ls hl => ?_)
      obtain ⟨N0, hw⟩ := hw
      exact u_X12_back_33 X hn (fun σ x2 h_x2 ls hl hw => u_X12_back_153 X hn σ x2 h_x2 ls hl hw) N0 σ6 x1 0 0 h_x1 ⟨by decide, by decide⟩ ⟨by decide, by decide⟩ _ (lv_sub hl [2, 3, 1, 0] rfl) hw
    · have hw := hw.2 c5
      exact u_X12_back_22 X hn σ1   _ (lv_sub hl [] rfl) hw
set_option maxRecDepth 100000 in
theorem c_X12_back (l : Launch) (base : Nat) (D : va_G) (cA : Nat → ClassId) (n : Nat) (hn : 256 ≤ n) (σ : ml_St) (x1 : Int) (h_x1 : I32 x1) (Q : Int → ml_St → Prop) (hw : f_X12_back σ x1 Q) : Met l yX12_back (Cond.code yX12_back cX12_back 6 (some .int) :: ml_T) rm_X12_back (va_Pc [.ref (base + (215 : Int).toNat), .int (Int32.ofInt x1)] (ml_U base D cA n σ)) (ml_Qi I32 base D cA n Q) 0 0 (ml_A base) := by
  refine Met.ofW (cc := cX12_back) (maxL := 6) (ret := (some .int)) (by decide) rfl ?_
  intro p e s m args below meth c s₁ B hml hv
  obtain ⟨rfl, hP, hK, hok, hro⟩ := hv
  have X : ml_X p s m c meth _ D cA cX12_back 6 RX12 (some .int) := ⟨B.exec, B.bytes, hml, findClass_of_methodNamed B.named, fun w hw => atoms_spec (ws := Cond.code yX12_back cX12_back 6 (some .int) :: ml_T) B.pre w (List.mem_cons_of_mem _ hw), hK, B.notSynchronized, B.returns⟩
  have hl := lv_entry [.ref (base + (215 : Int).toNat), .int (Int32.ofInt x1)] (n := 6) (Nat.le_of_ble_eq_true rfl)
  rw [lg_entry_eq]
  generalize (lg_sl [.ref (base + (215 : Int).toNat), .int (Int32.ofInt x1)] ++ List.replicate (6 - (lg_sl [.ref (base + (215 : Int).toNat), .int (Int32.ofInt x1)]).length) Slot.unset).toArray = ls at hl ⊢
  have hl : lv_has ls 6 [(0, .ref (base + (215 : Int).toNat)), (1, .int (Int32.ofInt x1))] := hl
  unfold f_X12_back at hw
  exact u_X12_back_0 X hn σ x1 h_x1 _ (lv_sub hl [0, 1] rfl) hw s.heap [] hP va_S.rf hok hro
theorem dX12_writes_0 : decode cX12_writes 0 = .ok (.aload_n 0, 1) := by decide +kernel
theorem dX12_writes_1 : decode cX12_writes 1 = .ok (.getfield 418, 3) := by decide +kernel
theorem dX12_writes_4 : decode cX12_writes 4 = .ok (.sipush 2000, 3) := by decide +kernel
theorem dX12_writes_7 : decode cX12_writes 7 = .ok (.if_icmp .ge 20, 3) := by decide +kernel
theorem dX12_writes_10 : decode cX12_writes 10 = .ok (.aload_n 0, 1) := by decide +kernel
theorem dX12_writes_11 : decode cX12_writes 11 = .ok (.getfield 131, 3) := by decide +kernel
theorem dX12_writes_14 : decode cX12_writes 14 = .ok (.sipush 2000, 3) := by decide +kernel
theorem dX12_writes_17 : decode cX12_writes 17 = .ok (.iload_n 1, 1) := by decide +kernel
theorem dX12_writes_18 : decode cX12_writes 18 = .ok (.imul, 1) := by decide +kernel
theorem dX12_writes_19 : decode cX12_writes 19 = .ok (.aload_n 0, 1) := by decide +kernel
theorem dX12_writes_20 : decode cX12_writes 20 = .ok (.getfield 418, 3) := by decide +kernel
theorem dX12_writes_23 : decode cX12_writes 23 = .ok (.iadd, 1) := by decide +kernel
theorem dX12_writes_24 : decode cX12_writes 24 = .ok (.iload_n 2, 1) := by decide +kernel
theorem dX12_writes_25 : decode cX12_writes 25 = .ok (.i2b, 1) := by decide +kernel
theorem dX12_writes_26 : decode cX12_writes 26 = .ok (.bastore, 1) := by decide +kernel
theorem dX12_writes_27 : decode cX12_writes 27 = .ok (.aload_n 0, 1) := by decide +kernel
theorem dX12_writes_28 : decode cX12_writes 28 = .ok (.aload_n 0, 1) := by decide +kernel
theorem dX12_writes_29 : decode cX12_writes 29 = .ok (.getfield 418, 3) := by decide +kernel
theorem dX12_writes_32 : decode cX12_writes 32 = .ok (.sipush 2000, 3) := by decide +kernel
theorem dX12_writes_35 : decode cX12_writes 35 = .ok (.if_icmp .gt 12, 3) := by decide +kernel
theorem dX12_writes_38 : decode cX12_writes 38 = .ok (.aload_n 0, 1) := by decide +kernel
theorem dX12_writes_39 : decode cX12_writes 39 = .ok (.getfield 418, 3) := by decide +kernel
theorem dX12_writes_42 : decode cX12_writes 42 = .ok (.iconst 1, 1) := by decide +kernel
theorem dX12_writes_43 : decode cX12_writes 43 = .ok (.iadd, 1) := by decide +kernel
theorem dX12_writes_44 : decode cX12_writes 44 = .ok (.goto 7, 3) := by decide +kernel
theorem dX12_writes_47 : decode cX12_writes 47 = .ok (.aload_n 0, 1) := by decide +kernel
theorem dX12_writes_48 : decode cX12_writes 48 = .ok (.getfield 418, 3) := by decide +kernel
theorem dX12_writes_51 : decode cX12_writes 51 = .ok (.putfield 418, 3) := by decide +kernel
theorem dX12_writes_54 : decode cX12_writes 54 = .ok (.return_, 1) := by decide +kernel
def f_X12_writes_u51 (Q : ml_St → Prop) (σ : ml_St) (s1 : Int) : Prop :=
∀ σ1, σ1 = ml_up σ 215 61 s1 →
Q σ1
def f_X12_writes_u27 (Q : ml_St → Prop) (σ : ml_St) : Prop :=
∀ _ : I32 (σ 215 61),
(2000 < ((σ 215 61) : Int) →
∀ _ : I32 (σ 215 61),
f_X12_writes_u51 Q σ (σ 215 61)) ∧
(¬ (2000 < ((σ 215 61) : Int)) →
∀ _ : I32 (σ 215 61),
I32 ((σ 215 61) + 1) ∧
f_X12_writes_u51 Q σ ((σ 215 61) + 1))
def f_X12_writes_u0 (Q : ml_St → Prop) (σ : ml_St) (x1 : Int) (x2 : Int) : Prop :=
∀ _ : I32 (σ 215 61),
(2000 ≤ ((σ 215 61) : Int) →
f_X12_writes_u27 Q σ) ∧
(¬ (2000 ≤ ((σ 215 61) : Int)) →
I32 (2000 * x1) ∧
∀ _ : I32 (σ 215 61),
I32 ((2000 * x1) + (σ 215 61)) ∧
(0 : Int) ≤ ((2000 * x1) + (σ 215 61)) ∧ (((2000 * x1) + (σ 215 61)) : Int) < 32000 ∧
∀ σ6, σ6 = ml_up σ 254 ((2000 * x1) + (σ 215 61)) (b_i2b x2) →
f_X12_writes_u27 Q σ6)
def f_X12_writes (σ : ml_St) (x1 : Int) (x2 : Int) (Q : ml_St → Prop) : Prop := f_X12_writes_u0 Q σ x1 x2
def rm_X12_writes : Room := { frames := 0, cells := 0, slots := 0, locals := 0 }
set_option maxRecDepth 100000 in
set_option maxHeartbeats 4000000 in
theorem u_X12_writes_51 {p : Program} {e : Env} {s : State} {m : MethodId} {args : Array Value} {below : List Frame} {meth : Method} {c : Code} {base : Nat} {D : va_G} {cA : Nat → ClassId} {n : Nat} {l : Launch} {Q : ml_St → Prop} (X : ml_X p s m c meth args D cA cX12_writes 3 RX12 none) (hn : 256 ≤ n) (σ : ml_St) (s1 : Int) (h_s1 : I32 s1) (ls : Array Slot) (hl : lv_has ls 3 []) (hw : f_X12_writes_u51 Q σ s1) : ml_V p l e rm_X12_writes s m args below meth c (MQ below (ml_Qv base D cA n Q) args s 0 0 (ml_A base)) base D cA 0 0 n n σ (F0 m 51 ls [.int (Int32.ofInt s1), .ref (base + (215 : Int).toNat)]) := by
  unfold f_X12_writes_u51 at hw
  refine pf_X12_418 (pc := 51) X (ml_c215 hn) h_s1 dX12_writes_51 (fun σ1 g1 => ?_)
  have hw := hw σ1 g1
  exact ml_vret (pc := 54) X hw dX12_writes_54
set_option maxRecDepth 100000 in
set_option maxHeartbeats 4000000 in
theorem u_X12_writes_27 {p : Program} {e : Env} {s : State} {m : MethodId} {args : Array Value} {below : List Frame} {meth : Method} {c : Code} {base : Nat} {D : va_G} {cA : Nat → ClassId} {n : Nat} {l : Launch} {Q : ml_St → Prop} (X : ml_X p s m c meth args D cA cX12_writes 3 RX12 none) (hn : 256 ≤ n) (σ : ml_St) (ls : Array Slot) (hl : lv_has ls 3 [(0, .ref (base + (215 : Int).toNat))]) (hw : f_X12_writes_u27 Q σ) : ml_V p l e rm_X12_writes s m args below meth c (MQ below (ml_Qv base D cA n Q) args s 0 0 (ml_A base)) base D cA 0 0 n n σ (F0 m 27 ls []) := by
  unfold f_X12_writes_u27 at hw
  refine ml_aload_n (pc := 27) X hl 0 rfl rfl dX12_writes_27 ?_
  refine ml_aload_n (pc := 28) X hl 0 rfl rfl dX12_writes_28 ?_
  refine gf_X12_418 (pc := 29) X (ml_c215 hn) dX12_writes_29 (fun r1 => ?_)
  have hw := hw r1
  refine ml_sipush (pc := 32) X dX12_writes_32 (by decide) ?_
  refine ml_icmp_gt (pc := 35) (tgt := 47) X r1 ⟨by decide, by decide⟩ dX12_writes_35 (by decide) (fun c2 => ?_) (fun c2 => ?_)
  · have hw := hw.1 c2
    refine ml_aload_n (pc := 47) X hl 0 rfl rfl dX12_writes_47 ?_
    refine gf_X12_418 (pc := 48) X (ml_c215 hn) dX12_writes_48 (fun r3 => ?_)
    have hw := hw r3
    exact u_X12_writes_51 X hn σ (σ 215 61) r3 _ (lv_sub hl [] rfl) hw
  · have hw := hw.2 c2
    refine ml_aload_n (pc := 38) X hl 0 rfl rfl dX12_writes_38 ?_
    refine gf_X12_418 (pc := 39) X (ml_c215 hn) dX12_writes_39 (fun r4 => ?_)
    have hw := hw r4
    refine ml_iconst (pc := 42) X dX12_writes_42 ?_
    obtain ⟨v5, hw⟩ := hw
    refine ml_iadd (pc := 43) X dX12_writes_43 ?_
    refine ml_goto (pc := 44) (tgt := 51) X dX12_writes_44 (by decide) ?_
    exact u_X12_writes_51 X hn σ ((σ 215 61) + 1) v5 _ (lv_sub hl [] rfl) hw
set_option maxRecDepth 100000 in
set_option maxHeartbeats 4000000 in
theorem u_X12_writes_0 {p : Program} {e : Env} {s : State} {m : MethodId} {args : Array Value} {below : List Frame} {meth : Method} {c : Code} {base : Nat} {D : va_G} {cA : Nat → ClassId} {n : Nat} {l : Launch} {Q : ml_St → Prop} (X : ml_X p s m c meth args D cA cX12_writes 3 RX12 none) (hn : 256 ≤ n) (σ : ml_St) (x1 : Int) (x2 : Int) (h_x1 : I32 x1) (h_x2 : I32 x2) (ls : Array Slot) (hl : lv_has ls 3 [(0, .ref (base + (215 : Int).toNat)), (1, .int (Int32.ofInt x1)), (2, .int (Int32.ofInt x2))]) (hw : f_X12_writes_u0 Q σ x1 x2) : ml_V p l e rm_X12_writes s m args below meth c (MQ below (ml_Qv base D cA n Q) args s 0 0 (ml_A base)) base D cA 0 0 n n σ (F0 m 0 ls []) := by
  unfold f_X12_writes_u0 at hw
  refine ml_aload_n (pc := 0) X hl 0 rfl rfl dX12_writes_0 ?_
  refine gf_X12_418 (pc := 1) X (ml_c215 hn) dX12_writes_1 (fun r1 => ?_)
  have hw := hw r1
  refine ml_sipush (pc := 4) X dX12_writes_4 (by decide) ?_
  refine ml_icmp_ge (pc := 7) (tgt := 27) X r1 ⟨by decide, by decide⟩ dX12_writes_7 (by decide) (fun c2 => ?_) (fun c2 => ?_)
  · have hw := hw.1 c2
    exact u_X12_writes_27 X hn σ   _ (lv_sub hl [0] rfl) hw
  · have hw := hw.2 c2
    refine ml_aload_n (pc := 10) X hl 0 rfl rfl dX12_writes_10 ?_
    refine gf_X12_131 (pc := 11) X (ml_c215 hn) dX12_writes_11 ?_
    refine ml_sipush (pc := 14) X dX12_writes_14 (by decide) ?_
    refine ml_iload_n (pc := 17) X hl 1 rfl rfl dX12_writes_17 ?_
    obtain ⟨v3, hw⟩ := hw
    refine ml_imul (pc := 18) X dX12_writes_18 ?_
    refine ml_aload_n (pc := 19) X hl 0 rfl rfl dX12_writes_19 ?_
    refine gf_X12_418 (pc := 20) X (ml_c215 hn) dX12_writes_20 (fun r4 => ?_)
    have hw := hw r4
    obtain ⟨v5, hw⟩ := hw
    refine ml_iadd (pc := 23) X dX12_writes_23 ?_
    refine ml_iload_n (pc := 24) X hl 2 rfl rfl dX12_writes_24 ?_
    refine ml_i2b (pc := 25) X dX12_writes_25 ?_
    obtain ⟨a6, b6, hw⟩ := hw
    refine ml_bast (pc := 26) (N := 32000) X (ml_c254 hn) a6 b6 (b_i2b_r _) dX12_writes_26 (fun σ6 g6 => ?_)
    have hw := hw σ6 g6
    exact u_X12_writes_27 X hn σ6   _ (lv_sub hl [0] rfl) hw
set_option maxRecDepth 100000 in
theorem c_X12_writes (l : Launch) (base : Nat) (D : va_G) (cA : Nat → ClassId) (n : Nat) (hn : 256 ≤ n) (σ : ml_St) (x1 : Int) (x2 : Int) (h_x1 : I32 x1) (h_x2 : I32 x2) (Q : ml_St → Prop) (hw : f_X12_writes σ x1 x2 Q) : Met l yX12_writes (Cond.code yX12_writes cX12_writes 3 none :: ml_T) rm_X12_writes (va_Pc [.ref (base + (215 : Int).toNat), .int (Int32.ofInt x1), .int (Int32.ofInt x2)] (ml_U base D cA n σ)) (ml_Qv base D cA n Q) 0 0 (ml_A base) := by
  refine Met.ofW (cc := cX12_writes) (maxL := 3) (ret := none) (by decide) rfl ?_
  intro p e s m args below meth c s₁ B hml hv
  obtain ⟨rfl, hP, hK, hok, hro⟩ := hv
  have X : ml_X p s m c meth _ D cA cX12_writes 3 RX12 none := ⟨B.exec, B.bytes, hml, findClass_of_methodNamed B.named, fun w hw => atoms_spec (ws := Cond.code yX12_writes cX12_writes 3 none :: ml_T) B.pre w (List.mem_cons_of_mem _ hw), hK, B.notSynchronized, B.returns⟩
  have hl := lv_entry [.ref (base + (215 : Int).toNat), .int (Int32.ofInt x1), .int (Int32.ofInt x2)] (n := 3) (Nat.le_of_ble_eq_true rfl)
  rw [lg_entry_eq]
  generalize (lg_sl [.ref (base + (215 : Int).toNat), .int (Int32.ofInt x1), .int (Int32.ofInt x2)] ++ List.replicate (3 - (lg_sl [.ref (base + (215 : Int).toNat), .int (Int32.ofInt x1), .int (Int32.ofInt x2)]).length) Slot.unset).toArray = ls at hl ⊢
  have hl : lv_has ls 3 [(0, .ref (base + (215 : Int).toNat)), (1, .int (Int32.ofInt x1)), (2, .int (Int32.ofInt x2))] := hl
  unfold f_X12_writes at hw
  exact u_X12_writes_0 X hn σ x1 x2 h_x1 h_x2 _ (lv_sub hl [0, 1, 2] rfl) hw s.heap [] hP va_S.rf hok hro
theorem dX12_writesAgain_0 : decode cX12_writesAgain 0 = .ok (.aload_n 0, 1) := by decide +kernel
theorem dX12_writesAgain_1 : decode cX12_writesAgain 1 = .ok (.getfield 418, 3) := by decide +kernel
theorem dX12_writesAgain_4 : decode cX12_writesAgain 4 = .ok (.istore 4, 2) := by decide +kernel
theorem dX12_writesAgain_6 : decode cX12_writesAgain 6 = .ok (.iload_n 3, 1) := by decide +kernel
theorem dX12_writesAgain_7 : decode cX12_writesAgain 7 = .ok (.ifCond .ne 9, 3) := by decide +kernel
theorem dX12_writesAgain_10 : decode cX12_writesAgain 10 = .ok (.aload_n 0, 1) := by decide +kernel
theorem dX12_writesAgain_11 : decode cX12_writesAgain 11 = .ok (.iload_n 2, 1) := by decide +kernel
theorem dX12_writesAgain_12 : decode cX12_writesAgain 12 = .ok (.putfield 418, 3) := by decide +kernel
theorem dX12_writesAgain_15 : decode cX12_writesAgain 15 = .ok (.return_, 1) := by decide +kernel
theorem dX12_writesAgain_16 : decode cX12_writesAgain 16 = .ok (.iconst 1, 1) := by decide +kernel
theorem dX12_writesAgain_17 : decode cX12_writesAgain 17 = .ok (.istore 5, 2) := by decide +kernel
theorem dX12_writesAgain_19 : decode cX12_writesAgain 19 = .ok (.iload 5, 2) := by decide +kernel
theorem dX12_writesAgain_21 : decode cX12_writesAgain 21 = .ok (.iload_n 3, 1) := by decide +kernel
theorem dX12_writesAgain_22 : decode cX12_writesAgain 22 = .ok (.if_icmp .ge 81, 3) := by decide +kernel
theorem dX12_writesAgain_25 : decode cX12_writesAgain 25 = .ok (.aload_n 0, 1) := by decide +kernel
theorem dX12_writesAgain_26 : decode cX12_writesAgain 26 = .ok (.getfield 418, 3) := by decide +kernel
theorem dX12_writesAgain_29 : decode cX12_writesAgain 29 = .ok (.sipush 2000, 3) := by decide +kernel
theorem dX12_writesAgain_32 : decode cX12_writesAgain 32 = .ok (.if_icmp .gt 71, 3) := by decide +kernel
theorem dX12_writesAgain_35 : decode cX12_writesAgain 35 = .ok (.iload 4, 2) := by decide +kernel
theorem dX12_writesAgain_37 : decode cX12_writesAgain 37 = .ok (.iload_n 2, 1) := by decide +kernel
theorem dX12_writesAgain_38 : decode cX12_writesAgain 38 = .ok (.if_icmp .le 65, 3) := by decide +kernel
theorem dX12_writesAgain_41 : decode cX12_writesAgain 41 = .ok (.iload_n 2, 1) := by decide +kernel
theorem dX12_writesAgain_42 : decode cX12_writesAgain 42 = .ok (.istore 6, 2) := by decide +kernel
theorem dX12_writesAgain_44 : decode cX12_writesAgain 44 = .ok (.iload 6, 2) := by decide +kernel
theorem dX12_writesAgain_46 : decode cX12_writesAgain 46 = .ok (.iload 4, 2) := by decide +kernel
theorem dX12_writesAgain_48 : decode cX12_writesAgain 48 = .ok (.if_icmp .ge 49, 3) := by decide +kernel
theorem dX12_writesAgain_51 : decode cX12_writesAgain 51 = .ok (.aload_n 0, 1) := by decide +kernel
theorem dX12_writesAgain_52 : decode cX12_writesAgain 52 = .ok (.getfield 418, 3) := by decide +kernel
theorem dX12_writesAgain_55 : decode cX12_writesAgain 55 = .ok (.sipush 2000, 3) := by decide +kernel
theorem dX12_writesAgain_58 : decode cX12_writesAgain 58 = .ok (.if_icmp .gt 39, 3) := by decide +kernel
theorem dX12_writesAgain_61 : decode cX12_writesAgain 61 = .ok (.aload_n 0, 1) := by decide +kernel
theorem dX12_writesAgain_62 : decode cX12_writesAgain 62 = .ok (.iload_n 1, 1) := by decide +kernel
theorem dX12_writesAgain_63 : decode cX12_writesAgain 63 = .ok (.iload 6, 2) := by decide +kernel
theorem dX12_writesAgain_65 : decode cX12_writesAgain 65 = .ok (.sipush 2000, 3) := by decide +kernel
theorem dX12_writesAgain_68 : decode cX12_writesAgain 68 = .ok (.if_icmp .ge 19, 3) := by decide +kernel
theorem dX12_writesAgain_71 : decode cX12_writesAgain 71 = .ok (.aload_n 0, 1) := by decide +kernel
theorem dX12_writesAgain_72 : decode cX12_writesAgain 72 = .ok (.getfield 131, 3) := by decide +kernel
theorem dX12_writesAgain_75 : decode cX12_writesAgain 75 = .ok (.sipush 2000, 3) := by decide +kernel
theorem dX12_writesAgain_78 : decode cX12_writesAgain 78 = .ok (.iload_n 1, 1) := by decide +kernel
theorem dX12_writesAgain_79 : decode cX12_writesAgain 79 = .ok (.imul, 1) := by decide +kernel
theorem dX12_writesAgain_80 : decode cX12_writesAgain 80 = .ok (.iload 6, 2) := by decide +kernel
theorem dX12_writesAgain_82 : decode cX12_writesAgain 82 = .ok (.iadd, 1) := by decide +kernel
theorem dX12_writesAgain_83 : decode cX12_writesAgain 83 = .ok (.baload, 1) := by decide +kernel
theorem dX12_writesAgain_84 : decode cX12_writesAgain 84 = .ok (.goto 4, 3) := by decide +kernel
theorem dX12_writesAgain_87 : decode cX12_writesAgain 87 = .ok (.iconst 0, 1) := by decide +kernel
theorem dX12_writesAgain_88 : decode cX12_writesAgain 88 = .ok (.invokevirtual 421, 3) := by decide +kernel
theorem dX12_writesAgain_91 : decode cX12_writesAgain 91 = .ok (.iinc 6 1, 3) := by decide +kernel
theorem dX12_writesAgain_94 : decode cX12_writesAgain 94 = .ok (.goto (-50), 3) := by decide +kernel
theorem dX12_writesAgain_97 : decode cX12_writesAgain 97 = .ok (.iinc 5 1, 3) := by decide +kernel
theorem dX12_writesAgain_100 : decode cX12_writesAgain 100 = .ok (.goto (-81), 3) := by decide +kernel
theorem dX12_writesAgain_103 : decode cX12_writesAgain 103 = .ok (.return_, 1) := by decide +kernel
def f_X12_writesAgain_u88 (Q : ml_St → Prop) (K44 : ml_St → Int → Int → Int → Int → Int → Int → Prop) (σ : ml_St) (x1 : Int) (x2 : Int) (x3 : Int) (x4 : Int) (x5 : Int) (x6 : Int) (s1 : Int) (s2 : Int) : Prop :=
f_X12_writes σ s1 s2 (fun σ1 =>
I32 (x6 + 1) ∧
∀ y2 : Int, y2 = x6 + 1 →
K44 σ1 x1 x2 x3 x4 x5 y2)
def f_X12_writesAgain_u44 (Q : ml_St → Prop) (K97 : ml_St → Int → Int → Int → Int → Int → Prop) : Nat → ml_St → Int → Int → Int → Int → Int → Int → Prop
| 0, _, _, _, _, _, _, _ => False
| N + 1, σ, x1, x2, x3, x4, x5, x6 =>
(x4 ≤ x6 →
K97 σ x1 x2 x3 x4 x5) ∧
(¬ (x4 ≤ x6) →
∀ _ : I32 (σ 215 61),
(2000 < ((σ 215 61) : Int) →
K97 σ x1 x2 x3 x4 x5) ∧
(¬ (2000 < ((σ 215 61) : Int)) →
(2000 ≤ x6 →
f_X12_writesAgain_u88 Q (f_X12_writesAgain_u44 Q K97 N) σ x1 x2 x3 x4 x5 x6 x1 0) ∧
(¬ (2000 ≤ x6) →
I32 (2000 * x1) ∧
I32 ((2000 * x1) + x6) ∧
(0 : Int) ≤ ((2000 * x1) + x6) ∧ (((2000 * x1) + x6) : Int) < 32000 ∧
∀ _ : ml_I8 (σ 254 ((2000 * x1) + x6)),
f_X12_writesAgain_u88 Q (f_X12_writesAgain_u44 Q K97 N) σ x1 x2 x3 x4 x5 x6 x1 (σ 254 ((2000 * x1) + x6)))))
def f_X12_writesAgain_u97 (Q : ml_St → Prop) (K19 : ml_St → Int → Int → Int → Int → Int → Prop) (σ : ml_St) (x1 : Int) (x2 : Int) (x3 : Int) (x4 : Int) (x5 : Int) : Prop :=
I32 (x5 + 1) ∧
∀ y1 : Int, y1 = x5 + 1 →
K19 σ x1 x2 x3 x4 y1
def f_X12_writesAgain_u19 (Q : ml_St → Prop) (K103 : ml_St → Prop) : Nat → ml_St → Int → Int → Int → Int → Int → Prop
| 0, _, _, _, _, _, _ => False
| N + 1, σ, x1, x2, x3, x4, x5 =>
(x3 ≤ x5 →
K103 σ) ∧
(¬ (x3 ≤ x5) →
∀ _ : I32 (σ 215 61),
(2000 < ((σ 215 61) : Int) →
K103 σ) ∧
(¬ (2000 < ((σ 215 61) : Int)) →
(x4 ≤ x2 →
K103 σ) ∧
(¬ (x4 ≤ x2) →
∃ N1, f_X12_writesAgain_u44 Q (f_X12_writesAgain_u97 Q (f_X12_writesAgain_u19 Q K103 N)) N1 σ x1 x2 x3 x4 x5 x2)))
def f_X12_writesAgain_u103 (Q : ml_St → Prop) (σ : ml_St) : Prop :=
Q σ
def f_X12_writesAgain_u0 (Q : ml_St → Prop) (σ : ml_St) (x1 : Int) (x2 : Int) (x3 : Int) : Prop :=
∀ _ : I32 (σ 215 61),
∀ y2 : Int, y2 = σ 215 61 →
(x3 ≠ 0 →
∃ N1, f_X12_writesAgain_u19 Q (f_X12_writesAgain_u103 Q) N1 σ x1 x2 x3 y2 1) ∧
(x3 = 0 →
∀ σ4, σ4 = ml_up σ 215 61 x2 →
Q σ4)
def f_X12_writesAgain (σ : ml_St) (x1 : Int) (x2 : Int) (x3 : Int) (Q : ml_St → Prop) : Prop := f_X12_writesAgain_u0 Q σ x1 x2 x3
def rm_X12_writesAgain : Room := { frames := 1, cells := 0, slots := 0, locals := 22 }
set_option maxRecDepth 100000 in
set_option maxHeartbeats 4000000 in
theorem u_X12_writesAgain_88 {p : Program} {e : Env} {s : State} {m : MethodId} {args : Array Value} {below : List Frame} {meth : Method} {c : Code} {base : Nat} {D : va_G} {cA : Nat → ClassId} {n : Nat} {l : Launch} {Q : ml_St → Prop} {K44 : ml_St → Int → Int → Int → Int → Int → Int → Prop} (X : ml_X p s m c meth args D cA cX12_writesAgain 7 RX12 none) (hn : 256 ≤ n) (hK44 : ∀ (σ : ml_St) (x1 : Int) (x2 : Int) (x3 : Int) (x4 : Int) (x5 : Int) (x6 : Int) (h_x1 : I32 x1) (h_x2 : I32 x2) (h_x3 : I32 x3) (h_x4 : I32 x4) (h_x5 : I32 x5) (h_x6 : I32 x6) (ls : Array Slot), lv_has ls 7 [(0, .ref (base + (215 : Int).toNat)), (1, .int (Int32.ofInt x1)), (2, .int (Int32.ofInt x2)), (3, .int (Int32.ofInt x3)), (4, .int (Int32.ofInt x4)), (5, .int (Int32.ofInt x5)), (6, .int (Int32.ofInt x6))] → K44 σ x1 x2 x3 x4 x5 x6 → ml_V p l e rm_X12_writesAgain s m args below meth c (MQ below (ml_Qv base D cA n Q) args s 0 0 (ml_A base)) base D cA 0 0 n n σ (F0 m 44 ls [])) (σ : ml_St) (x1 : Int) (x2 : Int) (x3 : Int) (x4 : Int) (x5 : Int) (x6 : Int) (s1 : Int) (s2 : Int) (h_x1 : I32 x1) (h_x2 : I32 x2) (h_x3 : I32 x3) (h_x4 : I32 x4) (h_x5 : I32 x5) (h_x6 : I32 x6) (h_s1 : I32 s1) (h_s2 : I32 s2) (ls : Array Slot) (hl : lv_has ls 7 [(0, .ref (base + (215 : Int).toNat)), (1, .int (Int32.ofInt x1)), (2, .int (Int32.ofInt x2)), (3, .int (Int32.ofInt x3)), (4, .int (Int32.ofInt x4)), (5, .int (Int32.ofInt x5)), (6, .int (Int32.ofInt x6))]) (hw : f_X12_writesAgain_u88 Q K44 σ x1 x2 x3 x4 x5 x6 s1 s2) : ml_V p l e rm_X12_writesAgain s m args below meth c (MQ below (ml_Qv base D cA n Q) args s 0 0 (ml_A base)) base D cA 0 0 n n σ (F0 m 88 ls [.int (Int32.ofInt s2), .int (Int32.ofInt s1), .ref (base + (215 : Int).toNat)]) := by
  unfold f_X12_writesAgain_u88 at hw
  refine ml_callvV (pc := 88) (rest := []) X [.int (Int32.ofInt s1), .int (Int32.ofInt s2)] (by decide) rfl (ml_c215 hn) (c_X12_writes l base D cA n hn σ s1 s2 h_s1 h_s2 _ hw) cv_X12_421 ⟨rfl, rfl⟩ ⟨by decide, by decide⟩ rfl rfl hl (Nat.le_of_ble_eq_true rfl) ⟨Nat.zero_le _, Nat.zero_le _⟩ dX12_writesAgain_88 (fun σ1 hw => ?_)
  obtain ⟨v2, hw⟩ := hw
  obtain ⟨y2, e2⟩ : ∃ y : Int, y = x6 + 1 := ⟨_, rfl⟩
  have hw := hw y2 e2
  rw [← e2] at v2
  refine ml_iinc (pc := 91) X e2 hl 6 rfl (by decide) (lst' := [(6, .int (Int32.ofInt y2)), (0, .ref (base + (215 : Int).toNat)), (1, .int (Int32.ofInt x1)), (2, .int (Int32.ofInt x2)), (3, .int (Int32.ofInt x3)), (4, .int (Int32.ofInt x4)), (5, .int (Int32.ofInt x5))]) rfl dX12_writesAgain_91 (fun ls hl => ?_)
  refine ml_goto (pc := 94) (tgt := 44) X dX12_writesAgain_94 (by decide) ?_
  exact hK44 σ1 x1 x2 x3 x4 x5 y2 h_x1 h_x2 h_x3 h_x4 h_x5 v2 _ (lv_sub hl [1, 2, 3, 4, 5, 6, 0] rfl) hw
set_option maxRecDepth 100000 in
set_option maxHeartbeats 4000000 in
theorem u_X12_writesAgain_44 {p : Program} {e : Env} {s : State} {m : MethodId} {args : Array Value} {below : List Frame} {meth : Method} {c : Code} {base : Nat} {D : va_G} {cA : Nat → ClassId} {n : Nat} {l : Launch} {Q : ml_St → Prop} {K97 : ml_St → Int → Int → Int → Int → Int → Prop} (X : ml_X p s m c meth args D cA cX12_writesAgain 7 RX12 none) (hn : 256 ≤ n) (hK97 : ∀ (σ : ml_St) (x1 : Int) (x2 : Int) (x3 : Int) (x4 : Int) (x5 : Int) (h_x1 : I32 x1) (h_x2 : I32 x2) (h_x3 : I32 x3) (h_x4 : I32 x4) (h_x5 : I32 x5) (ls : Array Slot), lv_has ls 7 [(0, .ref (base + (215 : Int).toNat)), (1, .int (Int32.ofInt x1)), (2, .int (Int32.ofInt x2)), (3, .int (Int32.ofInt x3)), (4, .int (Int32.ofInt x4)), (5, .int (Int32.ofInt x5))] → K97 σ x1 x2 x3 x4 x5 → ml_V p l e rm_X12_writesAgain s m args below meth c (MQ below (ml_Qv base D cA n Q) args s 0 0 (ml_A base)) base D cA 0 0 n n σ (F0 m 97 ls [])) : ∀ (N : Nat) (σ : ml_St) (x1 : Int) (x2 : Int) (x3 : Int) (x4 : Int) (x5 : Int) (x6 : Int) (h_x1 : I32 x1) (h_x2 : I32 x2) (h_x3 : I32 x3) (h_x4 : I32 x4) (h_x5 : I32 x5) (h_x6 : I32 x6) (ls : Array Slot), lv_has ls 7 [(0, .ref (base + (215 : Int).toNat)), (1, .int (Int32.ofInt x1)), (2, .int (Int32.ofInt x2)), (3, .int (Int32.ofInt x3)), (4, .int (Int32.ofInt x4)), (5, .int (Int32.ofInt x5)), (6, .int (Int32.ofInt x6))] → f_X12_writesAgain_u44 Q K97 N σ x1 x2 x3 x4 x5 x6 → ml_V p l e rm_X12_writesAgain s m args below meth c (MQ below (ml_Qv base D cA n Q) args s 0 0 (ml_A base)) base D cA 0 0 n n σ (F0 m 44 ls []) := by
  intro N
  induction N with
  | zero => intro σ x1 x2 x3 x4 x5 x6 h_x1 h_x2 h_x3 h_x4 h_x5 h_x6 ls hl hw; exact False.elim hw
  | succ N ih =>
    intro σ x1 x2 x3 x4 x5 x6 h_x1 h_x2 h_x3 h_x4 h_x5 h_x6 ls hl hw
    unfold f_X12_writesAgain_u44 at hw
    refine ml_iload (pc := 44) X hl 6 rfl dX12_writesAgain_44 ?_
    refine ml_iload (pc := 46) X hl 4 rfl dX12_writesAgain_46 ?_
    refine ml_icmp_ge (pc := 48) (tgt := 97) X h_x6 h_x4 dX12_writesAgain_48 (by decide) (fun c1 => ?_) (fun c1 => ?_)
    · have hw := hw.1 c1
      exact hK97 σ x1 x2 x3 x4 x5 h_x1 h_x2 h_x3 h_x4 h_x5 _ (lv_sub hl [0, 1, 2, 3, 4, 5] rfl) hw
    · have hw := hw.2 c1
      refine ml_aload_n (pc := 51) X hl 0 rfl rfl dX12_writesAgain_51 ?_
      refine gf_X12_418 (pc := 52) X (ml_c215 hn) dX12_writesAgain_52 (fun r2 => ?_)
      have hw := hw r2
      refine ml_sipush (pc := 55) X dX12_writesAgain_55 (by decide) ?_
      refine ml_icmp_gt (pc := 58) (tgt := 97) X r2 ⟨by decide, by decide⟩ dX12_writesAgain_58 (by decide) (fun c3 => ?_) (fun c3 => ?_)
      · have hw := hw.1 c3
        exact hK97 σ x1 x2 x3 x4 x5 h_x1 h_x2 h_x3 h_x4 h_x5 _ (lv_sub hl [0, 1, 2, 3, 4, 5] rfl) hw
      · have hw := hw.2 c3
        refine ml_aload_n (pc := 61) X hl 0 rfl rfl dX12_writesAgain_61 ?_
        refine ml_iload_n (pc := 62) X hl 1 rfl rfl dX12_writesAgain_62 ?_
        refine ml_iload (pc := 63) X hl 6 rfl dX12_writesAgain_63 ?_
        refine ml_sipush (pc := 65) X dX12_writesAgain_65 (by decide) ?_
        refine ml_icmp_ge (pc := 68) (tgt := 87) X h_x6 ⟨by decide, by decide⟩ dX12_writesAgain_68 (by decide) (fun c4 => ?_) (fun c4 => ?_)
        · have hw := hw.1 c4
          refine ml_iconst (pc := 87) X dX12_writesAgain_87 ?_
          exact u_X12_writesAgain_88 X hn ih σ x1 x2 x3 x4 x5 x6 x1 0 h_x1 h_x2 h_x3 h_x4 h_x5 h_x6 h_x1 ⟨by decide, by decide⟩ _ (lv_sub hl [0, 1, 2, 3, 4, 5, 6] rfl) hw
        · have hw := hw.2 c4
          refine ml_aload_n (pc := 71) X hl 0 rfl rfl dX12_writesAgain_71 ?_
          refine gf_X12_131 (pc := 72) X (ml_c215 hn) dX12_writesAgain_72 ?_
          refine ml_sipush (pc := 75) X dX12_writesAgain_75 (by decide) ?_
          refine ml_iload_n (pc := 78) X hl 1 rfl rfl dX12_writesAgain_78 ?_
          obtain ⟨v5, hw⟩ := hw
          refine ml_imul (pc := 79) X dX12_writesAgain_79 ?_
          refine ml_iload (pc := 80) X hl 6 rfl dX12_writesAgain_80 ?_
          obtain ⟨v6, hw⟩ := hw
          refine ml_iadd (pc := 82) X dX12_writesAgain_82 ?_
          obtain ⟨a7, b7, hw⟩ := hw
          refine ml_bald (pc := 83) (N := 32000) X (ml_c254 hn) a7 b7 dX12_writesAgain_83 (fun r7 => ?_)
          have hw := hw r7
          refine ml_goto (pc := 84) (tgt := 88) X dX12_writesAgain_84 (by decide) ?_
          exact u_X12_writesAgain_88 X hn ih σ x1 x2 x3 x4 x5 x6 x1 (σ 254 ((2000 * x1) + x6)) h_x1 h_x2 h_x3 h_x4 h_x5 h_x6 h_x1 r7.i _ (lv_sub hl [0, 1, 2, 3, 4, 5, 6] rfl) hw
set_option maxRecDepth 100000 in
set_option maxHeartbeats 4000000 in
theorem u_X12_writesAgain_97 {p : Program} {e : Env} {s : State} {m : MethodId} {args : Array Value} {below : List Frame} {meth : Method} {c : Code} {base : Nat} {D : va_G} {cA : Nat → ClassId} {n : Nat} {l : Launch} {Q : ml_St → Prop} {K19 : ml_St → Int → Int → Int → Int → Int → Prop} (X : ml_X p s m c meth args D cA cX12_writesAgain 7 RX12 none) (hn : 256 ≤ n) (hK19 : ∀ (σ : ml_St) (x1 : Int) (x2 : Int) (x3 : Int) (x4 : Int) (x5 : Int) (h_x1 : I32 x1) (h_x2 : I32 x2) (h_x3 : I32 x3) (h_x4 : I32 x4) (h_x5 : I32 x5) (ls : Array Slot), lv_has ls 7 [(0, .ref (base + (215 : Int).toNat)), (1, .int (Int32.ofInt x1)), (2, .int (Int32.ofInt x2)), (3, .int (Int32.ofInt x3)), (4, .int (Int32.ofInt x4)), (5, .int (Int32.ofInt x5))] → K19 σ x1 x2 x3 x4 x5 → ml_V p l e rm_X12_writesAgain s m args below meth c (MQ below (ml_Qv base D cA n Q) args s 0 0 (ml_A base)) base D cA 0 0 n n σ (F0 m 19 ls [])) (σ : ml_St) (x1 : Int) (x2 : Int) (x3 : Int) (x4 : Int) (x5 : Int) (h_x1 : I32 x1) (h_x2 : I32 x2) (h_x3 : I32 x3) (h_x4 : I32 x4) (h_x5 : I32 x5) (ls : Array Slot) (hl : lv_has ls 7 [(0, .ref (base + (215 : Int).toNat)), (1, .int (Int32.ofInt x1)), (2, .int (Int32.ofInt x2)), (3, .int (Int32.ofInt x3)), (4, .int (Int32.ofInt x4)), (5, .int (Int32.ofInt x5))]) (hw : f_X12_writesAgain_u97 Q K19 σ x1 x2 x3 x4 x5) : ml_V p l e rm_X12_writesAgain s m args below meth c (MQ below (ml_Qv base D cA n Q) args s 0 0 (ml_A base)) base D cA 0 0 n n σ (F0 m 97 ls []) := by
  unfold f_X12_writesAgain_u97 at hw
  obtain ⟨v1, hw⟩ := hw
  obtain ⟨y1, e1⟩ : ∃ y : Int, y = x5 + 1 := ⟨_, rfl⟩
  have hw := hw y1 e1
  rw [← e1] at v1
  refine ml_iinc (pc := 97) X e1 hl 5 rfl (by decide) (lst' := [(5, .int (Int32.ofInt y1)), (0, .ref (base + (215 : Int).toNat)), (1, .int (Int32.ofInt x1)), (2, .int (Int32.ofInt x2)), (3, .int (Int32.ofInt x3)), (4, .int (Int32.ofInt x4))]) rfl dX12_writesAgain_97 (fun ls hl => ?_)
  refine ml_goto (pc := 100) (tgt := 19) X dX12_writesAgain_100 (by decide) ?_
  exact hK19 σ x1 x2 x3 x4 y1 h_x1 h_x2 h_x3 h_x4 v1 _ (lv_sub hl [1, 2, 3, 4, 5, 0] rfl) hw
set_option maxRecDepth 100000 in
set_option maxHeartbeats 4000000 in
theorem u_X12_writesAgain_19 {p : Program} {e : Env} {s : State} {m : MethodId} {args : Array Value} {below : List Frame} {meth : Method} {c : Code} {base : Nat} {D : va_G} {cA : Nat → ClassId} {n : Nat} {l : Launch} {Q : ml_St → Prop} {K103 : ml_St → Prop} (X : ml_X p s m c meth args D cA cX12_writesAgain 7 RX12 none) (hn : 256 ≤ n) (hK103 : ∀ (σ : ml_St) (ls : Array Slot), lv_has ls 7 [] → K103 σ → ml_V p l e rm_X12_writesAgain s m args below meth c (MQ below (ml_Qv base D cA n Q) args s 0 0 (ml_A base)) base D cA 0 0 n n σ (F0 m 103 ls [])) : ∀ (N : Nat) (σ : ml_St) (x1 : Int) (x2 : Int) (x3 : Int) (x4 : Int) (x5 : Int) (h_x1 : I32 x1) (h_x2 : I32 x2) (h_x3 : I32 x3) (h_x4 : I32 x4) (h_x5 : I32 x5) (ls : Array Slot), lv_has ls 7 [(0, .ref (base + (215 : Int).toNat)), (1, .int (Int32.ofInt x1)), (2, .int (Int32.ofInt x2)), (3, .int (Int32.ofInt x3)), (4, .int (Int32.ofInt x4)), (5, .int (Int32.ofInt x5))] → f_X12_writesAgain_u19 Q K103 N σ x1 x2 x3 x4 x5 → ml_V p l e rm_X12_writesAgain s m args below meth c (MQ below (ml_Qv base D cA n Q) args s 0 0 (ml_A base)) base D cA 0 0 n n σ (F0 m 19 ls []) := by
  intro N
  induction N with
  | zero => intro σ x1 x2 x3 x4 x5 h_x1 h_x2 h_x3 h_x4 h_x5 ls hl hw; exact False.elim hw
  | succ N ih =>
    intro σ x1 x2 x3 x4 x5 h_x1 h_x2 h_x3 h_x4 h_x5 ls hl hw
    unfold f_X12_writesAgain_u19 at hw
    refine ml_iload (pc := 19) X hl 5 rfl dX12_writesAgain_19 ?_
    refine ml_iload_n (pc := 21) X hl 3 rfl rfl dX12_writesAgain_21 ?_
    refine ml_icmp_ge (pc := 22) (tgt := 103) X h_x5 h_x3 dX12_writesAgain_22 (by decide) (fun c1 => ?_) (fun c1 => ?_)
    · have hw := hw.1 c1
      exact hK103 σ   _ (lv_sub hl [] rfl) hw
    · have hw := hw.2 c1
      refine ml_aload_n (pc := 25) X hl 0 rfl rfl dX12_writesAgain_25 ?_
      refine gf_X12_418 (pc := 26) X (ml_c215 hn) dX12_writesAgain_26 (fun r2 => ?_)
      have hw := hw r2
      refine ml_sipush (pc := 29) X dX12_writesAgain_29 (by decide) ?_
      refine ml_icmp_gt (pc := 32) (tgt := 103) X r2 ⟨by decide, by decide⟩ dX12_writesAgain_32 (by decide) (fun c3 => ?_) (fun c3 => ?_)
      · have hw := hw.1 c3
        exact hK103 σ   _ (lv_sub hl [] rfl) hw
      · have hw := hw.2 c3
        refine ml_iload (pc := 35) X hl 4 rfl dX12_writesAgain_35 ?_
        refine ml_iload_n (pc := 37) X hl 2 rfl rfl dX12_writesAgain_37 ?_
        refine ml_icmp_le (pc := 38) (tgt := 103) X h_x4 h_x2 dX12_writesAgain_38 (by decide) (fun c4 => ?_) (fun c4 => ?_)
        · have hw := hw.1 c4
          exact hK103 σ   _ (lv_sub hl [] rfl) hw
        · have hw := hw.2 c4
          refine ml_iload_n (pc := 41) X hl 2 rfl rfl dX12_writesAgain_41 ?_
          refine ml_istore (pc := 42) X hl (by decide) (lst' := [(6, .int (Int32.ofInt x2)), (0, .ref (base + (215 : Int).toNat)), (1, .int (Int32.ofInt x1)), (2, .int (Int32.ofInt x2)), (3, .int (Int32.ofInt x3)), (4, .int (Int32.ofInt x4)), (5, .int (Int32.ofInt x5))]) rfl dX12_writesAgain_42 (fun ls hl => ?_)
          obtain ⟨N0, hw⟩ := hw
          exact u_X12_writesAgain_44 X hn (fun σ x1 x2 x3 x4 x5 h_x1 h_x2 h_x3 h_x4 h_x5 ls hl hw => u_X12_writesAgain_97 X hn ih σ x1 x2 x3 x4 x5 h_x1 h_x2 h_x3 h_x4 h_x5 ls hl hw) N0 σ x1 x2 x3 x4 x5 x2 h_x1 h_x2 h_x3 h_x4 h_x5 h_x2 _ (lv_sub hl [1, 2, 3, 4, 5, 6, 0] rfl) hw
set_option maxRecDepth 100000 in
set_option maxHeartbeats 4000000 in
theorem u_X12_writesAgain_103 {p : Program} {e : Env} {s : State} {m : MethodId} {args : Array Value} {below : List Frame} {meth : Method} {c : Code} {base : Nat} {D : va_G} {cA : Nat → ClassId} {n : Nat} {l : Launch} {Q : ml_St → Prop} (X : ml_X p s m c meth args D cA cX12_writesAgain 7 RX12 none) (hn : 256 ≤ n) (σ : ml_St) (ls : Array Slot) (hl : lv_has ls 7 []) (hw : f_X12_writesAgain_u103 Q σ) : ml_V p l e rm_X12_writesAgain s m args below meth c (MQ below (ml_Qv base D cA n Q) args s 0 0 (ml_A base)) base D cA 0 0 n n σ (F0 m 103 ls []) := by
  unfold f_X12_writesAgain_u103 at hw
  exact ml_vret (pc := 103) X hw dX12_writesAgain_103
set_option maxRecDepth 100000 in
set_option maxHeartbeats 4000000 in
theorem u_X12_writesAgain_0 {p : Program} {e : Env} {s : State} {m : MethodId} {args : Array Value} {below : List Frame} {meth : Method} {c : Code} {base : Nat} {D : va_G} {cA : Nat → ClassId} {n : Nat} {l : Launch} {Q : ml_St → Prop} (X : ml_X p s m c meth args D cA cX12_writesAgain 7 RX12 none) (hn : 256 ≤ n) (σ : ml_St) (x1 : Int) (x2 : Int) (x3 : Int) (h_x1 : I32 x1) (h_x2 : I32 x2) (h_x3 : I32 x3) (ls : Array Slot) (hl : lv_has ls 7 [(0, .ref (base + (215 : Int).toNat)), (1, .int (Int32.ofInt x1)), (2, .int (Int32.ofInt x2)), (3, .int (Int32.ofInt x3))]) (hw : f_X12_writesAgain_u0 Q σ x1 x2 x3) : ml_V p l e rm_X12_writesAgain s m args below meth c (MQ below (ml_Qv base D cA n Q) args s 0 0 (ml_A base)) base D cA 0 0 n n σ (F0 m 0 ls []) := by
  unfold f_X12_writesAgain_u0 at hw
  refine ml_aload_n (pc := 0) X hl 0 rfl rfl dX12_writesAgain_0 ?_
  refine gf_X12_418 (pc := 1) X (ml_c215 hn) dX12_writesAgain_1 (fun r1 => ?_)
  have hw := hw r1
  refine ml_topI (pc := 4) (fun y2 e2 => ?_)
  have hw := hw y2 e2
  have q2 : I32 y2 := by rw [e2]; exact r1
  refine ml_istore (pc := 4) X hl (by decide) (lst' := [(4, .int (Int32.ofInt y2)), (0, .ref (base + (215 : Int).toNat)), (1, .int (Int32.ofInt x1)), (2, .int (Int32.ofInt x2)), (3, .int (Int32.ofInt x3))]) rfl dX12_writesAgain_4 (fun ls hl => ?_)
  refine ml_iload_n (pc := 6) X hl 4 rfl rfl dX12_writesAgain_6 ?_
  refine ml_if_ne (pc := 7) (tgt := 16) X h_x3 dX12_writesAgain_7 (by decide) (fun c3 => ?_) (fun c3 => ?_)
  · have hw := hw.1 c3
    refine ml_iconst (pc := 16) X dX12_writesAgain_16 ?_
    refine ml_istore (pc := 17) X hl (by decide) (lst' := [(5, .int (Int32.ofInt 1)), (4, .int (Int32.ofInt y2)), (0, .ref (base + (215 : Int).toNat)), (1, .int (Int32.ofInt x1)), (2, .int (Int32.ofInt x2)), (3, .int (Int32.ofInt x3))]) rfl dX12_writesAgain_17 (fun ls hl => ?_)
    obtain ⟨N0, hw⟩ := hw
    exact u_X12_writesAgain_19 X hn (fun σ   ls hl hw => u_X12_writesAgain_103 X hn σ   ls hl hw) N0 σ x1 x2 x3 y2 1 h_x1 h_x2 h_x3 q2 ⟨by decide, by decide⟩ _ (lv_sub hl [2, 3, 4, 5, 1, 0] rfl) hw
  · have hw := hw.2 c3
    refine ml_aload_n (pc := 10) X hl 1 rfl rfl dX12_writesAgain_10 ?_
    refine ml_iload_n (pc := 11) X hl 3 rfl rfl dX12_writesAgain_11 ?_
    refine pf_X12_418 (pc := 12) X (ml_c215 hn) h_x2 dX12_writesAgain_12 (fun σ4 g4 => ?_)
    have hw := hw σ4 g4
    exact ml_vret (pc := 15) X hw dX12_writesAgain_15
set_option maxRecDepth 100000 in
theorem c_X12_writesAgain (l : Launch) (base : Nat) (D : va_G) (cA : Nat → ClassId) (n : Nat) (hn : 256 ≤ n) (σ : ml_St) (x1 : Int) (x2 : Int) (x3 : Int) (h_x1 : I32 x1) (h_x2 : I32 x2) (h_x3 : I32 x3) (Q : ml_St → Prop) (hw : f_X12_writesAgain σ x1 x2 x3 Q) : Met l yX12_writesAgain (Cond.code yX12_writesAgain cX12_writesAgain 7 none :: ml_T) rm_X12_writesAgain (va_Pc [.ref (base + (215 : Int).toNat), .int (Int32.ofInt x1), .int (Int32.ofInt x2), .int (Int32.ofInt x3)] (ml_U base D cA n σ)) (ml_Qv base D cA n Q) 0 0 (ml_A base) := by
  refine Met.ofW (cc := cX12_writesAgain) (maxL := 7) (ret := none) (by decide) rfl ?_
  intro p e s m args below meth c s₁ B hml hv
  obtain ⟨rfl, hP, hK, hok, hro⟩ := hv
  have X : ml_X p s m c meth _ D cA cX12_writesAgain 7 RX12 none := ⟨B.exec, B.bytes, hml, findClass_of_methodNamed B.named, fun w hw => atoms_spec (ws := Cond.code yX12_writesAgain cX12_writesAgain 7 none :: ml_T) B.pre w (List.mem_cons_of_mem _ hw), hK, B.notSynchronized, B.returns⟩
  have hl := lv_entry [.ref (base + (215 : Int).toNat), .int (Int32.ofInt x1), .int (Int32.ofInt x2), .int (Int32.ofInt x3)] (n := 7) (Nat.le_of_ble_eq_true rfl)
  rw [lg_entry_eq]
  generalize (lg_sl [.ref (base + (215 : Int).toNat), .int (Int32.ofInt x1), .int (Int32.ofInt x2), .int (Int32.ofInt x3)] ++ List.replicate (7 - (lg_sl [.ref (base + (215 : Int).toNat), .int (Int32.ofInt x1), .int (Int32.ofInt x2), .int (Int32.ofInt x3)]).length) Slot.unset).toArray = ls at hl ⊢
  have hl : lv_has ls 7 [(0, .ref (base + (215 : Int).toNat)), (1, .int (Int32.ofInt x1)), (2, .int (Int32.ofInt x2)), (3, .int (Int32.ofInt x3))] := hl
  unfold f_X12_writesAgain at hw
  exact u_X12_writesAgain_0 X hn σ x1 x2 x3 h_x1 h_x2 h_x3 _ (lv_sub hl [0, 1, 2, 3] rfl) hw s.heap [] hP va_S.rf hok hro
theorem dX12_writesOut_0 : decode cX12_writesOut 0 = .ok (.iconst 0, 1) := by decide +kernel
theorem dX12_writesOut_1 : decode cX12_writesOut 1 = .ok (.istore_n 2, 1) := by decide +kernel
theorem dX12_writesOut_2 : decode cX12_writesOut 2 = .ok (.aload_n 0, 1) := by decide +kernel
theorem dX12_writesOut_3 : decode cX12_writesOut 3 = .ok (.iload_n 1, 1) := by decide +kernel
theorem dX12_writesOut_4 : decode cX12_writesOut 4 = .ok (.putfield 201, 3) := by decide +kernel
theorem dX12_writesOut_7 : decode cX12_writesOut 7 = .ok (.aload_n 0, 1) := by decide +kernel
theorem dX12_writesOut_8 : decode cX12_writesOut 8 = .ok (.iconst 0, 1) := by decide +kernel
theorem dX12_writesOut_9 : decode cX12_writesOut 9 = .ok (.putfield 198, 3) := by decide +kernel
theorem dX12_writesOut_12 : decode cX12_writesOut 12 = .ok (.aload_n 0, 1) := by decide +kernel
theorem dX12_writesOut_13 : decode cX12_writesOut 13 = .ok (.iconst 0, 1) := by decide +kernel
theorem dX12_writesOut_14 : decode cX12_writesOut 14 = .ok (.putfield 418, 3) := by decide +kernel
theorem dX12_writesOut_17 : decode cX12_writesOut 17 = .ok (.aload_n 0, 1) := by decide +kernel
theorem dX12_writesOut_18 : decode cX12_writesOut 18 = .ok (.getfield 137, 3) := by decide +kernel
theorem dX12_writesOut_21 : decode cX12_writesOut 21 = .ok (.iconst 0, 1) := by decide +kernel
theorem dX12_writesOut_22 : decode cX12_writesOut 22 = .ok (.iconst 0, 1) := by decide +kernel
theorem dX12_writesOut_23 : decode cX12_writesOut 23 = .ok (.iastore, 1) := by decide +kernel
theorem dX12_writesOut_24 : decode cX12_writesOut 24 = .ok (.aload_n 0, 1) := by decide +kernel
theorem dX12_writesOut_25 : decode cX12_writesOut 25 = .ok (.getfield 198, 3) := by decide +kernel
theorem dX12_writesOut_28 : decode cX12_writesOut 28 = .ok (.aload_n 0, 1) := by decide +kernel
theorem dX12_writesOut_29 : decode cX12_writesOut 29 = .ok (.getfield 24, 3) := by decide +kernel
theorem dX12_writesOut_32 : decode cX12_writesOut 32 = .ok (.iload_n 1, 1) := by decide +kernel
theorem dX12_writesOut_33 : decode cX12_writesOut 33 = .ok (.iaload, 1) := by decide +kernel
theorem dX12_writesOut_34 : decode cX12_writesOut 34 = .ok (.if_icmp .ge 220, 3) := by decide +kernel
theorem dX12_writesOut_37 : decode cX12_writesOut 37 = .ok (.aload_n 0, 1) := by decide +kernel
theorem dX12_writesOut_38 : decode cX12_writesOut 38 = .ok (.invokevirtual 204, 3) := by decide +kernel
theorem dX12_writesOut_41 : decode cX12_writesOut 41 = .ok (.istore_n 3, 1) := by decide +kernel
theorem dX12_writesOut_42 : decode cX12_writesOut 42 = .ok (.aload_n 0, 1) := by decide +kernel
theorem dX12_writesOut_43 : decode cX12_writesOut 43 = .ok (.dup, 1) := by decide +kernel
theorem dX12_writesOut_44 : decode cX12_writesOut 44 = .ok (.getfield 198, 3) := by decide +kernel
theorem dX12_writesOut_47 : decode cX12_writesOut 47 = .ok (.iconst 1, 1) := by decide +kernel
theorem dX12_writesOut_48 : decode cX12_writesOut 48 = .ok (.iadd, 1) := by decide +kernel
theorem dX12_writesOut_49 : decode cX12_writesOut 49 = .ok (.putfield 198, 3) := by decide +kernel
theorem dX12_writesOut_52 : decode cX12_writesOut 52 = .ok (.iload_n 3, 1) := by decide +kernel
theorem dX12_writesOut_53 : decode cX12_writesOut 53 = .ok (.bipush 42, 2) := by decide +kernel
theorem dX12_writesOut_55 : decode cX12_writesOut 55 = .ok (.if_icmp .ne 25, 3) := by decide +kernel
theorem dX12_writesOut_58 : decode cX12_writesOut 58 = .ok (.aload_n 0, 1) := by decide +kernel
theorem dX12_writesOut_59 : decode cX12_writesOut 59 = .ok (.invokevirtual 207, 3) := by decide +kernel
theorem dX12_writesOut_62 : decode cX12_writesOut 62 = .ok (.istore 4, 2) := by decide +kernel
theorem dX12_writesOut_64 : decode cX12_writesOut 64 = .ok (.aload_n 0, 1) := by decide +kernel
theorem dX12_writesOut_65 : decode cX12_writesOut 65 = .ok (.iload_n 1, 1) := by decide +kernel
theorem dX12_writesOut_66 : decode cX12_writesOut 66 = .ok (.aload_n 0, 1) := by decide +kernel
theorem dX12_writesOut_67 : decode cX12_writesOut 67 = .ok (.getfield 137, 3) := by decide +kernel
theorem dX12_writesOut_70 : decode cX12_writesOut 70 = .ok (.iload_n 2, 1) := by decide +kernel
theorem dX12_writesOut_71 : decode cX12_writesOut 71 = .ok (.iaload, 1) := by decide +kernel
theorem dX12_writesOut_72 : decode cX12_writesOut 72 = .ok (.iload 4, 2) := by decide +kernel
theorem dX12_writesOut_74 : decode cX12_writesOut 74 = .ok (.invokevirtual 424, 3) := by decide +kernel
theorem dX12_writesOut_77 : decode cX12_writesOut 77 = .ok (.goto 174, 3) := by decide +kernel
theorem dX12_writesOut_80 : decode cX12_writesOut 80 = .ok (.iload_n 3, 1) := by decide +kernel
theorem dX12_writesOut_81 : decode cX12_writesOut 81 = .ok (.bipush 40, 2) := by decide +kernel
theorem dX12_writesOut_83 : decode cX12_writesOut 83 = .ok (.if_icmp .ne 29, 3) := by decide +kernel
theorem dX12_writesOut_86 : decode cX12_writesOut 86 = .ok (.aload_n 0, 1) := by decide +kernel
theorem dX12_writesOut_87 : decode cX12_writesOut 87 = .ok (.getfield 137, 3) := by decide +kernel
theorem dX12_writesOut_90 : decode cX12_writesOut 90 = .ok (.iload_n 2, 1) := by decide +kernel
theorem dX12_writesOut_91 : decode cX12_writesOut 91 = .ok (.aload_n 0, 1) := by decide +kernel
theorem dX12_writesOut_92 : decode cX12_writesOut 92 = .ok (.getfield 418, 3) := by decide +kernel
theorem dX12_writesOut_95 : decode cX12_writesOut 95 = .ok (.iastore, 1) := by decide +kernel
theorem dX12_writesOut_96 : decode cX12_writesOut 96 = .ok (.iinc 2 1, 3) := by decide +kernel
theorem dX12_writesOut_99 : decode cX12_writesOut 99 = .ok (.aload_n 0, 1) := by decide +kernel
theorem dX12_writesOut_100 : decode cX12_writesOut 100 = .ok (.getfield 137, 3) := by decide +kernel
theorem dX12_writesOut_103 : decode cX12_writesOut 103 = .ok (.iload_n 2, 1) := by decide +kernel
theorem dX12_writesOut_104 : decode cX12_writesOut 104 = .ok (.aload_n 0, 1) := by decide +kernel
theorem dX12_writesOut_105 : decode cX12_writesOut 105 = .ok (.getfield 418, 3) := by decide +kernel
theorem dX12_writesOut_108 : decode cX12_writesOut 108 = .ok (.iastore, 1) := by decide +kernel
theorem dX12_writesOut_109 : decode cX12_writesOut 109 = .ok (.goto 142, 3) := by decide +kernel
theorem dX12_writesOut_112 : decode cX12_writesOut 112 = .ok (.iload_n 3, 1) := by decide +kernel
theorem dX12_writesOut_113 : decode cX12_writesOut 113 = .ok (.bipush 41, 2) := by decide +kernel
theorem dX12_writesOut_115 : decode cX12_writesOut 115 = .ok (.if_icmp .ne 9, 3) := by decide +kernel
theorem dX12_writesOut_118 : decode cX12_writesOut 118 = .ok (.iinc 2 (-1), 3) := by decide +kernel
theorem dX12_writesOut_121 : decode cX12_writesOut 121 = .ok (.goto 130, 3) := by decide +kernel
theorem dX12_writesOut_124 : decode cX12_writesOut 124 = .ok (.iload_n 3, 1) := by decide +kernel
theorem dX12_writesOut_125 : decode cX12_writesOut 125 = .ok (.bipush 120, 2) := by decide +kernel
theorem dX12_writesOut_127 : decode cX12_writesOut 127 = .ok (.if_icmp .eq 9, 3) := by decide +kernel
theorem dX12_writesOut_130 : decode cX12_writesOut 130 = .ok (.iload_n 3, 1) := by decide +kernel
theorem dX12_writesOut_131 : decode cX12_writesOut 131 = .ok (.bipush 117, 2) := by decide +kernel
theorem dX12_writesOut_133 : decode cX12_writesOut 133 = .ok (.if_icmp .ne 52, 3) := by decide +kernel
theorem dX12_writesOut_136 : decode cX12_writesOut 136 = .ok (.aload_n 0, 1) := by decide +kernel
theorem dX12_writesOut_137 : decode cX12_writesOut 137 = .ok (.getfield 137, 3) := by decide +kernel
theorem dX12_writesOut_140 : decode cX12_writesOut 140 = .ok (.iload_n 2, 1) := by decide +kernel
theorem dX12_writesOut_141 : decode cX12_writesOut 141 = .ok (.aload_n 0, 1) := by decide +kernel
theorem dX12_writesOut_142 : decode cX12_writesOut 142 = .ok (.getfield 418, 3) := by decide +kernel
theorem dX12_writesOut_145 : decode cX12_writesOut 145 = .ok (.iastore, 1) := by decide +kernel
theorem dX12_writesOut_146 : decode cX12_writesOut 146 = .ok (.aload_n 0, 1) := by decide +kernel
theorem dX12_writesOut_147 : decode cX12_writesOut 147 = .ok (.iload_n 1, 1) := by decide +kernel
theorem dX12_writesOut_148 : decode cX12_writesOut 148 = .ok (.iconst 2, 1) := by decide +kernel
theorem dX12_writesOut_149 : decode cX12_writesOut 149 = .ok (.aload_n 0, 1) := by decide +kernel
theorem dX12_writesOut_150 : decode cX12_writesOut 150 = .ok (.invokevirtual 204, 3) := by decide +kernel
theorem dX12_writesOut_153 : decode cX12_writesOut 153 = .ok (.bipush 48, 2) := by decide +kernel
theorem dX12_writesOut_155 : decode cX12_writesOut 155 = .ok (.isub, 1) := by decide +kernel
theorem dX12_writesOut_156 : decode cX12_writesOut 156 = .ok (.imul, 1) := by decide +kernel
theorem dX12_writesOut_157 : decode cX12_writesOut 157 = .ok (.iload_n 3, 1) := by decide +kernel
theorem dX12_writesOut_158 : decode cX12_writesOut 158 = .ok (.bipush 120, 2) := by decide +kernel
theorem dX12_writesOut_160 : decode cX12_writesOut 160 = .ok (.if_icmp .ne 7, 3) := by decide +kernel
theorem dX12_writesOut_163 : decode cX12_writesOut 163 = .ok (.iconst 1, 1) := by decide +kernel
theorem dX12_writesOut_164 : decode cX12_writesOut 164 = .ok (.goto 4, 3) := by decide +kernel
theorem dX12_writesOut_167 : decode cX12_writesOut 167 = .ok (.iconst 0, 1) := by decide +kernel
theorem dX12_writesOut_168 : decode cX12_writesOut 168 = .ok (.iadd, 1) := by decide +kernel
theorem dX12_writesOut_169 : decode cX12_writesOut 169 = .ok (.invokevirtual 421, 3) := by decide +kernel
theorem dX12_writesOut_172 : decode cX12_writesOut 172 = .ok (.aload_n 0, 1) := by decide +kernel
theorem dX12_writesOut_173 : decode cX12_writesOut 173 = .ok (.dup, 1) := by decide +kernel
theorem dX12_writesOut_174 : decode cX12_writesOut 174 = .ok (.getfield 198, 3) := by decide +kernel
theorem dX12_writesOut_177 : decode cX12_writesOut 177 = .ok (.iconst 1, 1) := by decide +kernel
theorem dX12_writesOut_178 : decode cX12_writesOut 178 = .ok (.iadd, 1) := by decide +kernel
theorem dX12_writesOut_179 : decode cX12_writesOut 179 = .ok (.putfield 198, 3) := by decide +kernel
theorem dX12_writesOut_182 : decode cX12_writesOut 182 = .ok (.goto 69, 3) := by decide +kernel
theorem dX12_writesOut_185 : decode cX12_writesOut 185 = .ok (.aload_n 0, 1) := by decide +kernel
theorem dX12_writesOut_186 : decode cX12_writesOut 186 = .ok (.getfield 137, 3) := by decide +kernel
theorem dX12_writesOut_189 : decode cX12_writesOut 189 = .ok (.iload_n 2, 1) := by decide +kernel
theorem dX12_writesOut_190 : decode cX12_writesOut 190 = .ok (.aload_n 0, 1) := by decide +kernel
theorem dX12_writesOut_191 : decode cX12_writesOut 191 = .ok (.getfield 418, 3) := by decide +kernel
theorem dX12_writesOut_194 : decode cX12_writesOut 194 = .ok (.iastore, 1) := by decide +kernel
theorem dX12_writesOut_195 : decode cX12_writesOut 195 = .ok (.iconst 0, 1) := by decide +kernel
theorem dX12_writesOut_196 : decode cX12_writesOut 196 = .ok (.istore 4, 2) := by decide +kernel
theorem dX12_writesOut_198 : decode cX12_writesOut 198 = .ok (.iload 4, 2) := by decide +kernel
theorem dX12_writesOut_200 : decode cX12_writesOut 200 = .ok (.aload_n 0, 1) := by decide +kernel
theorem dX12_writesOut_201 : decode cX12_writesOut 201 = .ok (.getfield 134, 3) := by decide +kernel
theorem dX12_writesOut_204 : decode cX12_writesOut 204 = .ok (.iload_n 3, 1) := by decide +kernel
theorem dX12_writesOut_205 : decode cX12_writesOut 205 = .ok (.bipush 65, 2) := by decide +kernel
theorem dX12_writesOut_207 : decode cX12_writesOut 207 = .ok (.isub, 1) := by decide +kernel
theorem dX12_writesOut_208 : decode cX12_writesOut 208 = .ok (.iaload, 1) := by decide +kernel
theorem dX12_writesOut_209 : decode cX12_writesOut 209 = .ok (.if_icmp .ge 42, 3) := by decide +kernel
theorem dX12_writesOut_212 : decode cX12_writesOut 212 = .ok (.aload_n 0, 1) := by decide +kernel
theorem dX12_writesOut_213 : decode cX12_writesOut 213 = .ok (.iload_n 1, 1) := by decide +kernel
theorem dX12_writesOut_214 : decode cX12_writesOut 214 = .ok (.iload 4, 2) := by decide +kernel
theorem dX12_writesOut_216 : decode cX12_writesOut 216 = .ok (.sipush 2000, 3) := by decide +kernel
theorem dX12_writesOut_219 : decode cX12_writesOut 219 = .ok (.if_icmp .ge 22, 3) := by decide +kernel
theorem dX12_writesOut_222 : decode cX12_writesOut 222 = .ok (.aload_n 0, 1) := by decide +kernel
theorem dX12_writesOut_223 : decode cX12_writesOut 223 = .ok (.getfield 131, 3) := by decide +kernel
theorem dX12_writesOut_226 : decode cX12_writesOut 226 = .ok (.sipush 2000, 3) := by decide +kernel
theorem dX12_writesOut_229 : decode cX12_writesOut 229 = .ok (.iload_n 3, 1) := by decide +kernel
theorem dX12_writesOut_230 : decode cX12_writesOut 230 = .ok (.bipush 65, 2) := by decide +kernel
theorem dX12_writesOut_232 : decode cX12_writesOut 232 = .ok (.isub, 1) := by decide +kernel
theorem dX12_writesOut_233 : decode cX12_writesOut 233 = .ok (.imul, 1) := by decide +kernel
theorem dX12_writesOut_234 : decode cX12_writesOut 234 = .ok (.iload 4, 2) := by decide +kernel
theorem dX12_writesOut_236 : decode cX12_writesOut 236 = .ok (.iadd, 1) := by decide +kernel
theorem dX12_writesOut_237 : decode cX12_writesOut 237 = .ok (.baload, 1) := by decide +kernel
theorem dX12_writesOut_238 : decode cX12_writesOut 238 = .ok (.goto 4, 3) := by decide +kernel
theorem dX12_writesOut_241 : decode cX12_writesOut 241 = .ok (.iconst 0, 1) := by decide +kernel
theorem dX12_writesOut_242 : decode cX12_writesOut 242 = .ok (.invokevirtual 421, 3) := by decide +kernel
theorem dX12_writesOut_245 : decode cX12_writesOut 245 = .ok (.iinc 4 1, 3) := by decide +kernel
theorem dX12_writesOut_248 : decode cX12_writesOut 248 = .ok (.goto (-50), 3) := by decide +kernel
theorem dX12_writesOut_251 : decode cX12_writesOut 251 = .ok (.goto (-227), 3) := by decide +kernel
theorem dX12_writesOut_254 : decode cX12_writesOut 254 = .ok (.aload_n 0, 1) := by decide +kernel
theorem dX12_writesOut_255 : decode cX12_writesOut 255 = .ok (.getfield 134, 3) := by decide +kernel
theorem dX12_writesOut_258 : decode cX12_writesOut 258 = .ok (.iload_n 1, 1) := by decide +kernel
theorem dX12_writesOut_259 : decode cX12_writesOut 259 = .ok (.aload_n 0, 1) := by decide +kernel
theorem dX12_writesOut_260 : decode cX12_writesOut 260 = .ok (.getfield 418, 3) := by decide +kernel
theorem dX12_writesOut_263 : decode cX12_writesOut 263 = .ok (.iastore, 1) := by decide +kernel
theorem dX12_writesOut_264 : decode cX12_writesOut 264 = .ok (.return_, 1) := by decide +kernel
def f_X12_writesOut_u251 (Q : ml_St → Prop) (K24 : ml_St → Int → Int → Prop) (σ : ml_St) (x1 : Int) (x2 : Int) : Prop :=
K24 σ x1 x2
def f_X12_writesOut_u168 (Q : ml_St → Prop) (K24 : ml_St → Int → Int → Prop) (σ : ml_St) (x1 : Int) (x2 : Int) (s1 : Int) (s2 : Int) (s3 : Int) : Prop :=
I32 (s2 + s3) ∧
f_X12_writes σ s1 (s2 + s3) (fun σ2 =>
∀ _ : I32 (σ2 215 19),
I32 ((σ2 215 19) + 1) ∧
∀ σ5, σ5 = ml_up σ2 215 19 ((σ2 215 19) + 1) →
f_X12_writesOut_u251 Q K24 σ5 x1 x2)
def f_X12_writesOut_u136 (Q : ml_St → Prop) (K24 : ml_St → Int → Int → Prop) (σ : ml_St) (x1 : Int) (x2 : Int) (x3 : Int) : Prop :=
∀ _ : I32 (σ 215 61),
(0 : Int) ≤ x2 ∧ (x2 : Int) < 8 ∧
∀ σ2, σ2 = ml_up σ 256 x2 (σ 215 61) →
f_X12_read σ2 (fun r3 σ3 => ∀ _ : I32 r3,
I32 (r3 - 48) ∧
I32 (2 * (r3 - 48)) ∧
(x3 ≠ 120 →
f_X12_writesOut_u168 Q K24 σ3 x1 x2 x1 (2 * (r3 - 48)) 0) ∧
(x3 = 120 →
f_X12_writesOut_u168 Q K24 σ3 x1 x2 x1 (2 * (r3 - 48)) 1))
def f_X12_writesOut_u242 (Q : ml_St → Prop) (K198 : ml_St → Int → Int → Int → Int → Prop) (σ : ml_St) (x1 : Int) (x2 : Int) (x3 : Int) (x4 : Int) (s1 : Int) (s2 : Int) : Prop :=
f_X12_writes σ s1 s2 (fun σ1 =>
I32 (x4 + 1) ∧
∀ y2 : Int, y2 = x4 + 1 →
K198 σ1 x1 x2 x3 y2)
def f_X12_writesOut_u198 (Q : ml_St → Prop) (K251 : ml_St → Int → Int → Prop) : Nat → ml_St → Int → Int → Int → Int → Prop
| 0, _, _, _, _, _ => False
| N + 1, σ, x1, x2, x3, x4 =>
I32 (x3 - 65) ∧
(0 : Int) ≤ (x3 - 65) ∧ ((x3 - 65) : Int) < 16 ∧
∀ _ : I32 (σ 255 (x3 - 65)),
((σ 255 (x3 - 65)) ≤ x4 →
K251 σ x1 x2) ∧
(¬ ((σ 255 (x3 - 65)) ≤ x4) →
(2000 ≤ x4 →
f_X12_writesOut_u242 Q (f_X12_writesOut_u198 Q K251 N) σ x1 x2 x3 x4 x1 0) ∧
(¬ (2000 ≤ x4) →
I32 (x3 - 65) ∧
I32 (2000 * (x3 - 65)) ∧
I32 ((2000 * (x3 - 65)) + x4) ∧
(0 : Int) ≤ ((2000 * (x3 - 65)) + x4) ∧ (((2000 * (x3 - 65)) + x4) : Int) < 32000 ∧
∀ _ : ml_I8 (σ 254 ((2000 * (x3 - 65)) + x4)),
f_X12_writesOut_u242 Q (f_X12_writesOut_u198 Q K251 N) σ x1 x2 x3 x4 x1 (σ 254 ((2000 * (x3 - 65)) + x4))))
def f_X12_writesOut_u24 (Q : ml_St → Prop) (K254 : ml_St → Int → Prop) : Nat → ml_St → Int → Int → Prop
| 0, _, _, _ => False
| N + 1, σ, x1, x2 =>
∀ _ : I32 (σ 215 19),
(0 : Int) ≤ x1 ∧ (x1 : Int) < 16 ∧
∀ _ : I32 (σ 219 x1),
((σ 219 x1) ≤ ((σ 215 19) : Int) →
K254 σ x1) ∧
(¬ ((σ 219 x1) ≤ ((σ 215 19) : Int)) →
f_X12_read σ (fun r4 σ4 => ∀ _ : I32 r4,
∀ _ : I32 (σ4 215 19),
I32 ((σ4 215 19) + 1) ∧
∀ σ7, σ7 = ml_up σ4 215 19 ((σ4 215 19) + 1) →
(r4 ≠ 42 →
(r4 ≠ 40 →
(r4 ≠ 41 →
(r4 = 120 →
f_X12_writesOut_u136 Q (f_X12_writesOut_u24 Q K254 N) σ7 x1 x2 r4) ∧
(r4 ≠ 120 →
(r4 ≠ 117 →
∀ _ : I32 (σ7 215 61),
(0 : Int) ≤ x2 ∧ (x2 : Int) < 8 ∧
∀ σ14, σ14 = ml_up σ7 256 x2 (σ7 215 61) →
∃ N1, f_X12_writesOut_u198 Q (f_X12_writesOut_u251 Q (f_X12_writesOut_u24 Q K254 N)) N1 σ14 x1 x2 r4 0) ∧
(r4 = 117 →
f_X12_writesOut_u136 Q (f_X12_writesOut_u24 Q K254 N) σ7 x1 x2 r4))) ∧
(r4 = 41 →
I32 (x2 + (-1)) ∧
∀ y15 : Int, y15 = x2 + (-1) →
f_X12_writesOut_u251 Q (f_X12_writesOut_u24 Q K254 N) σ7 x1 y15)) ∧
(r4 = 40 →
∀ _ : I32 (σ7 215 61),
(0 : Int) ≤ x2 ∧ (x2 : Int) < 8 ∧
∀ σ17, σ17 = ml_up σ7 256 x2 (σ7 215 61) →
I32 (x2 + 1) ∧
∀ y18 : Int, y18 = x2 + 1 →
∀ _ : I32 (σ17 215 61),
(0 : Int) ≤ y18 ∧ (y18 : Int) < 8 ∧
∀ σ20, σ20 = ml_up σ17 256 y18 (σ17 215 61) →
f_X12_writesOut_u251 Q (f_X12_writesOut_u24 Q K254 N) σ20 x1 y18)) ∧
(r4 = 42 →
f_X12_readNumber σ7 (fun r21 σ21 => ∀ _ : I32 r21,
(0 : Int) ≤ x2 ∧ (x2 : Int) < 8 ∧
∀ _ : I32 (σ21 256 x2),
f_X12_writesAgain σ21 x1 (σ21 256 x2) r21 (fun σ23 =>
f_X12_writesOut_u251 Q (f_X12_writesOut_u24 Q K254 N) σ23 x1 x2)))))
def f_X12_writesOut_u254 (Q : ml_St → Prop) (σ : ml_St) (x1 : Int) : Prop :=
∀ _ : I32 (σ 215 61),
(0 : Int) ≤ x1 ∧ (x1 : Int) < 16 ∧
∀ σ2, σ2 = ml_up σ 255 x1 (σ 215 61) →
Q σ2
def f_X12_writesOut_u0 (Q : ml_St → Prop) (σ : ml_St) (x1 : Int) : Prop :=
∀ σ1, σ1 = ml_up σ 215 20 x1 →
∀ σ2, σ2 = ml_up σ1 215 19 0 →
∀ σ3, σ3 = ml_up σ2 215 61 0 →
(0 : Int) ≤ 0 ∧ (0 : Int) < 8 ∧
∀ σ4, σ4 = ml_up σ3 256 0 0 →
∃ N1, f_X12_writesOut_u24 Q (f_X12_writesOut_u254 Q) N1 σ4 x1 0
def f_X12_writesOut (σ : ml_St) (x1 : Int) (Q : ml_St → Prop) : Prop := f_X12_writesOut_u0 Q σ x1
def rm_X12_writesOut : Room := { frames := 2, cells := 0, slots := 0, locals := 48 }
set_option maxRecDepth 100000 in
set_option maxHeartbeats 4000000 in
theorem u_X12_writesOut_251 {p : Program} {e : Env} {s : State} {m : MethodId} {args : Array Value} {below : List Frame} {meth : Method} {c : Code} {base : Nat} {D : va_G} {cA : Nat → ClassId} {n : Nat} {l : Launch} {Q : ml_St → Prop} {K24 : ml_St → Int → Int → Prop} (X : ml_X p s m c meth args D cA cX12_writesOut 5 RX12 none) (hn : 256 ≤ n) (hK24 : ∀ (σ : ml_St) (x1 : Int) (x2 : Int) (h_x1 : I32 x1) (h_x2 : I32 x2) (ls : Array Slot), lv_has ls 5 [(0, .ref (base + (215 : Int).toNat)), (1, .int (Int32.ofInt x1)), (2, .int (Int32.ofInt x2))] → K24 σ x1 x2 → ml_V p l e rm_X12_writesOut s m args below meth c (MQ below (ml_Qv base D cA n Q) args s 0 0 (ml_A base)) base D cA 0 0 n n σ (F0 m 24 ls [])) (σ : ml_St) (x1 : Int) (x2 : Int) (h_x1 : I32 x1) (h_x2 : I32 x2) (ls : Array Slot) (hl : lv_has ls 5 [(0, .ref (base + (215 : Int).toNat)), (1, .int (Int32.ofInt x1)), (2, .int (Int32.ofInt x2))]) (hw : f_X12_writesOut_u251 Q K24 σ x1 x2) : ml_V p l e rm_X12_writesOut s m args below meth c (MQ below (ml_Qv base D cA n Q) args s 0 0 (ml_A base)) base D cA 0 0 n n σ (F0 m 251 ls []) := by
  unfold f_X12_writesOut_u251 at hw
  refine ml_goto (pc := 251) (tgt := 24) X dX12_writesOut_251 (by decide) ?_
  exact hK24 σ x1 x2 h_x1 h_x2 _ (lv_sub hl [0, 1, 2] rfl) hw
set_option maxRecDepth 100000 in
set_option maxHeartbeats 4000000 in
theorem u_X12_writesOut_168 {p : Program} {e : Env} {s : State} {m : MethodId} {args : Array Value} {below : List Frame} {meth : Method} {c : Code} {base : Nat} {D : va_G} {cA : Nat → ClassId} {n : Nat} {l : Launch} {Q : ml_St → Prop} {K24 : ml_St → Int → Int → Prop} (X : ml_X p s m c meth args D cA cX12_writesOut 5 RX12 none) (hn : 256 ≤ n) (hK24 : ∀ (σ : ml_St) (x1 : Int) (x2 : Int) (h_x1 : I32 x1) (h_x2 : I32 x2) (ls : Array Slot), lv_has ls 5 [(0, .ref (base + (215 : Int).toNat)), (1, .int (Int32.ofInt x1)), (2, .int (Int32.ofInt x2))] → K24 σ x1 x2 → ml_V p l e rm_X12_writesOut s m args below meth c (MQ below (ml_Qv base D cA n Q) args s 0 0 (ml_A base)) base D cA 0 0 n n σ (F0 m 24 ls [])) (σ : ml_St) (x1 : Int) (x2 : Int) (s1 : Int) (s2 : Int) (s3 : Int) (h_x1 : I32 x1) (h_x2 : I32 x2) (h_s1 : I32 s1) (h_s2 : I32 s2) (h_s3 : ml_B s3) (ls : Array Slot) (hl : lv_has ls 5 [(0, .ref (base + (215 : Int).toNat)), (1, .int (Int32.ofInt x1)), (2, .int (Int32.ofInt x2))]) (hw : f_X12_writesOut_u168 Q K24 σ x1 x2 s1 s2 s3) : ml_V p l e rm_X12_writesOut s m args below meth c (MQ below (ml_Qv base D cA n Q) args s 0 0 (ml_A base)) base D cA 0 0 n n σ (F0 m 168 ls [.int (Int32.ofInt s3), .int (Int32.ofInt s2), .int (Int32.ofInt s1), .ref (base + (215 : Int).toNat)]) := by
  unfold f_X12_writesOut_u168 at hw
  obtain ⟨v1, hw⟩ := hw
  refine ml_iadd (pc := 168) X dX12_writesOut_168 ?_
  refine ml_callvV (pc := 169) (rest := []) X [.int (Int32.ofInt s1), .int (Int32.ofInt (s2 + s3))] (by decide) rfl (ml_c215 hn) (c_X12_writes l base D cA n hn σ s1 (s2 + s3) h_s1 v1 _ hw) cv_X12_421 ⟨rfl, rfl⟩ ⟨by decide, by decide⟩ rfl rfl hl (Nat.le_of_ble_eq_true rfl) ⟨Nat.zero_le _, Nat.zero_le _⟩ dX12_writesOut_169 (fun σ2 hw => ?_)
  refine ml_aload_n (pc := 172) X hl 0 rfl rfl dX12_writesOut_172 ?_
  refine ml_dup (pc := 173) X dX12_writesOut_173 rfl ?_
  refine gf_X12_198 (pc := 174) X (ml_c215 hn) dX12_writesOut_174 (fun r3 => ?_)
  have hw := hw r3
  refine ml_iconst (pc := 177) X dX12_writesOut_177 ?_
  obtain ⟨v4, hw⟩ := hw
  refine ml_iadd (pc := 178) X dX12_writesOut_178 ?_
  refine pf_X12_198 (pc := 179) X (ml_c215 hn) v4 dX12_writesOut_179 (fun σ5 g5 => ?_)
  have hw := hw σ5 g5
  refine ml_goto (pc := 182) (tgt := 251) X dX12_writesOut_182 (by decide) ?_
  exact u_X12_writesOut_251 X hn hK24 σ5 x1 x2 h_x1 h_x2 _ (lv_sub hl [0, 1, 2] rfl) hw
set_option maxRecDepth 100000 in
set_option maxHeartbeats 4000000 in
theorem u_X12_writesOut_136 {p : Program} {e : Env} {s : State} {m : MethodId} {args : Array Value} {below : List Frame} {meth : Method} {c : Code} {base : Nat} {D : va_G} {cA : Nat → ClassId} {n : Nat} {l : Launch} {Q : ml_St → Prop} {K24 : ml_St → Int → Int → Prop} (X : ml_X p s m c meth args D cA cX12_writesOut 5 RX12 none) (hn : 256 ≤ n) (hK24 : ∀ (σ : ml_St) (x1 : Int) (x2 : Int) (h_x1 : I32 x1) (h_x2 : I32 x2) (ls : Array Slot), lv_has ls 5 [(0, .ref (base + (215 : Int).toNat)), (1, .int (Int32.ofInt x1)), (2, .int (Int32.ofInt x2))] → K24 σ x1 x2 → ml_V p l e rm_X12_writesOut s m args below meth c (MQ below (ml_Qv base D cA n Q) args s 0 0 (ml_A base)) base D cA 0 0 n n σ (F0 m 24 ls [])) (σ : ml_St) (x1 : Int) (x2 : Int) (x3 : Int) (h_x1 : I32 x1) (h_x2 : I32 x2) (h_x3 : I32 x3) (ls : Array Slot) (hl : lv_has ls 5 [(0, .ref (base + (215 : Int).toNat)), (1, .int (Int32.ofInt x1)), (2, .int (Int32.ofInt x2)), (3, .int (Int32.ofInt x3))]) (hw : f_X12_writesOut_u136 Q K24 σ x1 x2 x3) : ml_V p l e rm_X12_writesOut s m args below meth c (MQ below (ml_Qv base D cA n Q) args s 0 0 (ml_A base)) base D cA 0 0 n n σ (F0 m 136 ls []) := by
  unfold f_X12_writesOut_u136 at hw
  refine ml_aload_n (pc := 136) X hl 0 rfl rfl dX12_writesOut_136 ?_
  refine gf_X12_137 (pc := 137) X (ml_c215 hn) dX12_writesOut_137 ?_
  refine ml_iload_n (pc := 140) X hl 2 rfl rfl dX12_writesOut_140 ?_
  refine ml_aload_n (pc := 141) X hl 0 rfl rfl dX12_writesOut_141 ?_
  refine gf_X12_418 (pc := 142) X (ml_c215 hn) dX12_writesOut_142 (fun r1 => ?_)
  have hw := hw r1
  obtain ⟨a2, b2, hw⟩ := hw
  refine ml_iast (pc := 145) (N := 8) X (ml_c256 hn) a2 b2 r1 dX12_writesOut_145 (fun σ2 g2 => ?_)
  have hw := hw σ2 g2
  refine ml_aload_n (pc := 146) X hl 0 rfl rfl dX12_writesOut_146 ?_
  refine ml_iload_n (pc := 147) X hl 1 rfl rfl dX12_writesOut_147 ?_
  refine ml_iconst (pc := 148) X dX12_writesOut_148 ?_
  refine ml_aload_n (pc := 149) X hl 0 rfl rfl dX12_writesOut_149 ?_
  refine ml_calliV (pc := 150) (rest := [.int (Int32.ofInt 2), .int (Int32.ofInt x1), .ref (base + (215 : Int).toNat)]) X [] (by decide) rfl (ml_c215 hn) (c_X12_read l base D cA n hn σ2 _ hw) cv_X12_204 ⟨rfl, rfl⟩ ⟨by decide, by decide⟩ rfl rfl hl (Nat.le_of_ble_eq_true rfl) ⟨Nat.zero_le _, Nat.zero_le _⟩ dX12_writesOut_150 (fun r3 σ3 t3 hw => ?_)
  have hw := hw t3
  refine ml_bipush (pc := 153) X dX12_writesOut_153 (by decide) ?_
  obtain ⟨v4, hw⟩ := hw
  refine ml_isub (pc := 155) X dX12_writesOut_155 ?_
  obtain ⟨v5, hw⟩ := hw
  refine ml_imul (pc := 156) X dX12_writesOut_156 ?_
  refine ml_iload_n (pc := 157) X hl 3 rfl rfl dX12_writesOut_157 ?_
  refine ml_bipush (pc := 158) X dX12_writesOut_158 (by decide) ?_
  refine ml_icmp_ne (pc := 160) (tgt := 167) X h_x3 ⟨by decide, by decide⟩ dX12_writesOut_160 (by decide) (fun c6 => ?_) (fun c6 => ?_)
  · have hw := hw.1 c6
    refine ml_iconst (pc := 167) X dX12_writesOut_167 ?_
    exact u_X12_writesOut_168 X hn hK24 σ3 x1 x2 x1 (2 * (r3 - 48)) 0 h_x1 h_x2 h_x1 v5 ⟨by decide, by decide⟩ _ (lv_sub hl [0, 1, 2] rfl) hw
  · have hw := hw.2 c6
    refine ml_iconst (pc := 163) X dX12_writesOut_163 ?_
    refine ml_goto (pc := 164) (tgt := 168) X dX12_writesOut_164 (by decide) ?_
    exact u_X12_writesOut_168 X hn hK24 σ3 x1 x2 x1 (2 * (r3 - 48)) 1 h_x1 h_x2 h_x1 v5 ⟨by decide, by decide⟩ _ (lv_sub hl [0, 1, 2] rfl) hw
set_option maxRecDepth 100000 in
set_option maxHeartbeats 4000000 in
theorem u_X12_writesOut_242 {p : Program} {e : Env} {s : State} {m : MethodId} {args : Array Value} {below : List Frame} {meth : Method} {c : Code} {base : Nat} {D : va_G} {cA : Nat → ClassId} {n : Nat} {l : Launch} {Q : ml_St → Prop} {K198 : ml_St → Int → Int → Int → Int → Prop} (X : ml_X p s m c meth args D cA cX12_writesOut 5 RX12 none) (hn : 256 ≤ n) (hK198 : ∀ (σ : ml_St) (x1 : Int) (x2 : Int) (x3 : Int) (x4 : Int) (h_x1 : I32 x1) (h_x2 : I32 x2) (h_x3 : I32 x3) (h_x4 : I32 x4) (ls : Array Slot), lv_has ls 5 [(0, .ref (base + (215 : Int).toNat)), (1, .int (Int32.ofInt x1)), (2, .int (Int32.ofInt x2)), (3, .int (Int32.ofInt x3)), (4, .int (Int32.ofInt x4))] → K198 σ x1 x2 x3 x4 → ml_V p l e rm_X12_writesOut s m args below meth c (MQ below (ml_Qv base D cA n Q) args s 0 0 (ml_A base)) base D cA 0 0 n n σ (F0 m 198 ls [])) (σ : ml_St) (x1 : Int) (x2 : Int) (x3 : Int) (x4 : Int) (s1 : Int) (s2 : Int) (h_x1 : I32 x1) (h_x2 : I32 x2) (h_x3 : I32 x3) (h_x4 : I32 x4) (h_s1 : I32 s1) (h_s2 : I32 s2) (ls : Array Slot) (hl : lv_has ls 5 [(0, .ref (base + (215 : Int).toNat)), (1, .int (Int32.ofInt x1)), (2, .int (Int32.ofInt x2)), (3, .int (Int32.ofInt x3)), (4, .int (Int32.ofInt x4))]) (hw : f_X12_writesOut_u242 Q K198 σ x1 x2 x3 x4 s1 s2) : ml_V p l e rm_X12_writesOut s m args below meth c (MQ below (ml_Qv base D cA n Q) args s 0 0 (ml_A base)) base D cA 0 0 n n σ (F0 m 242 ls [.int (Int32.ofInt s2), .int (Int32.ofInt s1), .ref (base + (215 : Int).toNat)]) := by
  unfold f_X12_writesOut_u242 at hw
  refine ml_callvV (pc := 242) (rest := []) X [.int (Int32.ofInt s1), .int (Int32.ofInt s2)] (by decide) rfl (ml_c215 hn) (c_X12_writes l base D cA n hn σ s1 s2 h_s1 h_s2 _ hw) cv_X12_421 ⟨rfl, rfl⟩ ⟨by decide, by decide⟩ rfl rfl hl (Nat.le_of_ble_eq_true rfl) ⟨Nat.zero_le _, Nat.zero_le _⟩ dX12_writesOut_242 (fun σ1 hw => ?_)
  obtain ⟨v2, hw⟩ := hw
  obtain ⟨y2, e2⟩ : ∃ y : Int, y = x4 + 1 := ⟨_, rfl⟩
  have hw := hw y2 e2
  rw [← e2] at v2
  refine ml_iinc (pc := 245) X e2 hl 4 rfl (by decide) (lst' := [(4, .int (Int32.ofInt y2)), (0, .ref (base + (215 : Int).toNat)), (1, .int (Int32.ofInt x1)), (2, .int (Int32.ofInt x2)), (3, .int (Int32.ofInt x3))]) rfl dX12_writesOut_245 (fun ls hl => ?_)
  refine ml_goto (pc := 248) (tgt := 198) X dX12_writesOut_248 (by decide) ?_
  exact hK198 σ1 x1 x2 x3 y2 h_x1 h_x2 h_x3 v2 _ (lv_sub hl [1, 2, 3, 4, 0] rfl) hw
set_option maxRecDepth 100000 in
set_option maxHeartbeats 4000000 in
theorem u_X12_writesOut_198 {p : Program} {e : Env} {s : State} {m : MethodId} {args : Array Value} {below : List Frame} {meth : Method} {c : Code} {base : Nat} {D : va_G} {cA : Nat → ClassId} {n : Nat} {l : Launch} {Q : ml_St → Prop} {K251 : ml_St → Int → Int → Prop} (X : ml_X p s m c meth args D cA cX12_writesOut 5 RX12 none) (hn : 256 ≤ n) (hK251 : ∀ (σ : ml_St) (x1 : Int) (x2 : Int) (h_x1 : I32 x1) (h_x2 : I32 x2) (ls : Array Slot), lv_has ls 5 [(0, .ref (base + (215 : Int).toNat)), (1, .int (Int32.ofInt x1)), (2, .int (Int32.ofInt x2))] → K251 σ x1 x2 → ml_V p l e rm_X12_writesOut s m args below meth c (MQ below (ml_Qv base D cA n Q) args s 0 0 (ml_A base)) base D cA 0 0 n n σ (F0 m 251 ls [])) : ∀ (N : Nat) (σ : ml_St) (x1 : Int) (x2 : Int) (x3 : Int) (x4 : Int) (h_x1 : I32 x1) (h_x2 : I32 x2) (h_x3 : I32 x3) (h_x4 : I32 x4) (ls : Array Slot), lv_has ls 5 [(0, .ref (base + (215 : Int).toNat)), (1, .int (Int32.ofInt x1)), (2, .int (Int32.ofInt x2)), (3, .int (Int32.ofInt x3)), (4, .int (Int32.ofInt x4))] → f_X12_writesOut_u198 Q K251 N σ x1 x2 x3 x4 → ml_V p l e rm_X12_writesOut s m args below meth c (MQ below (ml_Qv base D cA n Q) args s 0 0 (ml_A base)) base D cA 0 0 n n σ (F0 m 198 ls []) := by
  intro N
  induction N with
  | zero => intro σ x1 x2 x3 x4 h_x1 h_x2 h_x3 h_x4 ls hl hw; exact False.elim hw
  | succ N ih =>
    intro σ x1 x2 x3 x4 h_x1 h_x2 h_x3 h_x4 ls hl hw
    unfold f_X12_writesOut_u198 at hw
    refine ml_iload (pc := 198) X hl 4 rfl dX12_writesOut_198 ?_
    refine ml_aload_n (pc := 200) X hl 0 rfl rfl dX12_writesOut_200 ?_
    refine gf_X12_134 (pc := 201) X (ml_c215 hn) dX12_writesOut_201 ?_
    refine ml_iload_n (pc := 204) X hl 3 rfl rfl dX12_writesOut_204 ?_
    refine ml_bipush (pc := 205) X dX12_writesOut_205 (by decide) ?_
    obtain ⟨v1, hw⟩ := hw
    refine ml_isub (pc := 207) X dX12_writesOut_207 ?_
    obtain ⟨a2, b2, hw⟩ := hw
    refine ml_iald (pc := 208) (N := 16) X (ml_c255 hn) a2 b2 dX12_writesOut_208 (fun r2 => ?_)
    have hw := hw r2
    refine ml_icmp_ge (pc := 209) (tgt := 251) X h_x4 r2 dX12_writesOut_209 (by decide) (fun c3 => ?_) (fun c3 => ?_)
    · have hw := hw.1 c3
      exact hK251 σ x1 x2 h_x1 h_x2 _ (lv_sub hl [0, 1, 2] rfl) hw
    · have hw := hw.2 c3
      refine ml_aload_n (pc := 212) X hl 0 rfl rfl dX12_writesOut_212 ?_
      refine ml_iload_n (pc := 213) X hl 1 rfl rfl dX12_writesOut_213 ?_
      refine ml_iload (pc := 214) X hl 4 rfl dX12_writesOut_214 ?_
      refine ml_sipush (pc := 216) X dX12_writesOut_216 (by decide) ?_
      refine ml_icmp_ge (pc := 219) (tgt := 241) X h_x4 ⟨by decide, by decide⟩ dX12_writesOut_219 (by decide) (fun c4 => ?_) (fun c4 => ?_)
      · have hw := hw.1 c4
        refine ml_iconst (pc := 241) X dX12_writesOut_241 ?_
        exact u_X12_writesOut_242 X hn ih σ x1 x2 x3 x4 x1 0 h_x1 h_x2 h_x3 h_x4 h_x1 ⟨by decide, by decide⟩ _ (lv_sub hl [0, 1, 2, 3, 4] rfl) hw
      · have hw := hw.2 c4
        refine ml_aload_n (pc := 222) X hl 0 rfl rfl dX12_writesOut_222 ?_
        refine gf_X12_131 (pc := 223) X (ml_c215 hn) dX12_writesOut_223 ?_
        refine ml_sipush (pc := 226) X dX12_writesOut_226 (by decide) ?_
        refine ml_iload_n (pc := 229) X hl 3 rfl rfl dX12_writesOut_229 ?_
        refine ml_bipush (pc := 230) X dX12_writesOut_230 (by decide) ?_
        obtain ⟨v5, hw⟩ := hw
        refine ml_isub (pc := 232) X dX12_writesOut_232 ?_
        obtain ⟨v6, hw⟩ := hw
        refine ml_imul (pc := 233) X dX12_writesOut_233 ?_
        refine ml_iload (pc := 234) X hl 4 rfl dX12_writesOut_234 ?_
        obtain ⟨v7, hw⟩ := hw
        refine ml_iadd (pc := 236) X dX12_writesOut_236 ?_
        obtain ⟨a8, b8, hw⟩ := hw
        refine ml_bald (pc := 237) (N := 32000) X (ml_c254 hn) a8 b8 dX12_writesOut_237 (fun r8 => ?_)
        have hw := hw r8
        refine ml_goto (pc := 238) (tgt := 242) X dX12_writesOut_238 (by decide) ?_
        exact u_X12_writesOut_242 X hn ih σ x1 x2 x3 x4 x1 (σ 254 ((2000 * (x3 - 65)) + x4)) h_x1 h_x2 h_x3 h_x4 h_x1 r8.i _ (lv_sub hl [0, 1, 2, 3, 4] rfl) hw
set_option maxRecDepth 100000 in
set_option maxHeartbeats 4000000 in
theorem u_X12_writesOut_24 {p : Program} {e : Env} {s : State} {m : MethodId} {args : Array Value} {below : List Frame} {meth : Method} {c : Code} {base : Nat} {D : va_G} {cA : Nat → ClassId} {n : Nat} {l : Launch} {Q : ml_St → Prop} {K254 : ml_St → Int → Prop} (X : ml_X p s m c meth args D cA cX12_writesOut 5 RX12 none) (hn : 256 ≤ n) (hK254 : ∀ (σ : ml_St) (x1 : Int) (h_x1 : I32 x1) (ls : Array Slot), lv_has ls 5 [(0, .ref (base + (215 : Int).toNat)), (1, .int (Int32.ofInt x1))] → K254 σ x1 → ml_V p l e rm_X12_writesOut s m args below meth c (MQ below (ml_Qv base D cA n Q) args s 0 0 (ml_A base)) base D cA 0 0 n n σ (F0 m 254 ls [])) : ∀ (N : Nat) (σ : ml_St) (x1 : Int) (x2 : Int) (h_x1 : I32 x1) (h_x2 : I32 x2) (ls : Array Slot), lv_has ls 5 [(0, .ref (base + (215 : Int).toNat)), (1, .int (Int32.ofInt x1)), (2, .int (Int32.ofInt x2))] → f_X12_writesOut_u24 Q K254 N σ x1 x2 → ml_V p l e rm_X12_writesOut s m args below meth c (MQ below (ml_Qv base D cA n Q) args s 0 0 (ml_A base)) base D cA 0 0 n n σ (F0 m 24 ls []) := by
  intro N
  induction N with
  | zero => intro σ x1 x2 h_x1 h_x2 ls hl hw; exact False.elim hw
  | succ N ih =>
    intro σ x1 x2 h_x1 h_x2 ls hl hw
    unfold f_X12_writesOut_u24 at hw
    refine ml_aload_n (pc := 24) X hl 0 rfl rfl dX12_writesOut_24 ?_
    refine gf_X12_198 (pc := 25) X (ml_c215 hn) dX12_writesOut_25 (fun r1 => ?_)
    have hw := hw r1
    refine ml_aload_n (pc := 28) X hl 0 rfl rfl dX12_writesOut_28 ?_
    refine gf_X12_24 (pc := 29) X (ml_c215 hn) dX12_writesOut_29 ?_
    refine ml_iload_n (pc := 32) X hl 1 rfl rfl dX12_writesOut_32 ?_
    obtain ⟨a2, b2, hw⟩ := hw
    refine ml_iald (pc := 33) (N := 16) X (ml_c219 hn) a2 b2 dX12_writesOut_33 (fun r2 => ?_)
    have hw := hw r2
    refine ml_icmp_ge (pc := 34) (tgt := 254) X r1 r2 dX12_writesOut_34 (by decide) (fun c3 => ?_) (fun c3 => ?_)
    · have hw := hw.1 c3
      exact hK254 σ x1 h_x1 _ (lv_sub hl [0, 1] rfl) hw
    · have hw := hw.2 c3
      refine ml_aload_n (pc := 37) X hl 0 rfl rfl dX12_writesOut_37 ?_
      refine ml_calliV (pc := 38) (rest := []) X [] (by decide) rfl (ml_c215 hn) (c_X12_read l base D cA n hn σ _ hw) cv_X12_204 ⟨rfl, rfl⟩ ⟨by decide, by decide⟩ rfl rfl hl (Nat.le_of_ble_eq_true rfl) ⟨Nat.zero_le _, Nat.zero_le _⟩ dX12_writesOut_38 (fun r4 σ4 t4 hw => ?_)
      have hw := hw t4
      refine ml_istore_n (pc := 41) X rfl hl (by decide) (lst' := [(3, .int (Int32.ofInt r4)), (0, .ref (base + (215 : Int).toNat)), (1, .int (Int32.ofInt x1)), (2, .int (Int32.ofInt x2))]) rfl dX12_writesOut_41 (fun ls hl => ?_)
      refine ml_aload_n (pc := 42) X hl 1 rfl rfl dX12_writesOut_42 ?_
      refine ml_dup (pc := 43) X dX12_writesOut_43 rfl ?_
      refine gf_X12_198 (pc := 44) X (ml_c215 hn) dX12_writesOut_44 (fun r5 => ?_)
      have hw := hw r5
      refine ml_iconst (pc := 47) X dX12_writesOut_47 ?_
      obtain ⟨v6, hw⟩ := hw
      refine ml_iadd (pc := 48) X dX12_writesOut_48 ?_
      refine pf_X12_198 (pc := 49) X (ml_c215 hn) v6 dX12_writesOut_49 (fun σ7 g7 => ?_)
      have hw := hw σ7 g7
      refine ml_iload_n (pc := 52) X hl 0 rfl rfl dX12_writesOut_52 ?_
      refine ml_bipush (pc := 53) X dX12_writesOut_53 (by decide) ?_
      refine ml_icmp_ne (pc := 55) (tgt := 80) X t4 ⟨by decide, by decide⟩ dX12_writesOut_55 (by decide) (fun c8 => ?_) (fun c8 => ?_)
      · have hw := hw.1 c8
        refine ml_iload_n (pc := 80) X hl 0 rfl rfl dX12_writesOut_80 ?_
        refine ml_bipush (pc := 81) X dX12_writesOut_81 (by decide) ?_
        refine ml_icmp_ne (pc := 83) (tgt := 112) X t4 ⟨by decide, by decide⟩ dX12_writesOut_83 (by decide) (fun c9 => ?_) (fun c9 => ?_)
        · have hw := hw.1 c9
          refine ml_iload_n (pc := 112) X hl 0 rfl rfl dX12_writesOut_112 ?_
          refine ml_bipush (pc := 113) X dX12_writesOut_113 (by decide) ?_
          refine ml_icmp_ne (pc := 115) (tgt := 124) X t4 ⟨by decide, by decide⟩ dX12_writesOut_115 (by decide) (fun c10 => ?_) (fun c10 => ?_)
          · have hw := hw.1 c10
            refine ml_iload_n (pc := 124) X hl 0 rfl rfl dX12_writesOut_124 ?_
            refine ml_bipush (pc := 125) X dX12_writesOut_125 (by decide) ?_
            refine ml_icmp_eq (pc := 127) (tgt := 136) X t4 ⟨by decide, by decide⟩ dX12_writesOut_127 (by decide) (fun c11 => ?_) (fun c11 => ?_)
            · have hw := hw.1 c11
              exact u_X12_writesOut_136 X hn ih σ7 x1 x2 r4 h_x1 h_x2 t4 _ (lv_sub hl [1, 2, 3, 0] rfl) hw
            · have hw := hw.2 c11
              refine ml_iload_n (pc := 130) X hl 0 rfl rfl dX12_writesOut_130 ?_
              refine ml_bipush (pc := 131) X dX12_writesOut_131 (by decide) ?_
              refine ml_icmp_ne (pc := 133) (tgt := 185) X t4 ⟨by decide, by decide⟩ dX12_writesOut_133 (by decide) (fun c12 => ?_) (fun c12 => ?_)
              · have hw := hw.1 c12
                refine ml_aload_n (pc := 185) X hl 1 rfl rfl dX12_writesOut_185 ?_
                refine gf_X12_137 (pc := 186) X (ml_c215 hn) dX12_writesOut_186 ?_
                refine ml_iload_n (pc := 189) X hl 3 rfl rfl dX12_writesOut_189 ?_
                refine ml_aload_n (pc := 190) X hl 1 rfl rfl dX12_writesOut_190 ?_
                refine gf_X12_418 (pc := 191) X (ml_c215 hn) dX12_writesOut_191 (fun r13 => ?_)
                have hw := hw r13
                obtain ⟨a14, b14, hw⟩ := hw
                refine ml_iast (pc := 194) (N := 8) X (ml_c256 hn) a14 b14 r13 dX12_writesOut_194 (fun σ14 g14 => ?_)
                have hw := hw σ14 g14
                refine ml_iconst (pc := 195) X dX12_writesOut_195 ?_
                refine ml_istore (pc := 196) X hl (by decide) (lst' := [(4, .int (Int32.ofInt 0)), (3, .int (Int32.ofInt r4)), (0, .ref (base + (215 : Int).toNat)), (1, .int (Int32.ofInt x1)), (2, .int (Int32.ofInt x2))]) rfl dX12_writesOut_196 (fun ls hl => ?_)
                obtain ⟨N0, hw⟩ := hw
                exact u_X12_writesOut_198 X hn (fun σ x1 x2 h_x1 h_x2 ls hl hw => u_X12_writesOut_251 X hn ih σ x1 x2 h_x1 h_x2 ls hl hw) N0 σ14 x1 x2 r4 0 h_x1 h_x2 t4 ⟨by decide, by decide⟩ _ (lv_sub hl [2, 3, 4, 1, 0] rfl) hw
              · have hw := hw.2 c12
                exact u_X12_writesOut_136 X hn ih σ7 x1 x2 r4 h_x1 h_x2 t4 _ (lv_sub hl [1, 2, 3, 0] rfl) hw
          · have hw := hw.2 c10
            obtain ⟨v15, hw⟩ := hw
            obtain ⟨y15, e15⟩ : ∃ y : Int, y = x2 + (-1) := ⟨_, rfl⟩
            have hw := hw y15 e15
            rw [← e15] at v15
            refine ml_iinc (pc := 118) X e15 hl 3 rfl (by decide) (lst' := [(2, .int (Int32.ofInt y15)), (3, .int (Int32.ofInt r4)), (0, .ref (base + (215 : Int).toNat)), (1, .int (Int32.ofInt x1))]) rfl dX12_writesOut_118 (fun ls hl => ?_)
            refine ml_goto (pc := 121) (tgt := 251) X dX12_writesOut_121 (by decide) ?_
            exact u_X12_writesOut_251 X hn ih σ7 x1 y15 h_x1 v15 _ (lv_sub hl [2, 3, 0] rfl) hw
        · have hw := hw.2 c9
          refine ml_aload_n (pc := 86) X hl 1 rfl rfl dX12_writesOut_86 ?_
          refine gf_X12_137 (pc := 87) X (ml_c215 hn) dX12_writesOut_87 ?_
          refine ml_iload_n (pc := 90) X hl 3 rfl rfl dX12_writesOut_90 ?_
          refine ml_aload_n (pc := 91) X hl 1 rfl rfl dX12_writesOut_91 ?_
          refine gf_X12_418 (pc := 92) X (ml_c215 hn) dX12_writesOut_92 (fun r16 => ?_)
          have hw := hw r16
          obtain ⟨a17, b17, hw⟩ := hw
          refine ml_iast (pc := 95) (N := 8) X (ml_c256 hn) a17 b17 r16 dX12_writesOut_95 (fun σ17 g17 => ?_)
          have hw := hw σ17 g17
          obtain ⟨v18, hw⟩ := hw
          obtain ⟨y18, e18⟩ : ∃ y : Int, y = x2 + 1 := ⟨_, rfl⟩
          have hw := hw y18 e18
          rw [← e18] at v18
          refine ml_iinc (pc := 96) X e18 hl 3 rfl (by decide) (lst' := [(2, .int (Int32.ofInt y18)), (3, .int (Int32.ofInt r4)), (0, .ref (base + (215 : Int).toNat)), (1, .int (Int32.ofInt x1))]) rfl dX12_writesOut_96 (fun ls hl => ?_)
          refine ml_aload_n (pc := 99) X hl 2 rfl rfl dX12_writesOut_99 ?_
          refine gf_X12_137 (pc := 100) X (ml_c215 hn) dX12_writesOut_100 ?_
          refine ml_iload_n (pc := 103) X hl 0 rfl rfl dX12_writesOut_103 ?_
          refine ml_aload_n (pc := 104) X hl 2 rfl rfl dX12_writesOut_104 ?_
          refine gf_X12_418 (pc := 105) X (ml_c215 hn) dX12_writesOut_105 (fun r19 => ?_)
          have hw := hw r19
          obtain ⟨a20, b20, hw⟩ := hw
          refine ml_iast (pc := 108) (N := 8) X (ml_c256 hn) a20 b20 r19 dX12_writesOut_108 (fun σ20 g20 => ?_)
          have hw := hw σ20 g20
          refine ml_goto (pc := 109) (tgt := 251) X dX12_writesOut_109 (by decide) ?_
          exact u_X12_writesOut_251 X hn ih σ20 x1 y18 h_x1 v18 _ (lv_sub hl [2, 3, 0] rfl) hw
      · have hw := hw.2 c8
        refine ml_aload_n (pc := 58) X hl 1 rfl rfl dX12_writesOut_58 ?_
        refine ml_calliV (pc := 59) (rest := []) X [] (by decide) rfl (ml_c215 hn) (c_X12_readNumber l base D cA n hn σ7 _ hw) cv_X12_207 ⟨rfl, rfl⟩ ⟨by decide, by decide⟩ rfl rfl hl (Nat.le_of_ble_eq_true rfl) ⟨Nat.zero_le _, Nat.zero_le _⟩ dX12_writesOut_59 (fun r21 σ21 t21 hw => ?_)
        have hw := hw t21
        refine ml_istore (pc := 62) X hl (by decide) (lst' := [(4, .int (Int32.ofInt r21)), (3, .int (Int32.ofInt r4)), (0, .ref (base + (215 : Int).toNat)), (1, .int (Int32.ofInt x1)), (2, .int (Int32.ofInt x2))]) rfl dX12_writesOut_62 (fun ls hl => ?_)
        refine ml_aload_n (pc := 64) X hl 2 rfl rfl dX12_writesOut_64 ?_
        refine ml_iload_n (pc := 65) X hl 3 rfl rfl dX12_writesOut_65 ?_
        refine ml_aload_n (pc := 66) X hl 2 rfl rfl dX12_writesOut_66 ?_
        refine gf_X12_137 (pc := 67) X (ml_c215 hn) dX12_writesOut_67 ?_
        refine ml_iload_n (pc := 70) X hl 4 rfl rfl dX12_writesOut_70 ?_
        obtain ⟨a22, b22, hw⟩ := hw
        refine ml_iald (pc := 71) (N := 8) X (ml_c256 hn) a22 b22 dX12_writesOut_71 (fun r22 => ?_)
        have hw := hw r22
        refine ml_iload (pc := 72) X hl 0 rfl dX12_writesOut_72 ?_
        refine ml_callvV (pc := 74) (rest := []) X [.int (Int32.ofInt x1), .int (Int32.ofInt (σ21 256 x2)), .int (Int32.ofInt r21)] (by decide) rfl (ml_c215 hn) (c_X12_writesAgain l base D cA n hn σ21 x1 (σ21 256 x2) r21 h_x1 r22 t21 _ hw) cv_X12_424 ⟨rfl, rfl⟩ ⟨by decide, by decide⟩ rfl rfl hl (Nat.le_of_ble_eq_true rfl) ⟨Nat.zero_le _, Nat.zero_le _⟩ dX12_writesOut_74 (fun σ23 hw => ?_)
        refine ml_goto (pc := 77) (tgt := 251) X dX12_writesOut_77 (by decide) ?_
        exact u_X12_writesOut_251 X hn ih σ23 x1 x2 h_x1 h_x2 _ (lv_sub hl [2, 3, 4] rfl) hw
set_option maxRecDepth 100000 in
set_option maxHeartbeats 4000000 in
theorem u_X12_writesOut_254 {p : Program} {e : Env} {s : State} {m : MethodId} {args : Array Value} {below : List Frame} {meth : Method} {c : Code} {base : Nat} {D : va_G} {cA : Nat → ClassId} {n : Nat} {l : Launch} {Q : ml_St → Prop} (X : ml_X p s m c meth args D cA cX12_writesOut 5 RX12 none) (hn : 256 ≤ n) (σ : ml_St) (x1 : Int) (h_x1 : I32 x1) (ls : Array Slot) (hl : lv_has ls 5 [(0, .ref (base + (215 : Int).toNat)), (1, .int (Int32.ofInt x1))]) (hw : f_X12_writesOut_u254 Q σ x1) : ml_V p l e rm_X12_writesOut s m args below meth c (MQ below (ml_Qv base D cA n Q) args s 0 0 (ml_A base)) base D cA 0 0 n n σ (F0 m 254 ls []) := by
  unfold f_X12_writesOut_u254 at hw
  refine ml_aload_n (pc := 254) X hl 0 rfl rfl dX12_writesOut_254 ?_
  refine gf_X12_134 (pc := 255) X (ml_c215 hn) dX12_writesOut_255 ?_
  refine ml_iload_n (pc := 258) X hl 1 rfl rfl dX12_writesOut_258 ?_
  refine ml_aload_n (pc := 259) X hl 0 rfl rfl dX12_writesOut_259 ?_
  refine gf_X12_418 (pc := 260) X (ml_c215 hn) dX12_writesOut_260 (fun r1 => ?_)
  have hw := hw r1
  obtain ⟨a2, b2, hw⟩ := hw
  refine ml_iast (pc := 263) (N := 16) X (ml_c255 hn) a2 b2 r1 dX12_writesOut_263 (fun σ2 g2 => ?_)
  have hw := hw σ2 g2
  exact ml_vret (pc := 264) X hw dX12_writesOut_264
set_option maxRecDepth 100000 in
set_option maxHeartbeats 4000000 in
theorem u_X12_writesOut_0 {p : Program} {e : Env} {s : State} {m : MethodId} {args : Array Value} {below : List Frame} {meth : Method} {c : Code} {base : Nat} {D : va_G} {cA : Nat → ClassId} {n : Nat} {l : Launch} {Q : ml_St → Prop} (X : ml_X p s m c meth args D cA cX12_writesOut 5 RX12 none) (hn : 256 ≤ n) (σ : ml_St) (x1 : Int) (h_x1 : I32 x1) (ls : Array Slot) (hl : lv_has ls 5 [(0, .ref (base + (215 : Int).toNat)), (1, .int (Int32.ofInt x1))]) (hw : f_X12_writesOut_u0 Q σ x1) : ml_V p l e rm_X12_writesOut s m args below meth c (MQ below (ml_Qv base D cA n Q) args s 0 0 (ml_A base)) base D cA 0 0 n n σ (F0 m 0 ls []) := by
  unfold f_X12_writesOut_u0 at hw
  refine ml_iconst (pc := 0) X dX12_writesOut_0 ?_
  refine ml_istore_n (pc := 1) X rfl hl (by decide) (lst' := [(2, .int (Int32.ofInt 0)), (0, .ref (base + (215 : Int).toNat)), (1, .int (Int32.ofInt x1))]) rfl dX12_writesOut_1 (fun ls hl => ?_)
  refine ml_aload_n (pc := 2) X hl 1 rfl rfl dX12_writesOut_2 ?_
  refine ml_iload_n (pc := 3) X hl 2 rfl rfl dX12_writesOut_3 ?_
  refine pf_X12_201 (pc := 4) X (ml_c215 hn) h_x1 dX12_writesOut_4 (fun σ1 g1 => ?_)
  have hw := hw σ1 g1
  refine ml_aload_n (pc := 7) X hl 1 rfl rfl dX12_writesOut_7 ?_
  refine ml_iconst (pc := 8) X dX12_writesOut_8 ?_
  refine pf_X12_198 (pc := 9) X (ml_c215 hn) ⟨by decide, by decide⟩ dX12_writesOut_9 (fun σ2 g2 => ?_)
  have hw := hw σ2 g2
  refine ml_aload_n (pc := 12) X hl 1 rfl rfl dX12_writesOut_12 ?_
  refine ml_iconst (pc := 13) X dX12_writesOut_13 ?_
  refine pf_X12_418 (pc := 14) X (ml_c215 hn) ⟨by decide, by decide⟩ dX12_writesOut_14 (fun σ3 g3 => ?_)
  have hw := hw σ3 g3
  refine ml_aload_n (pc := 17) X hl 1 rfl rfl dX12_writesOut_17 ?_
  refine gf_X12_137 (pc := 18) X (ml_c215 hn) dX12_writesOut_18 ?_
  refine ml_iconst (pc := 21) X dX12_writesOut_21 ?_
  refine ml_iconst (pc := 22) X dX12_writesOut_22 ?_
  obtain ⟨a4, b4, hw⟩ := hw
  refine ml_iast (pc := 23) (N := 8) X (ml_c256 hn) a4 b4 ⟨by decide, by decide⟩ dX12_writesOut_23 (fun σ4 g4 => ?_)
  have hw := hw σ4 g4
  obtain ⟨N0, hw⟩ := hw
  exact u_X12_writesOut_24 X hn (fun σ x1 h_x1 ls hl hw => u_X12_writesOut_254 X hn σ x1 h_x1 ls hl hw) N0 σ4 x1 0 h_x1 ⟨by decide, by decide⟩ _ (lv_sub hl [1, 2, 0] rfl) hw
set_option maxRecDepth 100000 in
theorem c_X12_writesOut (l : Launch) (base : Nat) (D : va_G) (cA : Nat → ClassId) (n : Nat) (hn : 256 ≤ n) (σ : ml_St) (x1 : Int) (h_x1 : I32 x1) (Q : ml_St → Prop) (hw : f_X12_writesOut σ x1 Q) : Met l yX12_writesOut (Cond.code yX12_writesOut cX12_writesOut 5 none :: ml_T) rm_X12_writesOut (va_Pc [.ref (base + (215 : Int).toNat), .int (Int32.ofInt x1)] (ml_U base D cA n σ)) (ml_Qv base D cA n Q) 0 0 (ml_A base) := by
  refine Met.ofW (cc := cX12_writesOut) (maxL := 5) (ret := none) (by decide) rfl ?_
  intro p e s m args below meth c s₁ B hml hv
  obtain ⟨rfl, hP, hK, hok, hro⟩ := hv
  have X : ml_X p s m c meth _ D cA cX12_writesOut 5 RX12 none := ⟨B.exec, B.bytes, hml, findClass_of_methodNamed B.named, fun w hw => atoms_spec (ws := Cond.code yX12_writesOut cX12_writesOut 5 none :: ml_T) B.pre w (List.mem_cons_of_mem _ hw), hK, B.notSynchronized, B.returns⟩
  have hl := lv_entry [.ref (base + (215 : Int).toNat), .int (Int32.ofInt x1)] (n := 5) (Nat.le_of_ble_eq_true rfl)
  rw [lg_entry_eq]
  generalize (lg_sl [.ref (base + (215 : Int).toNat), .int (Int32.ofInt x1)] ++ List.replicate (5 - (lg_sl [.ref (base + (215 : Int).toNat), .int (Int32.ofInt x1)]).length) Slot.unset).toArray = ls at hl ⊢
  have hl : lv_has ls 5 [(0, .ref (base + (215 : Int).toNat)), (1, .int (Int32.ofInt x1))] := hl
  unfold f_X12_writesOut at hw
  exact u_X12_writesOut_0 X hn σ x1 h_x1 _ (lv_sub hl [0, 1] rfl) hw s.heap [] hP va_S.rf hok hro
theorem dX12_walk_0 : decode cX12_walk 0 = .ok (.aload_n 0, 1) := by decide +kernel
theorem dX12_walk_1 : decode cX12_walk 1 = .ok (.iload_n 1, 1) := by decide +kernel
theorem dX12_walk_2 : decode cX12_walk 2 = .ok (.invokevirtual 287, 3) := by decide +kernel
theorem dX12_walk_5 : decode cX12_walk 5 = .ok (.ifCond .eq 28, 3) := by decide +kernel
theorem dX12_walk_8 : decode cX12_walk 8 = .ok (.aload_n 0, 1) := by decide +kernel
theorem dX12_walk_9 : decode cX12_walk 9 = .ok (.iload_n 1, 1) := by decide +kernel
theorem dX12_walk_10 : decode cX12_walk 10 = .ok (.invokevirtual 217, 3) := by decide +kernel
theorem dX12_walk_13 : decode cX12_walk 13 = .ok (.ldc2_w 427, 3) := by decide +kernel
theorem dX12_walk_16 : decode cX12_walk 16 = .ok (.lcmp, 1) := by decide +kernel
theorem dX12_walk_17 : decode cX12_walk 17 = .ok (.ifCond .gt 16, 3) := by decide +kernel
theorem dX12_walk_20 : decode cX12_walk 20 = .ok (.aload_n 0, 1) := by decide +kernel
theorem dX12_walk_21 : decode cX12_walk 21 = .ok (.iload_n 2, 1) := by decide +kernel
theorem dX12_walk_22 : decode cX12_walk 22 = .ok (.invokevirtual 295, 3) := by decide +kernel
theorem dX12_walk_25 : decode cX12_walk 25 = .ok (.ifCond .eq 8, 3) := by decide +kernel
theorem dX12_walk_28 : decode cX12_walk 28 = .ok (.iload_n 3, 1) := by decide +kernel
theorem dX12_walk_29 : decode cX12_walk 29 = .ok (.iconst (-1), 1) := by decide +kernel
theorem dX12_walk_30 : decode cX12_walk 30 = .ok (.if_icmp .ge 5, 3) := by decide +kernel
theorem dX12_walk_33 : decode cX12_walk 33 = .ok (.iconst (-1), 1) := by decide +kernel
theorem dX12_walk_34 : decode cX12_walk 34 = .ok (.ireturn, 1) := by decide +kernel
theorem dX12_walk_35 : decode cX12_walk 35 = .ok (.iconst 0, 1) := by decide +kernel
theorem dX12_walk_36 : decode cX12_walk 36 = .ok (.istore 4, 2) := by decide +kernel
theorem dX12_walk_38 : decode cX12_walk 38 = .ok (.iload 4, 2) := by decide +kernel
theorem dX12_walk_40 : decode cX12_walk 40 = .ok (.iload_n 1, 1) := by decide +kernel
theorem dX12_walk_41 : decode cX12_walk 41 = .ok (.if_icmp .gt 15, 3) := by decide +kernel
theorem dX12_walk_44 : decode cX12_walk 44 = .ok (.aload_n 0, 1) := by decide +kernel
theorem dX12_walk_45 : decode cX12_walk 45 = .ok (.iload 4, 2) := by decide +kernel
theorem dX12_walk_47 : decode cX12_walk 47 = .ok (.invokevirtual 429, 3) := by decide +kernel
theorem dX12_walk_50 : decode cX12_walk 50 = .ok (.iinc 4 1, 3) := by decide +kernel
theorem dX12_walk_53 : decode cX12_walk 53 = .ok (.goto (-15), 3) := by decide +kernel
theorem dX12_walk_56 : decode cX12_walk 56 = .ok (.aload_n 0, 1) := by decide +kernel
theorem dX12_walk_57 : decode cX12_walk 57 = .ok (.getfield 134, 3) := by decide +kernel
theorem dX12_walk_60 : decode cX12_walk 60 = .ok (.iload_n 1, 1) := by decide +kernel
theorem dX12_walk_61 : decode cX12_walk 61 = .ok (.iaload, 1) := by decide +kernel
theorem dX12_walk_62 : decode cX12_walk 62 = .ok (.istore 4, 2) := by decide +kernel
theorem dX12_walk_64 : decode cX12_walk 64 = .ok (.iload_n 2, 1) := by decide +kernel
theorem dX12_walk_65 : decode cX12_walk 65 = .ok (.aload_n 0, 1) := by decide +kernel
theorem dX12_walk_66 : decode cX12_walk 66 = .ok (.getfield 13, 3) := by decide +kernel
theorem dX12_walk_69 : decode cX12_walk 69 = .ok (.if_icmp .ge 7, 3) := by decide +kernel
theorem dX12_walk_72 : decode cX12_walk 72 = .ok (.iconst 1, 1) := by decide +kernel
theorem dX12_walk_73 : decode cX12_walk 73 = .ok (.goto 4, 3) := by decide +kernel
theorem dX12_walk_76 : decode cX12_walk 76 = .ok (.iconst 0, 1) := by decide +kernel
theorem dX12_walk_77 : decode cX12_walk 77 = .ok (.istore 5, 2) := by decide +kernel
theorem dX12_walk_79 : decode cX12_walk 79 = .ok (.iload_n 2, 1) := by decide +kernel
theorem dX12_walk_80 : decode cX12_walk 80 = .ok (.aload_n 0, 1) := by decide +kernel
theorem dX12_walk_81 : decode cX12_walk 81 = .ok (.getfield 13, 3) := by decide +kernel
theorem dX12_walk_84 : decode cX12_walk 84 = .ok (.if_icmp .ge 7, 3) := by decide +kernel
theorem dX12_walk_87 : decode cX12_walk 87 = .ok (.iload_n 2, 1) := by decide +kernel
theorem dX12_walk_88 : decode cX12_walk 88 = .ok (.goto 9, 3) := by decide +kernel
theorem dX12_walk_91 : decode cX12_walk 91 = .ok (.iload_n 2, 1) := by decide +kernel
theorem dX12_walk_92 : decode cX12_walk 92 = .ok (.aload_n 0, 1) := by decide +kernel
theorem dX12_walk_93 : decode cX12_walk 93 = .ok (.getfield 13, 3) := by decide +kernel
theorem dX12_walk_96 : decode cX12_walk 96 = .ok (.isub, 1) := by decide +kernel
theorem dX12_walk_97 : decode cX12_walk 97 = .ok (.istore 6, 2) := by decide +kernel
theorem dX12_walk_99 : decode cX12_walk 99 = .ok (.iload_n 2, 1) := by decide +kernel
theorem dX12_walk_100 : decode cX12_walk 100 = .ok (.aload_n 0, 1) := by decide +kernel
theorem dX12_walk_101 : decode cX12_walk 101 = .ok (.getfield 13, 3) := by decide +kernel
theorem dX12_walk_104 : decode cX12_walk 104 = .ok (.if_icmp .ge 7, 3) := by decide +kernel
theorem dX12_walk_107 : decode cX12_walk 107 = .ok (.iconst 0, 1) := by decide +kernel
theorem dX12_walk_108 : decode cX12_walk 108 = .ok (.goto 7, 3) := by decide +kernel
theorem dX12_walk_111 : decode cX12_walk 111 = .ok (.iload 4, 2) := by decide +kernel
theorem dX12_walk_113 : decode cX12_walk 113 = .ok (.iconst 1, 1) := by decide +kernel
theorem dX12_walk_114 : decode cX12_walk 114 = .ok (.isub, 1) := by decide +kernel
theorem dX12_walk_115 : decode cX12_walk 115 = .ok (.istore 7, 2) := by decide +kernel
theorem dX12_walk_117 : decode cX12_walk 117 = .ok (.iconst 0, 1) := by decide +kernel
theorem dX12_walk_118 : decode cX12_walk 118 = .ok (.istore 8, 2) := by decide +kernel
theorem dX12_walk_120 : decode cX12_walk 120 = .ok (.iload 7, 2) := by decide +kernel
theorem dX12_walk_122 : decode cX12_walk 122 = .ok (.ifCond .lt 120, 3) := by decide +kernel
theorem dX12_walk_125 : decode cX12_walk 125 = .ok (.iload 7, 2) := by decide +kernel
theorem dX12_walk_127 : decode cX12_walk 127 = .ok (.iload 4, 2) := by decide +kernel
theorem dX12_walk_129 : decode cX12_walk 129 = .ok (.if_icmp .ge 113, 3) := by decide +kernel
theorem dX12_walk_132 : decode cX12_walk 132 = .ok (.aload_n 0, 1) := by decide +kernel
theorem dX12_walk_133 : decode cX12_walk 133 = .ok (.getfield 131, 3) := by decide +kernel
theorem dX12_walk_136 : decode cX12_walk 136 = .ok (.sipush 2000, 3) := by decide +kernel
theorem dX12_walk_139 : decode cX12_walk 139 = .ok (.iload_n 1, 1) := by decide +kernel
theorem dX12_walk_140 : decode cX12_walk 140 = .ok (.imul, 1) := by decide +kernel
theorem dX12_walk_141 : decode cX12_walk 141 = .ok (.iload 7, 2) := by decide +kernel
theorem dX12_walk_143 : decode cX12_walk 143 = .ok (.iadd, 1) := by decide +kernel
theorem dX12_walk_144 : decode cX12_walk 144 = .ok (.baload, 1) := by decide +kernel
theorem dX12_walk_145 : decode cX12_walk 145 = .ok (.istore 9, 2) := by decide +kernel
theorem dX12_walk_147 : decode cX12_walk 147 = .ok (.iload 9, 2) := by decide +kernel
theorem dX12_walk_149 : decode cX12_walk 149 = .ok (.iconst 2, 1) := by decide +kernel
theorem dX12_walk_150 : decode cX12_walk 150 = .ok (.idiv, 1) := by decide +kernel
theorem dX12_walk_151 : decode cX12_walk 151 = .ok (.istore 10, 2) := by decide +kernel
theorem dX12_walk_153 : decode cX12_walk 153 = .ok (.iload 6, 2) := by decide +kernel
theorem dX12_walk_155 : decode cX12_walk 155 = .ok (.iload 10, 2) := by decide +kernel
theorem dX12_walk_157 : decode cX12_walk 157 = .ok (.if_icmp .eq 12, 3) := by decide +kernel
theorem dX12_walk_160 : decode cX12_walk 160 = .ok (.iload 6, 2) := by decide +kernel
theorem dX12_walk_162 : decode cX12_walk 162 = .ok (.iload 10, 2) := by decide +kernel
theorem dX12_walk_164 : decode cX12_walk 164 = .ok (.iconst 1, 1) := by decide +kernel
theorem dX12_walk_165 : decode cX12_walk 165 = .ok (.iadd, 1) := by decide +kernel
theorem dX12_walk_166 : decode cX12_walk 166 = .ok (.if_icmp .ne 58, 3) := by decide +kernel
theorem dX12_walk_169 : decode cX12_walk 169 = .ok (.iload 8, 2) := by decide +kernel
theorem dX12_walk_171 : decode cX12_walk 171 = .ok (.iload_n 3, 1) := by decide +kernel
theorem dX12_walk_172 : decode cX12_walk 172 = .ok (.if_icmp .ne 6, 3) := by decide +kernel
theorem dX12_walk_175 : decode cX12_walk 175 = .ok (.iload 7, 2) := by decide +kernel
theorem dX12_walk_177 : decode cX12_walk 177 = .ok (.ireturn, 1) := by decide +kernel
theorem dX12_walk_178 : decode cX12_walk 178 = .ok (.iinc 8 1, 3) := by decide +kernel
theorem dX12_walk_181 : decode cX12_walk 181 = .ok (.iload 6, 2) := by decide +kernel
theorem dX12_walk_183 : decode cX12_walk 183 = .ok (.iload 10, 2) := by decide +kernel
theorem dX12_walk_185 : decode cX12_walk 185 = .ok (.if_icmp .ne 10, 3) := by decide +kernel
theorem dX12_walk_188 : decode cX12_walk 188 = .ok (.iload 10, 2) := by decide +kernel
theorem dX12_walk_190 : decode cX12_walk 190 = .ok (.iconst 1, 1) := by decide +kernel
theorem dX12_walk_191 : decode cX12_walk 191 = .ok (.iadd, 1) := by decide +kernel
theorem dX12_walk_192 : decode cX12_walk 192 = .ok (.goto 5, 3) := by decide +kernel
theorem dX12_walk_195 : decode cX12_walk 195 = .ok (.iload 10, 2) := by decide +kernel
theorem dX12_walk_197 : decode cX12_walk 197 = .ok (.istore 6, 2) := by decide +kernel
theorem dX12_walk_199 : decode cX12_walk 199 = .ok (.iload 9, 2) := by decide +kernel
theorem dX12_walk_201 : decode cX12_walk 201 = .ok (.iconst 2, 1) := by decide +kernel
theorem dX12_walk_202 : decode cX12_walk 202 = .ok (.irem, 1) := by decide +kernel
theorem dX12_walk_203 : decode cX12_walk 203 = .ok (.iconst 1, 1) := by decide +kernel
theorem dX12_walk_204 : decode cX12_walk 204 = .ok (.if_icmp .ne 7, 3) := by decide +kernel
theorem dX12_walk_207 : decode cX12_walk 207 = .ok (.iconst 1, 1) := by decide +kernel
theorem dX12_walk_208 : decode cX12_walk 208 = .ok (.goto 4, 3) := by decide +kernel
theorem dX12_walk_211 : decode cX12_walk 211 = .ok (.iconst 0, 1) := by decide +kernel
theorem dX12_walk_212 : decode cX12_walk 212 = .ok (.iload 5, 2) := by decide +kernel
theorem dX12_walk_214 : decode cX12_walk 214 = .ok (.if_icmp .ne 7, 3) := by decide +kernel
theorem dX12_walk_217 : decode cX12_walk 217 = .ok (.iconst 1, 1) := by decide +kernel
theorem dX12_walk_218 : decode cX12_walk 218 = .ok (.goto 4, 3) := by decide +kernel
theorem dX12_walk_221 : decode cX12_walk 221 = .ok (.iconst 0, 1) := by decide +kernel
theorem dX12_walk_222 : decode cX12_walk 222 = .ok (.istore 5, 2) := by decide +kernel
theorem dX12_walk_224 : decode cX12_walk 224 = .ok (.iload 7, 2) := by decide +kernel
theorem dX12_walk_226 : decode cX12_walk 226 = .ok (.iload 5, 2) := by decide +kernel
theorem dX12_walk_228 : decode cX12_walk 228 = .ok (.ifCond .eq 7, 3) := by decide +kernel
theorem dX12_walk_231 : decode cX12_walk 231 = .ok (.iconst 1, 1) := by decide +kernel
theorem dX12_walk_232 : decode cX12_walk 232 = .ok (.goto 4, 3) := by decide +kernel
theorem dX12_walk_235 : decode cX12_walk 235 = .ok (.iconst (-1), 1) := by decide +kernel
theorem dX12_walk_236 : decode cX12_walk 236 = .ok (.iadd, 1) := by decide +kernel
theorem dX12_walk_237 : decode cX12_walk 237 = .ok (.istore 7, 2) := by decide +kernel
theorem dX12_walk_239 : decode cX12_walk 239 = .ok (.goto (-119), 3) := by decide +kernel
theorem dX12_walk_242 : decode cX12_walk 242 = .ok (.iload_n 3, 1) := by decide +kernel
theorem dX12_walk_243 : decode cX12_walk 243 = .ok (.iconst (-1), 1) := by decide +kernel
theorem dX12_walk_244 : decode cX12_walk 244 = .ok (.if_icmp .ne 23, 3) := by decide +kernel
theorem dX12_walk_247 : decode cX12_walk 247 = .ok (.iload 5, 2) := by decide +kernel
theorem dX12_walk_249 : decode cX12_walk 249 = .ok (.ifCond .eq 13, 3) := by decide +kernel
theorem dX12_walk_252 : decode cX12_walk 252 = .ok (.aload_n 0, 1) := by decide +kernel
theorem dX12_walk_253 : decode cX12_walk 253 = .ok (.getfield 13, 3) := by decide +kernel
theorem dX12_walk_256 : decode cX12_walk 256 = .ok (.iload 6, 2) := by decide +kernel
theorem dX12_walk_258 : decode cX12_walk 258 = .ok (.iadd, 1) := by decide +kernel
theorem dX12_walk_259 : decode cX12_walk 259 = .ok (.goto 9, 3) := by decide +kernel
theorem dX12_walk_262 : decode cX12_walk 262 = .ok (.iload 6, 2) := by decide +kernel
theorem dX12_walk_264 : decode cX12_walk 264 = .ok (.goto 4, 3) := by decide +kernel
theorem dX12_walk_267 : decode cX12_walk 267 = .ok (.iconst (-1), 1) := by decide +kernel
theorem dX12_walk_268 : decode cX12_walk 268 = .ok (.ireturn, 1) := by decide +kernel
def f_X12_walk_u33 (Q : Int → ml_St → Prop) (σ : ml_St) : Prop :=
Q (-1) σ
def f_X12_walk_u38 (Q : Int → ml_St → Prop) (K56 : ml_St → Int → Int → Int → Prop) : Nat → ml_St → Int → Int → Int → Int → Prop
| 0, _, _, _, _, _ => False
| N + 1, σ, x1, x2, x3, x4 =>
(x1 < x4 →
K56 σ x1 x2 x3) ∧
(¬ (x1 < x4) →
f_X12_writesOut σ x4 (fun σ2 =>
I32 (x4 + 1) ∧
∀ y3 : Int, y3 = x4 + 1 →
f_X12_walk_u38 Q K56 N σ2 x1 x2 x3 y3))
def f_X12_walk_u236 (Q : Int → ml_St → Prop) (K120 : ml_St → Int → Int → Int → Int → Int → Int → Int → Prop) (σ : ml_St) (x1 : Int) (x3 : Int) (x4 : Int) (x5 : Int) (x6 : Int) (x8 : Int) (s0 : Int) (s1 : Int) : Prop :=
I32 (s0 + s1) ∧
∀ y2 : Int, y2 = s0 + s1 →
K120 σ x1 x3 x4 x5 x6 y2 x8
def f_X12_walk_u224 (Q : Int → ml_St → Prop) (K120 : ml_St → Int → Int → Int → Int → Int → Int → Int → Prop) (σ : ml_St) (x1 : Int) (x3 : Int) (x4 : Int) (x5 : Int) (x6 : Int) (x7 : Int) (x8 : Int) : Prop :=
(x5 = 0 →
f_X12_walk_u236 Q K120 σ x1 x3 x4 x5 x6 x8 x7 (-1)) ∧
(x5 ≠ 0 →
f_X12_walk_u236 Q K120 σ x1 x3 x4 x5 x6 x8 x7 1)
def f_X12_walk_u222 (Q : Int → ml_St → Prop) (K120 : ml_St → Int → Int → Int → Int → Int → Int → Int → Prop) (σ : ml_St) (x1 : Int) (x3 : Int) (x4 : Int) (x6 : Int) (x7 : Int) (x8 : Int) (s0 : Int) : Prop :=
f_X12_walk_u224 Q K120 σ x1 x3 x4 s0 x6 x7 x8
def f_X12_walk_u212 (Q : Int → ml_St → Prop) (K120 : ml_St → Int → Int → Int → Int → Int → Int → Int → Prop) (σ : ml_St) (x1 : Int) (x3 : Int) (x4 : Int) (x5 : Int) (x6 : Int) (x7 : Int) (x8 : Int) (s0 : Int) : Prop :=
(s0 ≠ x5 →
f_X12_walk_u222 Q K120 σ x1 x3 x4 x6 x7 x8 0) ∧
(s0 = x5 →
f_X12_walk_u222 Q K120 σ x1 x3 x4 x6 x7 x8 1)
def f_X12_walk_u197 (Q : Int → ml_St → Prop) (K120 : ml_St → Int → Int → Int → Int → Int → Int → Int → Prop) (σ : ml_St) (x1 : Int) (x3 : Int) (x4 : Int) (x5 : Int) (x7 : Int) (x8 : Int) (x9 : Int) (s0 : Int) : Prop :=
(2 : Int) ≠ 0 ∧ I32 (Int.tmod x9 2) ∧
(((Int.tmod x9 2) : Int) ≠ 1 →
f_X12_walk_u212 Q K120 σ x1 x3 x4 x5 s0 x7 x8 0) ∧
((Int.tmod x9 2) = 1 →
f_X12_walk_u212 Q K120 σ x1 x3 x4 x5 s0 x7 x8 1)
def f_X12_walk_u169 (Q : Int → ml_St → Prop) (K120 : ml_St → Int → Int → Int → Int → Int → Int → Int → Prop) (K175 : ml_St → Int → Prop) (σ : ml_St) (x1 : Int) (x3 : Int) (x4 : Int) (x5 : Int) (x6 : Int) (x7 : Int) (x8 : Int) (x9 : Int) (x10 : Int) : Prop :=
(x8 ≠ x3 →
I32 (x8 + 1) ∧
∀ y2 : Int, y2 = x8 + 1 →
(x6 ≠ x10 →
f_X12_walk_u197 Q K120 σ x1 x3 x4 x5 x7 y2 x9 x10) ∧
(x6 = x10 →
I32 (x10 + 1) ∧
f_X12_walk_u197 Q K120 σ x1 x3 x4 x5 x7 y2 x9 (x10 + 1))) ∧
(x8 = x3 →
K175 σ x7)
def f_X12_walk_u120 (Q : Int → ml_St → Prop) (K175 : ml_St → Int → Prop) (K242 : ml_St → Int → Int → Int → Prop) : Nat → ml_St → Int → Int → Int → Int → Int → Int → Int → Prop
| 0, _, _, _, _, _, _, _, _ => False
| N + 1, σ, x1, x3, x4, x5, x6, x7, x8 =>
(x7 < 0 →
K242 σ x3 x5 x6) ∧
(¬ (x7 < 0) →
(x4 ≤ x7 →
K242 σ x3 x5 x6) ∧
(¬ (x4 ≤ x7) →
I32 (2000 * x1) ∧
I32 ((2000 * x1) + x7) ∧
(0 : Int) ≤ ((2000 * x1) + x7) ∧ (((2000 * x1) + x7) : Int) < 32000 ∧
∀ _ : ml_I8 (σ 254 ((2000 * x1) + x7)),
∀ y6 : Int, y6 = σ 254 ((2000 * x1) + x7) →
(2 : Int) ≠ 0 ∧ I32 (Int.tdiv y6 2) ∧
∀ y8 : Int, y8 = Int.tdiv y6 2 →
(x6 = y8 →
f_X12_walk_u169 Q (f_X12_walk_u120 Q K175 K242 N) K175 σ x1 x3 x4 x5 x6 x7 x8 y6 y8) ∧
(x6 ≠ y8 →
I32 (y8 + 1) ∧
(x6 ≠ (y8 + 1) →
f_X12_walk_u224 Q (f_X12_walk_u120 Q K175 K242 N) σ x1 x3 x4 x5 x6 x7 x8) ∧
(x6 = (y8 + 1) →
f_X12_walk_u169 Q (f_X12_walk_u120 Q K175 K242 N) K175 σ x1 x3 x4 x5 x6 x7 x8 y6 y8))))
def f_X12_walk_u175 (Q : Int → ml_St → Prop) (σ : ml_St) (x7 : Int) : Prop :=
Q x7 σ
def f_X12_walk_u268 (Q : Int → ml_St → Prop) (σ : ml_St) (s0 : Int) : Prop :=
Q s0 σ
def f_X12_walk_u242 (Q : Int → ml_St → Prop) (σ : ml_St) (x3 : Int) (x5 : Int) (x6 : Int) : Prop :=
(x3 ≠ (-1) →
f_X12_walk_u268 Q σ (-1)) ∧
(x3 = (-1) →
(x5 = 0 →
f_X12_walk_u268 Q σ x6) ∧
(x5 ≠ 0 →
∀ _ : I32 (σ 215 2),
I32 ((σ 215 2) + x6) ∧
f_X12_walk_u268 Q σ ((σ 215 2) + x6)))
def f_X12_walk_u115 (Q : Int → ml_St → Prop) (σ : ml_St) (x1 : Int) (x3 : Int) (x4 : Int) (x5 : Int) (x6 : Int) (s0 : Int) : Prop :=
∃ N1, f_X12_walk_u120 Q (f_X12_walk_u175 Q) (f_X12_walk_u242 Q) N1 σ x1 x3 x4 x5 x6 s0 0
def f_X12_walk_u97 (Q : Int → ml_St → Prop) (σ : ml_St) (x1 : Int) (x2 : Int) (x3 : Int) (x4 : Int) (x5 : Int) (s0 : Int) : Prop :=
∀ _ : I32 (σ 215 2),
((σ 215 2) ≤ x2 →
I32 (x4 - 1) ∧
f_X12_walk_u115 Q σ x1 x3 x4 x5 s0 (x4 - 1)) ∧
(¬ ((σ 215 2) ≤ x2) →
f_X12_walk_u115 Q σ x1 x3 x4 x5 s0 0)
def f_X12_walk_u77 (Q : Int → ml_St → Prop) (σ : ml_St) (x1 : Int) (x2 : Int) (x3 : Int) (x4 : Int) (s0 : Int) : Prop :=
∀ _ : I32 (σ 215 2),
((σ 215 2) ≤ x2 →
∀ _ : I32 (σ 215 2),
I32 (x2 - (σ 215 2)) ∧
f_X12_walk_u97 Q σ x1 x2 x3 x4 s0 (x2 - (σ 215 2))) ∧
(¬ ((σ 215 2) ≤ x2) →
f_X12_walk_u97 Q σ x1 x2 x3 x4 s0 x2)
def f_X12_walk_u56 (Q : Int → ml_St → Prop) (σ : ml_St) (x1 : Int) (x2 : Int) (x3 : Int) : Prop :=
(0 : Int) ≤ x1 ∧ (x1 : Int) < 16 ∧
∀ _ : I32 (σ 255 x1),
∀ y2 : Int, y2 = σ 255 x1 →
∀ _ : I32 (σ 215 2),
((σ 215 2) ≤ x2 →
f_X12_walk_u77 Q σ x1 x2 x3 y2 0) ∧
(¬ ((σ 215 2) ≤ x2) →
f_X12_walk_u77 Q σ x1 x2 x3 y2 1)
def f_X12_walk_u0 (Q : Int → ml_St → Prop) (σ : ml_St) (x1 : Int) (x2 : Int) (x3 : Int) : Prop :=
f_X12_isWord σ x1 (fun r1 σ1 => ∀ _ : ml_B r1,
(r1 = 0 →
f_X12_walk_u33 Q σ1) ∧
(r1 ≠ 0 →
f_X12_signsOf σ1 x1 (fun r3 σ3 => ∀ _ : I64 r3,
(2000 < r3 →
f_X12_walk_u33 Q σ3) ∧
(¬ (2000 < r3) →
f_X12_isEnd σ3 x2 (fun r5 σ5 => ∀ _ : ml_B r5,
(r5 = 0 →
f_X12_walk_u33 Q σ5) ∧
(r5 ≠ 0 →
((-1) ≤ x3 →
∃ N1, f_X12_walk_u38 Q (f_X12_walk_u56 Q) N1 σ5 x1 x2 x3 0) ∧
(¬ ((-1) ≤ x3) →
f_X12_walk_u33 Q σ5)))))))
def f_X12_walk (σ : ml_St) (x1 : Int) (x2 : Int) (x3 : Int) (Q : Int → ml_St → Prop) : Prop := f_X12_walk_u0 Q σ x1 x2 x3
def rm_X12_walk : Room := { frames := 3, cells := 0, slots := 0, locals := 72 }
set_option maxRecDepth 100000 in
set_option maxHeartbeats 4000000 in
theorem u_X12_walk_33 {p : Program} {e : Env} {s : State} {m : MethodId} {args : Array Value} {below : List Frame} {meth : Method} {c : Code} {base : Nat} {D : va_G} {cA : Nat → ClassId} {n : Nat} {l : Launch} {Q : Int → ml_St → Prop} (X : ml_X p s m c meth args D cA cX12_walk 11 RX12 (some .int)) (hn : 256 ≤ n) (σ : ml_St) (ls : Array Slot) (hl : lv_has ls 11 []) (hw : f_X12_walk_u33 Q σ) : ml_V p l e rm_X12_walk s m args below meth c (MQ below (ml_Qi I32 base D cA n Q) args s 0 0 (ml_A base)) base D cA 0 0 n n σ (F0 m 33 ls []) := by
  unfold f_X12_walk_u33 at hw
  refine ml_iconst (pc := 33) X dX12_walk_33 ?_
  exact ml_iret (pc := 34) X ⟨by decide, by decide⟩ hw dX12_walk_34
set_option maxRecDepth 100000 in
set_option maxHeartbeats 4000000 in
theorem u_X12_walk_38 {p : Program} {e : Env} {s : State} {m : MethodId} {args : Array Value} {below : List Frame} {meth : Method} {c : Code} {base : Nat} {D : va_G} {cA : Nat → ClassId} {n : Nat} {l : Launch} {Q : Int → ml_St → Prop} {K56 : ml_St → Int → Int → Int → Prop} (X : ml_X p s m c meth args D cA cX12_walk 11 RX12 (some .int)) (hn : 256 ≤ n) (hK56 : ∀ (σ : ml_St) (x1 : Int) (x2 : Int) (x3 : Int) (h_x1 : I32 x1) (h_x2 : I32 x2) (h_x3 : I32 x3) (ls : Array Slot), lv_has ls 11 [(0, .ref (base + (215 : Int).toNat)), (1, .int (Int32.ofInt x1)), (2, .int (Int32.ofInt x2)), (3, .int (Int32.ofInt x3))] → K56 σ x1 x2 x3 → ml_V p l e rm_X12_walk s m args below meth c (MQ below (ml_Qi I32 base D cA n Q) args s 0 0 (ml_A base)) base D cA 0 0 n n σ (F0 m 56 ls [])) : ∀ (N : Nat) (σ : ml_St) (x1 : Int) (x2 : Int) (x3 : Int) (x4 : Int) (h_x1 : I32 x1) (h_x2 : I32 x2) (h_x3 : I32 x3) (h_x4 : I32 x4) (ls : Array Slot), lv_has ls 11 [(0, .ref (base + (215 : Int).toNat)), (1, .int (Int32.ofInt x1)), (2, .int (Int32.ofInt x2)), (3, .int (Int32.ofInt x3)), (4, .int (Int32.ofInt x4))] → f_X12_walk_u38 Q K56 N σ x1 x2 x3 x4 → ml_V p l e rm_X12_walk s m args below meth c (MQ below (ml_Qi I32 base D cA n Q) args s 0 0 (ml_A base)) base D cA 0 0 n n σ (F0 m 38 ls []) := by
  intro N
  induction N with
  | zero => intro σ x1 x2 x3 x4 h_x1 h_x2 h_x3 h_x4 ls hl hw; exact False.elim hw
  | succ N ih =>
    intro σ x1 x2 x3 x4 h_x1 h_x2 h_x3 h_x4 ls hl hw
    unfold f_X12_walk_u38 at hw
    refine ml_iload (pc := 38) X hl 4 rfl dX12_walk_38 ?_
    refine ml_iload_n (pc := 40) X hl 1 rfl rfl dX12_walk_40 ?_
    refine ml_icmp_gt (pc := 41) (tgt := 56) X h_x4 h_x1 dX12_walk_41 (by decide) (fun c1 => ?_) (fun c1 => ?_)
    · have hw := hw.1 c1
      exact hK56 σ x1 x2 x3 h_x1 h_x2 h_x3 _ (lv_sub hl [0, 1, 2, 3] rfl) hw
    · have hw := hw.2 c1
      refine ml_aload_n (pc := 44) X hl 0 rfl rfl dX12_walk_44 ?_
      refine ml_iload (pc := 45) X hl 4 rfl dX12_walk_45 ?_
      refine ml_callvV (pc := 47) (rest := []) X [.int (Int32.ofInt x4)] (by decide) rfl (ml_c215 hn) (c_X12_writesOut l base D cA n hn σ x4 h_x4 _ hw) cv_X12_429 ⟨rfl, rfl⟩ ⟨by decide, by decide⟩ rfl rfl hl (Nat.le_of_ble_eq_true rfl) ⟨Nat.zero_le _, Nat.zero_le _⟩ dX12_walk_47 (fun σ2 hw => ?_)
      obtain ⟨v3, hw⟩ := hw
      obtain ⟨y3, e3⟩ : ∃ y : Int, y = x4 + 1 := ⟨_, rfl⟩
      have hw := hw y3 e3
      rw [← e3] at v3
      refine ml_iinc (pc := 50) X e3 hl 4 rfl (by decide) (lst' := [(4, .int (Int32.ofInt y3)), (0, .ref (base + (215 : Int).toNat)), (1, .int (Int32.ofInt x1)), (2, .int (Int32.ofInt x2)), (3, .int (Int32.ofInt x3))]) rfl dX12_walk_50 (fun ls hl => ?_)
      refine ml_goto (pc := 53) (tgt := 38) X dX12_walk_53 (by decide) ?_
      exact ih σ2 x1 x2 x3 y3 h_x1 h_x2 h_x3 v3 _ (lv_sub hl [1, 2, 3, 4, 0] rfl) hw
set_option maxRecDepth 100000 in
set_option maxHeartbeats 4000000 in
theorem u_X12_walk_236 {p : Program} {e : Env} {s : State} {m : MethodId} {args : Array Value} {below : List Frame} {meth : Method} {c : Code} {base : Nat} {D : va_G} {cA : Nat → ClassId} {n : Nat} {l : Launch} {Q : Int → ml_St → Prop} {K120 : ml_St → Int → Int → Int → Int → Int → Int → Int → Prop} (X : ml_X p s m c meth args D cA cX12_walk 11 RX12 (some .int)) (hn : 256 ≤ n) (hK120 : ∀ (σ : ml_St) (x1 : Int) (x3 : Int) (x4 : Int) (x5 : Int) (x6 : Int) (x7 : Int) (x8 : Int) (h_x1 : I32 x1) (h_x3 : I32 x3) (h_x4 : I32 x4) (h_x5 : ml_B x5) (h_x6 : I32 x6) (h_x7 : I32 x7) (h_x8 : I32 x8) (ls : Array Slot), lv_has ls 11 [(0, .ref (base + (215 : Int).toNat)), (1, .int (Int32.ofInt x1)), (3, .int (Int32.ofInt x3)), (4, .int (Int32.ofInt x4)), (5, .int (Int32.ofInt x5)), (6, .int (Int32.ofInt x6)), (7, .int (Int32.ofInt x7)), (8, .int (Int32.ofInt x8))] → K120 σ x1 x3 x4 x5 x6 x7 x8 → ml_V p l e rm_X12_walk s m args below meth c (MQ below (ml_Qi I32 base D cA n Q) args s 0 0 (ml_A base)) base D cA 0 0 n n σ (F0 m 120 ls [])) (σ : ml_St) (x1 : Int) (x3 : Int) (x4 : Int) (x5 : Int) (x6 : Int) (x8 : Int) (s0 : Int) (s1 : Int) (h_x1 : I32 x1) (h_x3 : I32 x3) (h_x4 : I32 x4) (h_x5 : ml_B x5) (h_x6 : I32 x6) (h_x8 : I32 x8) (h_s0 : I32 s0) (h_s1 : I32 s1) (ls : Array Slot) (hl : lv_has ls 11 [(0, .ref (base + (215 : Int).toNat)), (1, .int (Int32.ofInt x1)), (3, .int (Int32.ofInt x3)), (4, .int (Int32.ofInt x4)), (5, .int (Int32.ofInt x5)), (6, .int (Int32.ofInt x6)), (8, .int (Int32.ofInt x8))]) (hw : f_X12_walk_u236 Q K120 σ x1 x3 x4 x5 x6 x8 s0 s1) : ml_V p l e rm_X12_walk s m args below meth c (MQ below (ml_Qi I32 base D cA n Q) args s 0 0 (ml_A base)) base D cA 0 0 n n σ (F0 m 236 ls [.int (Int32.ofInt s1), .int (Int32.ofInt s0)]) := by
  unfold f_X12_walk_u236 at hw
  obtain ⟨v1, hw⟩ := hw
  refine ml_iadd (pc := 236) X dX12_walk_236 ?_
  refine ml_topI (pc := 237) (fun y2 e2 => ?_)
  have hw := hw y2 e2
  have q2 : I32 y2 := by rw [e2]; exact v1
  refine ml_istore (pc := 237) X hl (by decide) (lst' := [(7, .int (Int32.ofInt y2)), (0, .ref (base + (215 : Int).toNat)), (1, .int (Int32.ofInt x1)), (3, .int (Int32.ofInt x3)), (4, .int (Int32.ofInt x4)), (5, .int (Int32.ofInt x5)), (6, .int (Int32.ofInt x6)), (8, .int (Int32.ofInt x8))]) rfl dX12_walk_237 (fun ls hl => ?_)
  refine ml_goto (pc := 239) (tgt := 120) X dX12_walk_239 (by decide) ?_
  exact hK120 σ x1 x3 x4 x5 x6 y2 x8 h_x1 h_x3 h_x4 h_x5 h_x6 q2 h_x8 _ (lv_sub hl [1, 2, 3, 4, 5, 6, 0, 7] rfl) hw
set_option maxRecDepth 100000 in
set_option maxHeartbeats 4000000 in
theorem u_X12_walk_224 {p : Program} {e : Env} {s : State} {m : MethodId} {args : Array Value} {below : List Frame} {meth : Method} {c : Code} {base : Nat} {D : va_G} {cA : Nat → ClassId} {n : Nat} {l : Launch} {Q : Int → ml_St → Prop} {K120 : ml_St → Int → Int → Int → Int → Int → Int → Int → Prop} (X : ml_X p s m c meth args D cA cX12_walk 11 RX12 (some .int)) (hn : 256 ≤ n) (hK120 : ∀ (σ : ml_St) (x1 : Int) (x3 : Int) (x4 : Int) (x5 : Int) (x6 : Int) (x7 : Int) (x8 : Int) (h_x1 : I32 x1) (h_x3 : I32 x3) (h_x4 : I32 x4) (h_x5 : ml_B x5) (h_x6 : I32 x6) (h_x7 : I32 x7) (h_x8 : I32 x8) (ls : Array Slot), lv_has ls 11 [(0, .ref (base + (215 : Int).toNat)), (1, .int (Int32.ofInt x1)), (3, .int (Int32.ofInt x3)), (4, .int (Int32.ofInt x4)), (5, .int (Int32.ofInt x5)), (6, .int (Int32.ofInt x6)), (7, .int (Int32.ofInt x7)), (8, .int (Int32.ofInt x8))] → K120 σ x1 x3 x4 x5 x6 x7 x8 → ml_V p l e rm_X12_walk s m args below meth c (MQ below (ml_Qi I32 base D cA n Q) args s 0 0 (ml_A base)) base D cA 0 0 n n σ (F0 m 120 ls [])) (σ : ml_St) (x1 : Int) (x3 : Int) (x4 : Int) (x5 : Int) (x6 : Int) (x7 : Int) (x8 : Int) (h_x1 : I32 x1) (h_x3 : I32 x3) (h_x4 : I32 x4) (h_x5 : ml_B x5) (h_x6 : I32 x6) (h_x7 : I32 x7) (h_x8 : I32 x8) (ls : Array Slot) (hl : lv_has ls 11 [(0, .ref (base + (215 : Int).toNat)), (1, .int (Int32.ofInt x1)), (3, .int (Int32.ofInt x3)), (4, .int (Int32.ofInt x4)), (5, .int (Int32.ofInt x5)), (6, .int (Int32.ofInt x6)), (7, .int (Int32.ofInt x7)), (8, .int (Int32.ofInt x8))]) (hw : f_X12_walk_u224 Q K120 σ x1 x3 x4 x5 x6 x7 x8) : ml_V p l e rm_X12_walk s m args below meth c (MQ below (ml_Qi I32 base D cA n Q) args s 0 0 (ml_A base)) base D cA 0 0 n n σ (F0 m 224 ls []) := by
  unfold f_X12_walk_u224 at hw
  refine ml_iload (pc := 224) X hl 6 rfl dX12_walk_224 ?_
  refine ml_iload (pc := 226) X hl 4 rfl dX12_walk_226 ?_
  refine ml_if_eq (pc := 228) (tgt := 235) X h_x5.i dX12_walk_228 (by decide) (fun c1 => ?_) (fun c1 => ?_)
  · have hw := hw.1 c1
    refine ml_iconst (pc := 235) X dX12_walk_235 ?_
    exact u_X12_walk_236 X hn hK120 σ x1 x3 x4 x5 x6 x8 x7 (-1) h_x1 h_x3 h_x4 h_x5 h_x6 h_x8 h_x7 ⟨by decide, by decide⟩ _ (lv_sub hl [0, 1, 2, 3, 4, 5, 7] rfl) hw
  · have hw := hw.2 c1
    refine ml_iconst (pc := 231) X dX12_walk_231 ?_
    refine ml_goto (pc := 232) (tgt := 236) X dX12_walk_232 (by decide) ?_
    exact u_X12_walk_236 X hn hK120 σ x1 x3 x4 x5 x6 x8 x7 1 h_x1 h_x3 h_x4 h_x5 h_x6 h_x8 h_x7 ⟨by decide, by decide⟩ _ (lv_sub hl [0, 1, 2, 3, 4, 5, 7] rfl) hw
set_option maxRecDepth 100000 in
set_option maxHeartbeats 4000000 in
theorem u_X12_walk_222 {p : Program} {e : Env} {s : State} {m : MethodId} {args : Array Value} {below : List Frame} {meth : Method} {c : Code} {base : Nat} {D : va_G} {cA : Nat → ClassId} {n : Nat} {l : Launch} {Q : Int → ml_St → Prop} {K120 : ml_St → Int → Int → Int → Int → Int → Int → Int → Prop} (X : ml_X p s m c meth args D cA cX12_walk 11 RX12 (some .int)) (hn : 256 ≤ n) (hK120 : ∀ (σ : ml_St) (x1 : Int) (x3 : Int) (x4 : Int) (x5 : Int) (x6 : Int) (x7 : Int) (x8 : Int) (h_x1 : I32 x1) (h_x3 : I32 x3) (h_x4 : I32 x4) (h_x5 : ml_B x5) (h_x6 : I32 x6) (h_x7 : I32 x7) (h_x8 : I32 x8) (ls : Array Slot), lv_has ls 11 [(0, .ref (base + (215 : Int).toNat)), (1, .int (Int32.ofInt x1)), (3, .int (Int32.ofInt x3)), (4, .int (Int32.ofInt x4)), (5, .int (Int32.ofInt x5)), (6, .int (Int32.ofInt x6)), (7, .int (Int32.ofInt x7)), (8, .int (Int32.ofInt x8))] → K120 σ x1 x3 x4 x5 x6 x7 x8 → ml_V p l e rm_X12_walk s m args below meth c (MQ below (ml_Qi I32 base D cA n Q) args s 0 0 (ml_A base)) base D cA 0 0 n n σ (F0 m 120 ls [])) (σ : ml_St) (x1 : Int) (x3 : Int) (x4 : Int) (x6 : Int) (x7 : Int) (x8 : Int) (s0 : Int) (h_x1 : I32 x1) (h_x3 : I32 x3) (h_x4 : I32 x4) (h_x6 : I32 x6) (h_x7 : I32 x7) (h_x8 : I32 x8) (h_s0 : ml_B s0) (ls : Array Slot) (hl : lv_has ls 11 [(0, .ref (base + (215 : Int).toNat)), (1, .int (Int32.ofInt x1)), (3, .int (Int32.ofInt x3)), (4, .int (Int32.ofInt x4)), (6, .int (Int32.ofInt x6)), (7, .int (Int32.ofInt x7)), (8, .int (Int32.ofInt x8))]) (hw : f_X12_walk_u222 Q K120 σ x1 x3 x4 x6 x7 x8 s0) : ml_V p l e rm_X12_walk s m args below meth c (MQ below (ml_Qi I32 base D cA n Q) args s 0 0 (ml_A base)) base D cA 0 0 n n σ (F0 m 222 ls [.int (Int32.ofInt s0)]) := by
  unfold f_X12_walk_u222 at hw
  refine ml_istore (pc := 222) X hl (by decide) (lst' := [(5, .int (Int32.ofInt s0)), (0, .ref (base + (215 : Int).toNat)), (1, .int (Int32.ofInt x1)), (3, .int (Int32.ofInt x3)), (4, .int (Int32.ofInt x4)), (6, .int (Int32.ofInt x6)), (7, .int (Int32.ofInt x7)), (8, .int (Int32.ofInt x8))]) rfl dX12_walk_222 (fun ls hl => ?_)
  exact u_X12_walk_224 X hn hK120 σ x1 x3 x4 s0 x6 x7 x8 h_x1 h_x3 h_x4 h_s0 h_x6 h_x7 h_x8 _ (lv_sub hl [1, 2, 3, 4, 0, 5, 6, 7] rfl) hw
set_option maxRecDepth 100000 in
set_option maxHeartbeats 4000000 in
theorem u_X12_walk_212 {p : Program} {e : Env} {s : State} {m : MethodId} {args : Array Value} {below : List Frame} {meth : Method} {c : Code} {base : Nat} {D : va_G} {cA : Nat → ClassId} {n : Nat} {l : Launch} {Q : Int → ml_St → Prop} {K120 : ml_St → Int → Int → Int → Int → Int → Int → Int → Prop} (X : ml_X p s m c meth args D cA cX12_walk 11 RX12 (some .int)) (hn : 256 ≤ n) (hK120 : ∀ (σ : ml_St) (x1 : Int) (x3 : Int) (x4 : Int) (x5 : Int) (x6 : Int) (x7 : Int) (x8 : Int) (h_x1 : I32 x1) (h_x3 : I32 x3) (h_x4 : I32 x4) (h_x5 : ml_B x5) (h_x6 : I32 x6) (h_x7 : I32 x7) (h_x8 : I32 x8) (ls : Array Slot), lv_has ls 11 [(0, .ref (base + (215 : Int).toNat)), (1, .int (Int32.ofInt x1)), (3, .int (Int32.ofInt x3)), (4, .int (Int32.ofInt x4)), (5, .int (Int32.ofInt x5)), (6, .int (Int32.ofInt x6)), (7, .int (Int32.ofInt x7)), (8, .int (Int32.ofInt x8))] → K120 σ x1 x3 x4 x5 x6 x7 x8 → ml_V p l e rm_X12_walk s m args below meth c (MQ below (ml_Qi I32 base D cA n Q) args s 0 0 (ml_A base)) base D cA 0 0 n n σ (F0 m 120 ls [])) (σ : ml_St) (x1 : Int) (x3 : Int) (x4 : Int) (x5 : Int) (x6 : Int) (x7 : Int) (x8 : Int) (s0 : Int) (h_x1 : I32 x1) (h_x3 : I32 x3) (h_x4 : I32 x4) (h_x5 : ml_B x5) (h_x6 : I32 x6) (h_x7 : I32 x7) (h_x8 : I32 x8) (h_s0 : ml_B s0) (ls : Array Slot) (hl : lv_has ls 11 [(0, .ref (base + (215 : Int).toNat)), (1, .int (Int32.ofInt x1)), (3, .int (Int32.ofInt x3)), (4, .int (Int32.ofInt x4)), (5, .int (Int32.ofInt x5)), (6, .int (Int32.ofInt x6)), (7, .int (Int32.ofInt x7)), (8, .int (Int32.ofInt x8))]) (hw : f_X12_walk_u212 Q K120 σ x1 x3 x4 x5 x6 x7 x8 s0) : ml_V p l e rm_X12_walk s m args below meth c (MQ below (ml_Qi I32 base D cA n Q) args s 0 0 (ml_A base)) base D cA 0 0 n n σ (F0 m 212 ls [.int (Int32.ofInt s0)]) := by
  unfold f_X12_walk_u212 at hw
  refine ml_iload (pc := 212) X hl 4 rfl dX12_walk_212 ?_
  refine ml_icmp_ne (pc := 214) (tgt := 221) X h_s0.i h_x5.i dX12_walk_214 (by decide) (fun c1 => ?_) (fun c1 => ?_)
  · have hw := hw.1 c1
    refine ml_iconst (pc := 221) X dX12_walk_221 ?_
    exact u_X12_walk_222 X hn hK120 σ x1 x3 x4 x6 x7 x8 0 h_x1 h_x3 h_x4 h_x6 h_x7 h_x8 ⟨by decide, by decide⟩ _ (lv_sub hl [0, 1, 2, 3, 5, 6, 7] rfl) hw
  · have hw := hw.2 c1
    refine ml_iconst (pc := 217) X dX12_walk_217 ?_
    refine ml_goto (pc := 218) (tgt := 222) X dX12_walk_218 (by decide) ?_
    exact u_X12_walk_222 X hn hK120 σ x1 x3 x4 x6 x7 x8 1 h_x1 h_x3 h_x4 h_x6 h_x7 h_x8 ⟨by decide, by decide⟩ _ (lv_sub hl [0, 1, 2, 3, 5, 6, 7] rfl) hw
set_option maxRecDepth 100000 in
set_option maxHeartbeats 4000000 in
theorem u_X12_walk_197 {p : Program} {e : Env} {s : State} {m : MethodId} {args : Array Value} {below : List Frame} {meth : Method} {c : Code} {base : Nat} {D : va_G} {cA : Nat → ClassId} {n : Nat} {l : Launch} {Q : Int → ml_St → Prop} {K120 : ml_St → Int → Int → Int → Int → Int → Int → Int → Prop} (X : ml_X p s m c meth args D cA cX12_walk 11 RX12 (some .int)) (hn : 256 ≤ n) (hK120 : ∀ (σ : ml_St) (x1 : Int) (x3 : Int) (x4 : Int) (x5 : Int) (x6 : Int) (x7 : Int) (x8 : Int) (h_x1 : I32 x1) (h_x3 : I32 x3) (h_x4 : I32 x4) (h_x5 : ml_B x5) (h_x6 : I32 x6) (h_x7 : I32 x7) (h_x8 : I32 x8) (ls : Array Slot), lv_has ls 11 [(0, .ref (base + (215 : Int).toNat)), (1, .int (Int32.ofInt x1)), (3, .int (Int32.ofInt x3)), (4, .int (Int32.ofInt x4)), (5, .int (Int32.ofInt x5)), (6, .int (Int32.ofInt x6)), (7, .int (Int32.ofInt x7)), (8, .int (Int32.ofInt x8))] → K120 σ x1 x3 x4 x5 x6 x7 x8 → ml_V p l e rm_X12_walk s m args below meth c (MQ below (ml_Qi I32 base D cA n Q) args s 0 0 (ml_A base)) base D cA 0 0 n n σ (F0 m 120 ls [])) (σ : ml_St) (x1 : Int) (x3 : Int) (x4 : Int) (x5 : Int) (x7 : Int) (x8 : Int) (x9 : Int) (s0 : Int) (h_x1 : I32 x1) (h_x3 : I32 x3) (h_x4 : I32 x4) (h_x5 : ml_B x5) (h_x7 : I32 x7) (h_x8 : I32 x8) (h_x9 : ml_I8 x9) (h_s0 : I32 s0) (ls : Array Slot) (hl : lv_has ls 11 [(0, .ref (base + (215 : Int).toNat)), (1, .int (Int32.ofInt x1)), (3, .int (Int32.ofInt x3)), (4, .int (Int32.ofInt x4)), (5, .int (Int32.ofInt x5)), (7, .int (Int32.ofInt x7)), (8, .int (Int32.ofInt x8)), (9, .int (Int32.ofInt x9))]) (hw : f_X12_walk_u197 Q K120 σ x1 x3 x4 x5 x7 x8 x9 s0) : ml_V p l e rm_X12_walk s m args below meth c (MQ below (ml_Qi I32 base D cA n Q) args s 0 0 (ml_A base)) base D cA 0 0 n n σ (F0 m 197 ls [.int (Int32.ofInt s0)]) := by
  unfold f_X12_walk_u197 at hw
  refine ml_istore (pc := 197) X hl (by decide) (lst' := [(6, .int (Int32.ofInt s0)), (0, .ref (base + (215 : Int).toNat)), (1, .int (Int32.ofInt x1)), (3, .int (Int32.ofInt x3)), (4, .int (Int32.ofInt x4)), (5, .int (Int32.ofInt x5)), (7, .int (Int32.ofInt x7)), (8, .int (Int32.ofInt x8)), (9, .int (Int32.ofInt x9))]) rfl dX12_walk_197 (fun ls hl => ?_)
  refine ml_iload (pc := 199) X hl 8 rfl dX12_walk_199 ?_
  refine ml_iconst (pc := 201) X dX12_walk_201 ?_
  obtain ⟨z1, v1, hw⟩ := hw
  refine ml_irem (pc := 202) X h_x9.i ⟨by decide, by decide⟩ z1 dX12_walk_202 ?_
  refine ml_iconst (pc := 203) X dX12_walk_203 ?_
  refine ml_icmp_ne (pc := 204) (tgt := 211) X v1 ⟨by decide, by decide⟩ dX12_walk_204 (by decide) (fun c2 => ?_) (fun c2 => ?_)
  · have hw := hw.1 c2
    refine ml_iconst (pc := 211) X dX12_walk_211 ?_
    exact u_X12_walk_212 X hn hK120 σ x1 x3 x4 x5 s0 x7 x8 0 h_x1 h_x3 h_x4 h_x5 h_s0 h_x7 h_x8 ⟨by decide, by decide⟩ _ (lv_sub hl [1, 2, 3, 4, 5, 0, 6, 7] rfl) hw
  · have hw := hw.2 c2
    refine ml_iconst (pc := 207) X dX12_walk_207 ?_
    refine ml_goto (pc := 208) (tgt := 212) X dX12_walk_208 (by decide) ?_
    exact u_X12_walk_212 X hn hK120 σ x1 x3 x4 x5 s0 x7 x8 1 h_x1 h_x3 h_x4 h_x5 h_s0 h_x7 h_x8 ⟨by decide, by decide⟩ _ (lv_sub hl [1, 2, 3, 4, 5, 0, 6, 7] rfl) hw
set_option maxRecDepth 100000 in
set_option maxHeartbeats 4000000 in
theorem u_X12_walk_169 {p : Program} {e : Env} {s : State} {m : MethodId} {args : Array Value} {below : List Frame} {meth : Method} {c : Code} {base : Nat} {D : va_G} {cA : Nat → ClassId} {n : Nat} {l : Launch} {Q : Int → ml_St → Prop} {K120 : ml_St → Int → Int → Int → Int → Int → Int → Int → Prop} {K175 : ml_St → Int → Prop} (X : ml_X p s m c meth args D cA cX12_walk 11 RX12 (some .int)) (hn : 256 ≤ n) (hK120 : ∀ (σ : ml_St) (x1 : Int) (x3 : Int) (x4 : Int) (x5 : Int) (x6 : Int) (x7 : Int) (x8 : Int) (h_x1 : I32 x1) (h_x3 : I32 x3) (h_x4 : I32 x4) (h_x5 : ml_B x5) (h_x6 : I32 x6) (h_x7 : I32 x7) (h_x8 : I32 x8) (ls : Array Slot), lv_has ls 11 [(0, .ref (base + (215 : Int).toNat)), (1, .int (Int32.ofInt x1)), (3, .int (Int32.ofInt x3)), (4, .int (Int32.ofInt x4)), (5, .int (Int32.ofInt x5)), (6, .int (Int32.ofInt x6)), (7, .int (Int32.ofInt x7)), (8, .int (Int32.ofInt x8))] → K120 σ x1 x3 x4 x5 x6 x7 x8 → ml_V p l e rm_X12_walk s m args below meth c (MQ below (ml_Qi I32 base D cA n Q) args s 0 0 (ml_A base)) base D cA 0 0 n n σ (F0 m 120 ls [])) (hK175 : ∀ (σ : ml_St) (x7 : Int) (h_x7 : I32 x7) (ls : Array Slot), lv_has ls 11 [(7, .int (Int32.ofInt x7))] → K175 σ x7 → ml_V p l e rm_X12_walk s m args below meth c (MQ below (ml_Qi I32 base D cA n Q) args s 0 0 (ml_A base)) base D cA 0 0 n n σ (F0 m 175 ls [])) (σ : ml_St) (x1 : Int) (x3 : Int) (x4 : Int) (x5 : Int) (x6 : Int) (x7 : Int) (x8 : Int) (x9 : Int) (x10 : Int) (h_x1 : I32 x1) (h_x3 : I32 x3) (h_x4 : I32 x4) (h_x5 : ml_B x5) (h_x6 : I32 x6) (h_x7 : I32 x7) (h_x8 : I32 x8) (h_x9 : ml_I8 x9) (h_x10 : I32 x10) (ls : Array Slot) (hl : lv_has ls 11 [(0, .ref (base + (215 : Int).toNat)), (1, .int (Int32.ofInt x1)), (3, .int (Int32.ofInt x3)), (4, .int (Int32.ofInt x4)), (5, .int (Int32.ofInt x5)), (6, .int (Int32.ofInt x6)), (7, .int (Int32.ofInt x7)), (8, .int (Int32.ofInt x8)), (9, .int (Int32.ofInt x9)), (10, .int (Int32.ofInt x10))]) (hw : f_X12_walk_u169 Q K120 K175 σ x1 x3 x4 x5 x6 x7 x8 x9 x10) : ml_V p l e rm_X12_walk s m args below meth c (MQ below (ml_Qi I32 base D cA n Q) args s 0 0 (ml_A base)) base D cA 0 0 n n σ (F0 m 169 ls []) := by
  unfold f_X12_walk_u169 at hw
  refine ml_iload (pc := 169) X hl 7 rfl dX12_walk_169 ?_
  refine ml_iload_n (pc := 171) X hl 2 rfl rfl dX12_walk_171 ?_
  refine ml_icmp_ne (pc := 172) (tgt := 178) X h_x8 h_x3 dX12_walk_172 (by decide) (fun c1 => ?_) (fun c1 => ?_)
  · have hw := hw.1 c1
    obtain ⟨v2, hw⟩ := hw
    obtain ⟨y2, e2⟩ : ∃ y : Int, y = x8 + 1 := ⟨_, rfl⟩
    have hw := hw y2 e2
    rw [← e2] at v2
    refine ml_iinc (pc := 178) X e2 hl 7 rfl (by decide) (lst' := [(8, .int (Int32.ofInt y2)), (0, .ref (base + (215 : Int).toNat)), (1, .int (Int32.ofInt x1)), (3, .int (Int32.ofInt x3)), (4, .int (Int32.ofInt x4)), (5, .int (Int32.ofInt x5)), (6, .int (Int32.ofInt x6)), (7, .int (Int32.ofInt x7)), (9, .int (Int32.ofInt x9)), (10, .int (Int32.ofInt x10))]) rfl dX12_walk_178 (fun ls hl => ?_)
    refine ml_iload (pc := 181) X hl 6 rfl dX12_walk_181 ?_
    refine ml_iload (pc := 183) X hl 9 rfl dX12_walk_183 ?_
    refine ml_icmp_ne (pc := 185) (tgt := 195) X h_x6 h_x10 dX12_walk_185 (by decide) (fun c3 => ?_) (fun c3 => ?_)
    · have hw := hw.1 c3
      refine ml_iload (pc := 195) X hl 9 rfl dX12_walk_195 ?_
      exact u_X12_walk_197 X hn hK120 σ x1 x3 x4 x5 x7 y2 x9 x10 h_x1 h_x3 h_x4 h_x5 h_x7 v2 h_x9 h_x10 _ (lv_sub hl [1, 2, 3, 4, 5, 7, 0, 8] rfl) hw
    · have hw := hw.2 c3
      refine ml_iload (pc := 188) X hl 9 rfl dX12_walk_188 ?_
      refine ml_iconst (pc := 190) X dX12_walk_190 ?_
      obtain ⟨v4, hw⟩ := hw
      refine ml_iadd (pc := 191) X dX12_walk_191 ?_
      refine ml_goto (pc := 192) (tgt := 197) X dX12_walk_192 (by decide) ?_
      exact u_X12_walk_197 X hn hK120 σ x1 x3 x4 x5 x7 y2 x9 (x10 + 1) h_x1 h_x3 h_x4 h_x5 h_x7 v2 h_x9 v4 _ (lv_sub hl [1, 2, 3, 4, 5, 7, 0, 8] rfl) hw
  · have hw := hw.2 c1
    exact hK175 σ x7 h_x7 _ (lv_sub hl [6] rfl) hw
set_option maxRecDepth 100000 in
set_option maxHeartbeats 4000000 in
theorem u_X12_walk_120 {p : Program} {e : Env} {s : State} {m : MethodId} {args : Array Value} {below : List Frame} {meth : Method} {c : Code} {base : Nat} {D : va_G} {cA : Nat → ClassId} {n : Nat} {l : Launch} {Q : Int → ml_St → Prop} {K175 : ml_St → Int → Prop} {K242 : ml_St → Int → Int → Int → Prop} (X : ml_X p s m c meth args D cA cX12_walk 11 RX12 (some .int)) (hn : 256 ≤ n) (hK175 : ∀ (σ : ml_St) (x7 : Int) (h_x7 : I32 x7) (ls : Array Slot), lv_has ls 11 [(7, .int (Int32.ofInt x7))] → K175 σ x7 → ml_V p l e rm_X12_walk s m args below meth c (MQ below (ml_Qi I32 base D cA n Q) args s 0 0 (ml_A base)) base D cA 0 0 n n σ (F0 m 175 ls [])) (hK242 : ∀ (σ : ml_St) (x3 : Int) (x5 : Int) (x6 : Int) (h_x3 : I32 x3) (h_x5 : ml_B x5) (h_x6 : I32 x6) (ls : Array Slot), lv_has ls 11 [(0, .ref (base + (215 : Int).toNat)), (3, .int (Int32.ofInt x3)), (5, .int (Int32.ofInt x5)), (6, .int (Int32.ofInt x6))] → K242 σ x3 x5 x6 → ml_V p l e rm_X12_walk s m args below meth c (MQ below (ml_Qi I32 base D cA n Q) args s 0 0 (ml_A base)) base D cA 0 0 n n σ (F0 m 242 ls [])) : ∀ (N : Nat) (σ : ml_St) (x1 : Int) (x3 : Int) (x4 : Int) (x5 : Int) (x6 : Int) (x7 : Int) (x8 : Int) (h_x1 : I32 x1) (h_x3 : I32 x3) (h_x4 : I32 x4) (h_x5 : ml_B x5) (h_x6 : I32 x6) (h_x7 : I32 x7) (h_x8 : I32 x8) (ls : Array Slot), lv_has ls 11 [(0, .ref (base + (215 : Int).toNat)), (1, .int (Int32.ofInt x1)), (3, .int (Int32.ofInt x3)), (4, .int (Int32.ofInt x4)), (5, .int (Int32.ofInt x5)), (6, .int (Int32.ofInt x6)), (7, .int (Int32.ofInt x7)), (8, .int (Int32.ofInt x8))] → f_X12_walk_u120 Q K175 K242 N σ x1 x3 x4 x5 x6 x7 x8 → ml_V p l e rm_X12_walk s m args below meth c (MQ below (ml_Qi I32 base D cA n Q) args s 0 0 (ml_A base)) base D cA 0 0 n n σ (F0 m 120 ls []) := by
  intro N
  induction N with
  | zero => intro σ x1 x3 x4 x5 x6 x7 x8 h_x1 h_x3 h_x4 h_x5 h_x6 h_x7 h_x8 ls hl hw; exact False.elim hw
  | succ N ih =>
    intro σ x1 x3 x4 x5 x6 x7 x8 h_x1 h_x3 h_x4 h_x5 h_x6 h_x7 h_x8 ls hl hw
    unfold f_X12_walk_u120 at hw
    refine ml_iload (pc := 120) X hl 6 rfl dX12_walk_120 ?_
    refine ml_if_lt (pc := 122) (tgt := 242) X h_x7 dX12_walk_122 (by decide) (fun c1 => ?_) (fun c1 => ?_)
    · have hw := hw.1 c1
      exact hK242 σ x3 x5 x6 h_x3 h_x5 h_x6 _ (lv_sub hl [0, 2, 4, 5] rfl) hw
    · have hw := hw.2 c1
      refine ml_iload (pc := 125) X hl 6 rfl dX12_walk_125 ?_
      refine ml_iload (pc := 127) X hl 3 rfl dX12_walk_127 ?_
      refine ml_icmp_ge (pc := 129) (tgt := 242) X h_x7 h_x4 dX12_walk_129 (by decide) (fun c2 => ?_) (fun c2 => ?_)
      · have hw := hw.1 c2
        exact hK242 σ x3 x5 x6 h_x3 h_x5 h_x6 _ (lv_sub hl [0, 2, 4, 5] rfl) hw
      · have hw := hw.2 c2
        refine ml_aload_n (pc := 132) X hl 0 rfl rfl dX12_walk_132 ?_
        refine gf_X12_131 (pc := 133) X (ml_c215 hn) dX12_walk_133 ?_
        refine ml_sipush (pc := 136) X dX12_walk_136 (by decide) ?_
        refine ml_iload_n (pc := 139) X hl 1 rfl rfl dX12_walk_139 ?_
        obtain ⟨v3, hw⟩ := hw
        refine ml_imul (pc := 140) X dX12_walk_140 ?_
        refine ml_iload (pc := 141) X hl 6 rfl dX12_walk_141 ?_
        obtain ⟨v4, hw⟩ := hw
        refine ml_iadd (pc := 143) X dX12_walk_143 ?_
        obtain ⟨a5, b5, hw⟩ := hw
        refine ml_bald (pc := 144) (N := 32000) X (ml_c254 hn) a5 b5 dX12_walk_144 (fun r5 => ?_)
        have hw := hw r5
        refine ml_topI (pc := 145) (fun y6 e6 => ?_)
        have hw := hw y6 e6
        have q6 : ml_I8 y6 := by rw [e6]; exact r5
        refine ml_istore (pc := 145) X hl (by decide) (lst' := [(9, .int (Int32.ofInt y6)), (0, .ref (base + (215 : Int).toNat)), (1, .int (Int32.ofInt x1)), (3, .int (Int32.ofInt x3)), (4, .int (Int32.ofInt x4)), (5, .int (Int32.ofInt x5)), (6, .int (Int32.ofInt x6)), (7, .int (Int32.ofInt x7)), (8, .int (Int32.ofInt x8))]) rfl dX12_walk_145 (fun ls hl => ?_)
        refine ml_iload (pc := 147) X hl 0 rfl dX12_walk_147 ?_
        refine ml_iconst (pc := 149) X dX12_walk_149 ?_
        obtain ⟨z7, v7, hw⟩ := hw
        refine ml_idiv (pc := 150) X q6.i ⟨by decide, by decide⟩ z7 dX12_walk_150 ?_
        refine ml_topI (pc := 151) (fun y8 e8 => ?_)
        have hw := hw y8 e8
        have q8 : I32 y8 := by rw [e8]; exact v7
        refine ml_istore (pc := 151) X hl (by decide) (lst' := [(10, .int (Int32.ofInt y8)), (9, .int (Int32.ofInt y6)), (0, .ref (base + (215 : Int).toNat)), (1, .int (Int32.ofInt x1)), (3, .int (Int32.ofInt x3)), (4, .int (Int32.ofInt x4)), (5, .int (Int32.ofInt x5)), (6, .int (Int32.ofInt x6)), (7, .int (Int32.ofInt x7)), (8, .int (Int32.ofInt x8))]) rfl dX12_walk_151 (fun ls hl => ?_)
        refine ml_iload (pc := 153) X hl 7 rfl dX12_walk_153 ?_
        refine ml_iload (pc := 155) X hl 0 rfl dX12_walk_155 ?_
        refine ml_icmp_eq (pc := 157) (tgt := 169) X h_x6 q8 dX12_walk_157 (by decide) (fun c9 => ?_) (fun c9 => ?_)
        · have hw := hw.1 c9
          exact u_X12_walk_169 X hn ih hK175 σ x1 x3 x4 x5 x6 x7 x8 y6 y8 h_x1 h_x3 h_x4 h_x5 h_x6 h_x7 h_x8 q6 q8 _ (lv_sub hl [2, 3, 4, 5, 6, 7, 8, 9, 1, 0] rfl) hw
        · have hw := hw.2 c9
          refine ml_iload (pc := 160) X hl 7 rfl dX12_walk_160 ?_
          refine ml_iload (pc := 162) X hl 0 rfl dX12_walk_162 ?_
          refine ml_iconst (pc := 164) X dX12_walk_164 ?_
          obtain ⟨v10, hw⟩ := hw
          refine ml_iadd (pc := 165) X dX12_walk_165 ?_
          refine ml_icmp_ne (pc := 166) (tgt := 224) X h_x6 v10 dX12_walk_166 (by decide) (fun c11 => ?_) (fun c11 => ?_)
          · have hw := hw.1 c11
            exact u_X12_walk_224 X hn ih σ x1 x3 x4 x5 x6 x7 x8 h_x1 h_x3 h_x4 h_x5 h_x6 h_x7 h_x8 _ (lv_sub hl [2, 3, 4, 5, 6, 7, 8, 9] rfl) hw
          · have hw := hw.2 c11
            exact u_X12_walk_169 X hn ih hK175 σ x1 x3 x4 x5 x6 x7 x8 y6 y8 h_x1 h_x3 h_x4 h_x5 h_x6 h_x7 h_x8 q6 q8 _ (lv_sub hl [2, 3, 4, 5, 6, 7, 8, 9, 1, 0] rfl) hw
set_option maxRecDepth 100000 in
set_option maxHeartbeats 4000000 in
theorem u_X12_walk_175 {p : Program} {e : Env} {s : State} {m : MethodId} {args : Array Value} {below : List Frame} {meth : Method} {c : Code} {base : Nat} {D : va_G} {cA : Nat → ClassId} {n : Nat} {l : Launch} {Q : Int → ml_St → Prop} (X : ml_X p s m c meth args D cA cX12_walk 11 RX12 (some .int)) (hn : 256 ≤ n) (σ : ml_St) (x7 : Int) (h_x7 : I32 x7) (ls : Array Slot) (hl : lv_has ls 11 [(7, .int (Int32.ofInt x7))]) (hw : f_X12_walk_u175 Q σ x7) : ml_V p l e rm_X12_walk s m args below meth c (MQ below (ml_Qi I32 base D cA n Q) args s 0 0 (ml_A base)) base D cA 0 0 n n σ (F0 m 175 ls []) := by
  unfold f_X12_walk_u175 at hw
  refine ml_iload (pc := 175) X hl 0 rfl dX12_walk_175 ?_
  exact ml_iret (pc := 177) X h_x7 hw dX12_walk_177
set_option maxRecDepth 100000 in
set_option maxHeartbeats 4000000 in
theorem u_X12_walk_268 {p : Program} {e : Env} {s : State} {m : MethodId} {args : Array Value} {below : List Frame} {meth : Method} {c : Code} {base : Nat} {D : va_G} {cA : Nat → ClassId} {n : Nat} {l : Launch} {Q : Int → ml_St → Prop} (X : ml_X p s m c meth args D cA cX12_walk 11 RX12 (some .int)) (hn : 256 ≤ n) (σ : ml_St) (s0 : Int) (h_s0 : I32 s0) (ls : Array Slot) (hl : lv_has ls 11 []) (hw : f_X12_walk_u268 Q σ s0) : ml_V p l e rm_X12_walk s m args below meth c (MQ below (ml_Qi I32 base D cA n Q) args s 0 0 (ml_A base)) base D cA 0 0 n n σ (F0 m 268 ls [.int (Int32.ofInt s0)]) := by
  unfold f_X12_walk_u268 at hw
  exact ml_iret (pc := 268) X h_s0 hw dX12_walk_268
set_option maxRecDepth 100000 in
set_option maxHeartbeats 4000000 in
theorem u_X12_walk_242 {p : Program} {e : Env} {s : State} {m : MethodId} {args : Array Value} {below : List Frame} {meth : Method} {c : Code} {base : Nat} {D : va_G} {cA : Nat → ClassId} {n : Nat} {l : Launch} {Q : Int → ml_St → Prop} (X : ml_X p s m c meth args D cA cX12_walk 11 RX12 (some .int)) (hn : 256 ≤ n) (σ : ml_St) (x3 : Int) (x5 : Int) (x6 : Int) (h_x3 : I32 x3) (h_x5 : ml_B x5) (h_x6 : I32 x6) (ls : Array Slot) (hl : lv_has ls 11 [(0, .ref (base + (215 : Int).toNat)), (3, .int (Int32.ofInt x3)), (5, .int (Int32.ofInt x5)), (6, .int (Int32.ofInt x6))]) (hw : f_X12_walk_u242 Q σ x3 x5 x6) : ml_V p l e rm_X12_walk s m args below meth c (MQ below (ml_Qi I32 base D cA n Q) args s 0 0 (ml_A base)) base D cA 0 0 n n σ (F0 m 242 ls []) := by
  unfold f_X12_walk_u242 at hw
  refine ml_iload_n (pc := 242) X hl 1 rfl rfl dX12_walk_242 ?_
  refine ml_iconst (pc := 243) X dX12_walk_243 ?_
  refine ml_icmp_ne (pc := 244) (tgt := 267) X h_x3 ⟨by decide, by decide⟩ dX12_walk_244 (by decide) (fun c1 => ?_) (fun c1 => ?_)
  · have hw := hw.1 c1
    refine ml_iconst (pc := 267) X dX12_walk_267 ?_
    exact u_X12_walk_268 X hn σ (-1) ⟨by decide, by decide⟩ _ (lv_sub hl [] rfl) hw
  · have hw := hw.2 c1
    refine ml_iload (pc := 247) X hl 2 rfl dX12_walk_247 ?_
    refine ml_if_eq (pc := 249) (tgt := 262) X h_x5.i dX12_walk_249 (by decide) (fun c2 => ?_) (fun c2 => ?_)
    · have hw := hw.1 c2
      refine ml_iload (pc := 262) X hl 3 rfl dX12_walk_262 ?_
      refine ml_goto (pc := 264) (tgt := 268) X dX12_walk_264 (by decide) ?_
      exact u_X12_walk_268 X hn σ x6 h_x6 _ (lv_sub hl [] rfl) hw
    · have hw := hw.2 c2
      refine ml_aload_n (pc := 252) X hl 0 rfl rfl dX12_walk_252 ?_
      refine gf_X12_13 (pc := 253) X (ml_c215 hn) dX12_walk_253 (fun r3 => ?_)
      have hw := hw r3
      refine ml_iload (pc := 256) X hl 3 rfl dX12_walk_256 ?_
      obtain ⟨v4, hw⟩ := hw
      refine ml_iadd (pc := 258) X dX12_walk_258 ?_
      refine ml_goto (pc := 259) (tgt := 268) X dX12_walk_259 (by decide) ?_
      exact u_X12_walk_268 X hn σ ((σ 215 2) + x6) v4 _ (lv_sub hl [] rfl) hw
set_option maxRecDepth 100000 in
set_option maxHeartbeats 4000000 in
theorem u_X12_walk_115 {p : Program} {e : Env} {s : State} {m : MethodId} {args : Array Value} {below : List Frame} {meth : Method} {c : Code} {base : Nat} {D : va_G} {cA : Nat → ClassId} {n : Nat} {l : Launch} {Q : Int → ml_St → Prop} (X : ml_X p s m c meth args D cA cX12_walk 11 RX12 (some .int)) (hn : 256 ≤ n) (σ : ml_St) (x1 : Int) (x3 : Int) (x4 : Int) (x5 : Int) (x6 : Int) (s0 : Int) (h_x1 : I32 x1) (h_x3 : I32 x3) (h_x4 : I32 x4) (h_x5 : ml_B x5) (h_x6 : I32 x6) (h_s0 : I32 s0) (ls : Array Slot) (hl : lv_has ls 11 [(0, .ref (base + (215 : Int).toNat)), (1, .int (Int32.ofInt x1)), (3, .int (Int32.ofInt x3)), (4, .int (Int32.ofInt x4)), (5, .int (Int32.ofInt x5)), (6, .int (Int32.ofInt x6))]) (hw : f_X12_walk_u115 Q σ x1 x3 x4 x5 x6 s0) : ml_V p l e rm_X12_walk s m args below meth c (MQ below (ml_Qi I32 base D cA n Q) args s 0 0 (ml_A base)) base D cA 0 0 n n σ (F0 m 115 ls [.int (Int32.ofInt s0)]) := by
  unfold f_X12_walk_u115 at hw
  refine ml_istore (pc := 115) X hl (by decide) (lst' := [(7, .int (Int32.ofInt s0)), (0, .ref (base + (215 : Int).toNat)), (1, .int (Int32.ofInt x1)), (3, .int (Int32.ofInt x3)), (4, .int (Int32.ofInt x4)), (5, .int (Int32.ofInt x5)), (6, .int (Int32.ofInt x6))]) rfl dX12_walk_115 (fun ls hl => ?_)
  refine ml_iconst (pc := 117) X dX12_walk_117 ?_
  refine ml_istore (pc := 118) X hl (by decide) (lst' := [(8, .int (Int32.ofInt 0)), (7, .int (Int32.ofInt s0)), (0, .ref (base + (215 : Int).toNat)), (1, .int (Int32.ofInt x1)), (3, .int (Int32.ofInt x3)), (4, .int (Int32.ofInt x4)), (5, .int (Int32.ofInt x5)), (6, .int (Int32.ofInt x6))]) rfl dX12_walk_118 (fun ls hl => ?_)
  obtain ⟨N0, hw⟩ := hw
  exact u_X12_walk_120 X hn (fun σ x7 h_x7 ls hl hw => u_X12_walk_175 X hn σ x7 h_x7 ls hl hw) (fun σ x3 x5 x6 h_x3 h_x5 h_x6 ls hl hw => u_X12_walk_242 X hn σ x3 x5 x6 h_x3 h_x5 h_x6 ls hl hw) N0 σ x1 x3 x4 x5 x6 s0 0 h_x1 h_x3 h_x4 h_x5 h_x6 h_s0 ⟨by decide, by decide⟩ _ (lv_sub hl [2, 3, 4, 5, 6, 7, 1, 0] rfl) hw
set_option maxRecDepth 100000 in
set_option maxHeartbeats 4000000 in
theorem u_X12_walk_97 {p : Program} {e : Env} {s : State} {m : MethodId} {args : Array Value} {below : List Frame} {meth : Method} {c : Code} {base : Nat} {D : va_G} {cA : Nat → ClassId} {n : Nat} {l : Launch} {Q : Int → ml_St → Prop} (X : ml_X p s m c meth args D cA cX12_walk 11 RX12 (some .int)) (hn : 256 ≤ n) (σ : ml_St) (x1 : Int) (x2 : Int) (x3 : Int) (x4 : Int) (x5 : Int) (s0 : Int) (h_x1 : I32 x1) (h_x2 : I32 x2) (h_x3 : I32 x3) (h_x4 : I32 x4) (h_x5 : ml_B x5) (h_s0 : I32 s0) (ls : Array Slot) (hl : lv_has ls 11 [(0, .ref (base + (215 : Int).toNat)), (1, .int (Int32.ofInt x1)), (2, .int (Int32.ofInt x2)), (3, .int (Int32.ofInt x3)), (4, .int (Int32.ofInt x4)), (5, .int (Int32.ofInt x5))]) (hw : f_X12_walk_u97 Q σ x1 x2 x3 x4 x5 s0) : ml_V p l e rm_X12_walk s m args below meth c (MQ below (ml_Qi I32 base D cA n Q) args s 0 0 (ml_A base)) base D cA 0 0 n n σ (F0 m 97 ls [.int (Int32.ofInt s0)]) := by
  unfold f_X12_walk_u97 at hw
  refine ml_istore (pc := 97) X hl (by decide) (lst' := [(6, .int (Int32.ofInt s0)), (0, .ref (base + (215 : Int).toNat)), (1, .int (Int32.ofInt x1)), (2, .int (Int32.ofInt x2)), (3, .int (Int32.ofInt x3)), (4, .int (Int32.ofInt x4)), (5, .int (Int32.ofInt x5))]) rfl dX12_walk_97 (fun ls hl => ?_)
  refine ml_iload_n (pc := 99) X hl 3 rfl rfl dX12_walk_99 ?_
  refine ml_aload_n (pc := 100) X hl 1 rfl rfl dX12_walk_100 ?_
  refine gf_X12_13 (pc := 101) X (ml_c215 hn) dX12_walk_101 (fun r1 => ?_)
  have hw := hw r1
  refine ml_icmp_ge (pc := 104) (tgt := 111) X h_x2 r1 dX12_walk_104 (by decide) (fun c2 => ?_) (fun c2 => ?_)
  · have hw := hw.1 c2
    refine ml_iload (pc := 111) X hl 5 rfl dX12_walk_111 ?_
    refine ml_iconst (pc := 113) X dX12_walk_113 ?_
    obtain ⟨v3, hw⟩ := hw
    refine ml_isub (pc := 114) X dX12_walk_114 ?_
    exact u_X12_walk_115 X hn σ x1 x3 x4 x5 s0 (x4 - 1) h_x1 h_x3 h_x4 h_x5 h_s0 v3 _ (lv_sub hl [1, 2, 4, 5, 6, 0] rfl) hw
  · have hw := hw.2 c2
    refine ml_iconst (pc := 107) X dX12_walk_107 ?_
    refine ml_goto (pc := 108) (tgt := 115) X dX12_walk_108 (by decide) ?_
    exact u_X12_walk_115 X hn σ x1 x3 x4 x5 s0 0 h_x1 h_x3 h_x4 h_x5 h_s0 ⟨by decide, by decide⟩ _ (lv_sub hl [1, 2, 4, 5, 6, 0] rfl) hw
set_option maxRecDepth 100000 in
set_option maxHeartbeats 4000000 in
theorem u_X12_walk_77 {p : Program} {e : Env} {s : State} {m : MethodId} {args : Array Value} {below : List Frame} {meth : Method} {c : Code} {base : Nat} {D : va_G} {cA : Nat → ClassId} {n : Nat} {l : Launch} {Q : Int → ml_St → Prop} (X : ml_X p s m c meth args D cA cX12_walk 11 RX12 (some .int)) (hn : 256 ≤ n) (σ : ml_St) (x1 : Int) (x2 : Int) (x3 : Int) (x4 : Int) (s0 : Int) (h_x1 : I32 x1) (h_x2 : I32 x2) (h_x3 : I32 x3) (h_x4 : I32 x4) (h_s0 : ml_B s0) (ls : Array Slot) (hl : lv_has ls 11 [(0, .ref (base + (215 : Int).toNat)), (1, .int (Int32.ofInt x1)), (2, .int (Int32.ofInt x2)), (3, .int (Int32.ofInt x3)), (4, .int (Int32.ofInt x4))]) (hw : f_X12_walk_u77 Q σ x1 x2 x3 x4 s0) : ml_V p l e rm_X12_walk s m args below meth c (MQ below (ml_Qi I32 base D cA n Q) args s 0 0 (ml_A base)) base D cA 0 0 n n σ (F0 m 77 ls [.int (Int32.ofInt s0)]) := by
  unfold f_X12_walk_u77 at hw
  refine ml_istore (pc := 77) X hl (by decide) (lst' := [(5, .int (Int32.ofInt s0)), (0, .ref (base + (215 : Int).toNat)), (1, .int (Int32.ofInt x1)), (2, .int (Int32.ofInt x2)), (3, .int (Int32.ofInt x3)), (4, .int (Int32.ofInt x4))]) rfl dX12_walk_77 (fun ls hl => ?_)
  refine ml_iload_n (pc := 79) X hl 3 rfl rfl dX12_walk_79 ?_
  refine ml_aload_n (pc := 80) X hl 1 rfl rfl dX12_walk_80 ?_
  refine gf_X12_13 (pc := 81) X (ml_c215 hn) dX12_walk_81 (fun r1 => ?_)
  have hw := hw r1
  refine ml_icmp_ge (pc := 84) (tgt := 91) X h_x2 r1 dX12_walk_84 (by decide) (fun c2 => ?_) (fun c2 => ?_)
  · have hw := hw.1 c2
    refine ml_iload_n (pc := 91) X hl 3 rfl rfl dX12_walk_91 ?_
    refine ml_aload_n (pc := 92) X hl 1 rfl rfl dX12_walk_92 ?_
    refine gf_X12_13 (pc := 93) X (ml_c215 hn) dX12_walk_93 (fun r3 => ?_)
    have hw := hw r3
    obtain ⟨v4, hw⟩ := hw
    refine ml_isub (pc := 96) X dX12_walk_96 ?_
    exact u_X12_walk_97 X hn σ x1 x2 x3 x4 s0 (x2 - (σ 215 2)) h_x1 h_x2 h_x3 h_x4 h_s0 v4 _ (lv_sub hl [1, 2, 3, 4, 5, 0] rfl) hw
  · have hw := hw.2 c2
    refine ml_iload_n (pc := 87) X hl 3 rfl rfl dX12_walk_87 ?_
    refine ml_goto (pc := 88) (tgt := 97) X dX12_walk_88 (by decide) ?_
    exact u_X12_walk_97 X hn σ x1 x2 x3 x4 s0 x2 h_x1 h_x2 h_x3 h_x4 h_s0 h_x2 _ (lv_sub hl [1, 2, 3, 4, 5, 0] rfl) hw
set_option maxRecDepth 100000 in
set_option maxHeartbeats 4000000 in
theorem u_X12_walk_56 {p : Program} {e : Env} {s : State} {m : MethodId} {args : Array Value} {below : List Frame} {meth : Method} {c : Code} {base : Nat} {D : va_G} {cA : Nat → ClassId} {n : Nat} {l : Launch} {Q : Int → ml_St → Prop} (X : ml_X p s m c meth args D cA cX12_walk 11 RX12 (some .int)) (hn : 256 ≤ n) (σ : ml_St) (x1 : Int) (x2 : Int) (x3 : Int) (h_x1 : I32 x1) (h_x2 : I32 x2) (h_x3 : I32 x3) (ls : Array Slot) (hl : lv_has ls 11 [(0, .ref (base + (215 : Int).toNat)), (1, .int (Int32.ofInt x1)), (2, .int (Int32.ofInt x2)), (3, .int (Int32.ofInt x3))]) (hw : f_X12_walk_u56 Q σ x1 x2 x3) : ml_V p l e rm_X12_walk s m args below meth c (MQ below (ml_Qi I32 base D cA n Q) args s 0 0 (ml_A base)) base D cA 0 0 n n σ (F0 m 56 ls []) := by
  unfold f_X12_walk_u56 at hw
  refine ml_aload_n (pc := 56) X hl 0 rfl rfl dX12_walk_56 ?_
  refine gf_X12_134 (pc := 57) X (ml_c215 hn) dX12_walk_57 ?_
  refine ml_iload_n (pc := 60) X hl 1 rfl rfl dX12_walk_60 ?_
  obtain ⟨a1, b1, hw⟩ := hw
  refine ml_iald (pc := 61) (N := 16) X (ml_c255 hn) a1 b1 dX12_walk_61 (fun r1 => ?_)
  have hw := hw r1
  refine ml_topI (pc := 62) (fun y2 e2 => ?_)
  have hw := hw y2 e2
  have q2 : I32 y2 := by rw [e2]; exact r1
  refine ml_istore (pc := 62) X hl (by decide) (lst' := [(4, .int (Int32.ofInt y2)), (0, .ref (base + (215 : Int).toNat)), (1, .int (Int32.ofInt x1)), (2, .int (Int32.ofInt x2)), (3, .int (Int32.ofInt x3))]) rfl dX12_walk_62 (fun ls hl => ?_)
  refine ml_iload_n (pc := 64) X hl 3 rfl rfl dX12_walk_64 ?_
  refine ml_aload_n (pc := 65) X hl 1 rfl rfl dX12_walk_65 ?_
  refine gf_X12_13 (pc := 66) X (ml_c215 hn) dX12_walk_66 (fun r3 => ?_)
  have hw := hw r3
  refine ml_icmp_ge (pc := 69) (tgt := 76) X h_x2 r3 dX12_walk_69 (by decide) (fun c4 => ?_) (fun c4 => ?_)
  · have hw := hw.1 c4
    refine ml_iconst (pc := 76) X dX12_walk_76 ?_
    exact u_X12_walk_77 X hn σ x1 x2 x3 y2 0 h_x1 h_x2 h_x3 q2 ⟨by decide, by decide⟩ _ (lv_sub hl [1, 2, 3, 4, 0] rfl) hw
  · have hw := hw.2 c4
    refine ml_iconst (pc := 72) X dX12_walk_72 ?_
    refine ml_goto (pc := 73) (tgt := 77) X dX12_walk_73 (by decide) ?_
    exact u_X12_walk_77 X hn σ x1 x2 x3 y2 1 h_x1 h_x2 h_x3 q2 ⟨by decide, by decide⟩ _ (lv_sub hl [1, 2, 3, 4, 0] rfl) hw
set_option maxRecDepth 100000 in
set_option maxHeartbeats 4000000 in
theorem u_X12_walk_0 {p : Program} {e : Env} {s : State} {m : MethodId} {args : Array Value} {below : List Frame} {meth : Method} {c : Code} {base : Nat} {D : va_G} {cA : Nat → ClassId} {n : Nat} {l : Launch} {Q : Int → ml_St → Prop} (X : ml_X p s m c meth args D cA cX12_walk 11 RX12 (some .int)) (hn : 256 ≤ n) (σ : ml_St) (x1 : Int) (x2 : Int) (x3 : Int) (h_x1 : I32 x1) (h_x2 : I32 x2) (h_x3 : I32 x3) (ls : Array Slot) (hl : lv_has ls 11 [(0, .ref (base + (215 : Int).toNat)), (1, .int (Int32.ofInt x1)), (2, .int (Int32.ofInt x2)), (3, .int (Int32.ofInt x3))]) (hw : f_X12_walk_u0 Q σ x1 x2 x3) : ml_V p l e rm_X12_walk s m args below meth c (MQ below (ml_Qi I32 base D cA n Q) args s 0 0 (ml_A base)) base D cA 0 0 n n σ (F0 m 0 ls []) := by
  unfold f_X12_walk_u0 at hw
  refine ml_aload_n (pc := 0) X hl 0 rfl rfl dX12_walk_0 ?_
  refine ml_iload_n (pc := 1) X hl 1 rfl rfl dX12_walk_1 ?_
  refine ml_callzV (pc := 2) (rest := []) X [.int (Int32.ofInt x1)] (by decide) rfl (ml_c215 hn) (c_X12_isWord l base D cA n hn σ x1 h_x1 _ hw) cv_X12_287 ⟨rfl, rfl⟩ ⟨by decide, by decide⟩ rfl rfl hl (Nat.le_of_ble_eq_true rfl) ⟨Nat.zero_le _, Nat.zero_le _⟩ dX12_walk_2 (fun r1 σ1 t1 hw => ?_)
  have hw := hw t1
  refine ml_if_eq (pc := 5) (tgt := 33) X t1.i dX12_walk_5 (by decide) (fun c2 => ?_) (fun c2 => ?_)
  · have hw := hw.1 c2
    exact u_X12_walk_33 X hn σ1   _ (lv_sub hl [] rfl) hw
  · have hw := hw.2 c2
    refine ml_aload_n (pc := 8) X hl 0 rfl rfl dX12_walk_8 ?_
    refine ml_iload_n (pc := 9) X hl 1 rfl rfl dX12_walk_9 ?_
    refine ml_calllV (pc := 10) (rest := []) X [.int (Int32.ofInt x1)] (by decide) rfl (ml_c215 hn) (c_X12_signsOf l base D cA n hn σ1 x1 h_x1 _ hw) cv_X12_217 ⟨rfl, rfl⟩ ⟨by decide, by decide⟩ rfl rfl hl (Nat.le_of_ble_eq_true rfl) ⟨Nat.zero_le _, Nat.zero_le _⟩ dX12_walk_10 (fun r3 σ3 t3 hw => ?_)
    have hw := hw t3
    refine ml_ldc2 (pc := 13) (v := 2000) X dX12_walk_13 tc_6_235 ?_
    refine ml_lcmp_gt (pc := 16) (tgt := 33) X t3 ⟨by decide, by decide⟩ dX12_walk_16 dX12_walk_17 (by decide) (fun c4 => ?_) (fun c4 => ?_)
    · have hw := hw.1 c4
      exact u_X12_walk_33 X hn σ3   _ (lv_sub hl [] rfl) hw
    · have hw := hw.2 c4
      refine ml_aload_n (pc := 20) X hl 0 rfl rfl dX12_walk_20 ?_
      refine ml_iload_n (pc := 21) X hl 2 rfl rfl dX12_walk_21 ?_
      refine ml_callzV (pc := 22) (rest := []) X [.int (Int32.ofInt x2)] (by decide) rfl (ml_c215 hn) (c_X12_isEnd l base D cA n hn σ3 x2 h_x2 _ hw) cv_X12_295 ⟨rfl, rfl⟩ ⟨by decide, by decide⟩ rfl rfl hl (Nat.le_of_ble_eq_true rfl) ⟨Nat.zero_le _, Nat.zero_le _⟩ dX12_walk_22 (fun r5 σ5 t5 hw => ?_)
      have hw := hw t5
      refine ml_if_eq (pc := 25) (tgt := 33) X t5.i dX12_walk_25 (by decide) (fun c6 => ?_) (fun c6 => ?_)
      · have hw := hw.1 c6
        exact u_X12_walk_33 X hn σ5   _ (lv_sub hl [] rfl) hw
      · have hw := hw.2 c6
        refine ml_iload_n (pc := 28) X hl 3 rfl rfl dX12_walk_28 ?_
        refine ml_iconst (pc := 29) X dX12_walk_29 ?_
        refine ml_icmp_ge (pc := 30) (tgt := 35) X h_x3 ⟨by decide, by decide⟩ dX12_walk_30 (by decide) (fun c7 => ?_) (fun c7 => ?_)
        · have hw := hw.1 c7
          refine ml_iconst (pc := 35) X dX12_walk_35 ?_
          refine ml_istore (pc := 36) X hl (by decide) (lst' := [(4, .int (Int32.ofInt 0)), (0, .ref (base + (215 : Int).toNat)), (1, .int (Int32.ofInt x1)), (2, .int (Int32.ofInt x2)), (3, .int (Int32.ofInt x3))]) rfl dX12_walk_36 (fun ls hl => ?_)
          obtain ⟨N0, hw⟩ := hw
          exact u_X12_walk_38 X hn (fun σ x1 x2 x3 h_x1 h_x2 h_x3 ls hl hw => u_X12_walk_56 X hn σ x1 x2 x3 h_x1 h_x2 h_x3 ls hl hw) N0 σ5 x1 x2 x3 0 h_x1 h_x2 h_x3 ⟨by decide, by decide⟩ _ (lv_sub hl [1, 2, 3, 4, 0] rfl) hw
        · have hw := hw.2 c7
          exact u_X12_walk_33 X hn σ5   _ (lv_sub hl [] rfl) hw
set_option maxRecDepth 100000 in
theorem c_X12_walk (l : Launch) (base : Nat) (D : va_G) (cA : Nat → ClassId) (n : Nat) (hn : 256 ≤ n) (σ : ml_St) (x1 : Int) (x2 : Int) (x3 : Int) (h_x1 : I32 x1) (h_x2 : I32 x2) (h_x3 : I32 x3) (Q : Int → ml_St → Prop) (hw : f_X12_walk σ x1 x2 x3 Q) : Met l yX12_walk (Cond.code yX12_walk cX12_walk 11 (some .int) :: ml_T) rm_X12_walk (va_Pc [.ref (base + (215 : Int).toNat), .int (Int32.ofInt x1), .int (Int32.ofInt x2), .int (Int32.ofInt x3)] (ml_U base D cA n σ)) (ml_Qi I32 base D cA n Q) 0 0 (ml_A base) := by
  refine Met.ofW (cc := cX12_walk) (maxL := 11) (ret := (some .int)) (by decide) rfl ?_
  intro p e s m args below meth c s₁ B hml hv
  obtain ⟨rfl, hP, hK, hok, hro⟩ := hv
  have X : ml_X p s m c meth _ D cA cX12_walk 11 RX12 (some .int) := ⟨B.exec, B.bytes, hml, findClass_of_methodNamed B.named, fun w hw => atoms_spec (ws := Cond.code yX12_walk cX12_walk 11 (some .int) :: ml_T) B.pre w (List.mem_cons_of_mem _ hw), hK, B.notSynchronized, B.returns⟩
  have hl := lv_entry [.ref (base + (215 : Int).toNat), .int (Int32.ofInt x1), .int (Int32.ofInt x2), .int (Int32.ofInt x3)] (n := 11) (Nat.le_of_ble_eq_true rfl)
  rw [lg_entry_eq]
  generalize (lg_sl [.ref (base + (215 : Int).toNat), .int (Int32.ofInt x1), .int (Int32.ofInt x2), .int (Int32.ofInt x3)] ++ List.replicate (11 - (lg_sl [.ref (base + (215 : Int).toNat), .int (Int32.ofInt x1), .int (Int32.ofInt x2), .int (Int32.ofInt x3)]).length) Slot.unset).toArray = ls at hl ⊢
  have hl : lv_has ls 11 [(0, .ref (base + (215 : Int).toNat)), (1, .int (Int32.ofInt x1)), (2, .int (Int32.ofInt x2)), (3, .int (Int32.ofInt x3))] := hl
  unfold f_X12_walk at hw
  exact u_X12_walk_0 X hn σ x1 x2 x3 h_x1 h_x2 h_x3 _ (lv_sub hl [0, 1, 2, 3] rfl) hw s.heap [] hP va_S.rf hok hro
