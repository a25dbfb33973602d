theorem dX12_isLoops_0 : decode cX12_isLoops 0 = .ok (.lload_n 0, 1) := by decide +kernel
theorem dX12_isLoops_1 : decode cX12_isLoops 1 = .ok (.lconst 0, 1) := by decide +kernel
theorem dX12_isLoops_2 : decode cX12_isLoops 2 = .ok (.lcmp, 1) := by decide +kernel
theorem dX12_isLoops_3 : decode cX12_isLoops 3 = .ok (.ifCond .lt 15, 3) := by decide +kernel
theorem dX12_isLoops_6 : decode cX12_isLoops 6 = .ok (.lload_n 0, 1) := by decide +kernel
theorem dX12_isLoops_7 : decode cX12_isLoops 7 = .ok (.ldc2_w 328, 3) := by decide +kernel
theorem dX12_isLoops_10 : decode cX12_isLoops 10 = .ok (.lcmp, 1) := by decide +kernel
theorem dX12_isLoops_11 : decode cX12_isLoops 11 = .ok (.ifCond .gt 7, 3) := by decide +kernel
theorem dX12_isLoops_14 : decode cX12_isLoops 14 = .ok (.iconst 1, 1) := by decide +kernel
theorem dX12_isLoops_15 : decode cX12_isLoops 15 = .ok (.goto 4, 3) := by decide +kernel
theorem dX12_isLoops_18 : decode cX12_isLoops 18 = .ok (.iconst 0, 1) := by decide +kernel
theorem dX12_isLoops_19 : decode cX12_isLoops 19 = .ok (.ireturn, 1) := by decide +kernel
def f_X12_isLoops_u19 (Q : Int → ml_St → Prop) (σ : ml_St) (s0 : Int) : Prop :=
Q s0 σ
def f_X12_isLoops_u18 (Q : Int → ml_St → Prop) (σ : ml_St) : Prop :=
f_X12_isLoops_u19 Q σ 0
def f_X12_isLoops_u0 (Q : Int → ml_St → Prop) (σ : ml_St) (x0 : Int) : Prop :=
(x0 < 0 →
f_X12_isLoops_u18 Q σ) ∧
(¬ (x0 < 0) →
(1000000000000000000 < x0 →
f_X12_isLoops_u18 Q σ) ∧
(¬ (1000000000000000000 < x0) →
f_X12_isLoops_u19 Q σ 1))
def f_X12_isLoops (σ : ml_St) (x0 : Int) (Q : Int → ml_St → Prop) : Prop := f_X12_isLoops_u0 Q σ x0
def rm_X12_isLoops : Room := { frames := 0, cells := 0, slots := 0, locals := 0 }
set_option maxRecDepth 100000 in
set_option maxHeartbeats 4000000 in
theorem u_X12_isLoops_19 {p : Program} {e : Env} {s : State} {m : MethodId} {args : Array Value} {below : List Frame} {meth : Method} {c : Code} {base : Nat} {D : va_G} {cA : Nat → ClassId} {n : Nat} {l : Launch} {Q : Int → ml_St → Prop} (X : ml_X p s m c meth args D cA cX12_isLoops 2 RX12 (some .boolean)) (hn : 256 ≤ n) (σ : ml_St) (s0 : Int) (h_s0 : ml_B s0) (ls : Array Slot) (hl : lv_has ls 2 []) (hw : f_X12_isLoops_u19 Q σ s0) : ml_V p l e rm_X12_isLoops s m args below meth c (MQ below (ml_Qi ml_B base D cA n Q) args s 0 0 (ml_A base)) base D cA 0 0 n n σ (F0 m 19 ls [.int (Int32.ofInt s0)]) := by
  unfold f_X12_isLoops_u19 at hw
  exact ml_zret (pc := 19) X h_s0 hw dX12_isLoops_19
set_option maxRecDepth 100000 in
set_option maxHeartbeats 4000000 in
theorem u_X12_isLoops_18 {p : Program} {e : Env} {s : State} {m : MethodId} {args : Array Value} {below : List Frame} {meth : Method} {c : Code} {base : Nat} {D : va_G} {cA : Nat → ClassId} {n : Nat} {l : Launch} {Q : Int → ml_St → Prop} (X : ml_X p s m c meth args D cA cX12_isLoops 2 RX12 (some .boolean)) (hn : 256 ≤ n) (σ : ml_St) (ls : Array Slot) (hl : lv_has ls 2 []) (hw : f_X12_isLoops_u18 Q σ) : ml_V p l e rm_X12_isLoops s m args below meth c (MQ below (ml_Qi ml_B base D cA n Q) args s 0 0 (ml_A base)) base D cA 0 0 n n σ (F0 m 18 ls []) := by
  unfold f_X12_isLoops_u18 at hw
  refine ml_iconst (pc := 18) X dX12_isLoops_18 ?_
  exact u_X12_isLoops_19 X hn σ 0 ⟨by decide, by decide⟩ _ (lv_sub hl [] rfl) hw
set_option maxRecDepth 100000 in
set_option maxHeartbeats 4000000 in
theorem u_X12_isLoops_0 {p : Program} {e : Env} {s : State} {m : MethodId} {args : Array Value} {below : List Frame} {meth : Method} {c : Code} {base : Nat} {D : va_G} {cA : Nat → ClassId} {n : Nat} {l : Launch} {Q : Int → ml_St → Prop} (X : ml_X p s m c meth args D cA cX12_isLoops 2 RX12 (some .boolean)) (hn : 256 ≤ n) (σ : ml_St) (x0 : Int) (h_x0 : I64 x0) (ls : Array Slot) (hl : lv_has ls 2 [(0, .long (Int64.ofInt x0))]) (hw : f_X12_isLoops_u0 Q σ x0) : ml_V p l e rm_X12_isLoops s m args below meth c (MQ below (ml_Qi ml_B base D cA n Q) args s 0 0 (ml_A base)) base D cA 0 0 n n σ (F0 m 0 ls []) := by
  unfold f_X12_isLoops_u0 at hw
  refine ml_lload_n (pc := 0) X hl 0 rfl rfl dX12_isLoops_0 ?_
  refine ml_lconst0 (pc := 1) X dX12_isLoops_1 ?_
  refine ml_lcmp_lt (pc := 2) (tgt := 18) X h_x0 ⟨by decide, by decide⟩ dX12_isLoops_2 dX12_isLoops_3 (by decide) (fun c1 => ?_) (fun c1 => ?_)
  · have hw := hw.1 c1
    exact u_X12_isLoops_18 X hn σ   _ (lv_sub hl [] rfl) hw
  · have hw := hw.2 c1
    refine ml_lload_n (pc := 6) X hl 0 rfl rfl dX12_isLoops_6 ?_
    refine ml_ldc2 (pc := 7) (v := 1000000000000000000) X dX12_isLoops_7 tc_6_109 ?_
    refine ml_lcmp_gt (pc := 10) (tgt := 18) X h_x0 ⟨by decide, by decide⟩ dX12_isLoops_10 dX12_isLoops_11 (by decide) (fun c2 => ?_) (fun c2 => ?_)
    · have hw := hw.1 c2
      exact u_X12_isLoops_18 X hn σ   _ (lv_sub hl [] rfl) hw
    · have hw := hw.2 c2
      refine ml_iconst (pc := 14) X dX12_isLoops_14 ?_
      refine ml_goto (pc := 15) (tgt := 19) X dX12_isLoops_15 (by decide) ?_
      exact u_X12_isLoops_19 X hn σ 1 ⟨by decide, by decide⟩ _ (lv_sub hl [] rfl) hw
set_option maxRecDepth 100000 in
theorem c_X12_isLoops (l : Launch) (base : Nat) (D : va_G) (cA : Nat → ClassId) (n : Nat) (hn : 256 ≤ n) (σ : ml_St) (x0 : Int) (h_x0 : I64 x0) (Q : Int → ml_St → Prop) (hw : f_X12_isLoops σ x0 Q) : Met l yX12_isLoops (Cond.code yX12_isLoops cX12_isLoops 2 (some .boolean) :: ml_T) rm_X12_isLoops (va_Pc [.long (Int64.ofInt x0)] (ml_U base D cA n σ)) (ml_Qi ml_B base D cA n Q) 0 0 (ml_A base) := by
  refine Met.ofW (cc := cX12_isLoops) (maxL := 2) (ret := (some .boolean)) (by decide) rfl ?_
  intro p e s m args below meth c s₁ B hml hv
  obtain ⟨rfl, hP, hK, hok, hro⟩ := hv
  have X : ml_X p s m c meth _ D cA cX12_isLoops 2 RX12 (some .boolean) := ⟨B.exec, B.bytes, hml, findClass_of_methodNamed B.named, fun w hw => atoms_spec (ws := Cond.code yX12_isLoops cX12_isLoops 2 (some .boolean) :: ml_T) B.pre w (List.mem_cons_of_mem _ hw), hK, B.notSynchronized, B.returns⟩
  have hl := lv_entry [.long (Int64.ofInt x0)] (n := 2) (Nat.le_of_ble_eq_true rfl)
  rw [lg_entry_eq]
  generalize (lg_sl [.long (Int64.ofInt x0)] ++ List.replicate (2 - (lg_sl [.long (Int64.ofInt x0)]).length) Slot.unset).toArray = ls at hl ⊢
  have hl : lv_has ls 2 [(0, .long (Int64.ofInt x0))] := hl
  unfold f_X12_isLoops at hw
  exact u_X12_isLoops_0 X hn σ x0 h_x0 _ (lv_sub hl [0] rfl) hw s.heap [] hP va_S.rf hok hro
theorem dX12_ofResidue_0 : decode cX12_ofResidue 0 = .ok (.aload_n 0, 1) := by decide +kernel
theorem dX12_ofResidue_1 : decode cX12_ofResidue 1 = .ok (.lconst 0, 1) := by decide +kernel
theorem dX12_ofResidue_2 : decode cX12_ofResidue 2 = .ok (.putfield 334, 3) := by decide +kernel
theorem dX12_ofResidue_5 : decode cX12_ofResidue 5 = .ok (.aload_n 0, 1) := by decide +kernel
theorem dX12_ofResidue_6 : decode cX12_ofResidue 6 = .ok (.getfield 319, 3) := by decide +kernel
theorem dX12_ofResidue_9 : decode cX12_ofResidue 9 = .ok (.lconst 0, 1) := by decide +kernel
theorem dX12_ofResidue_10 : decode cX12_ofResidue 10 = .ok (.lcmp, 1) := by decide +kernel
theorem dX12_ofResidue_11 : decode cX12_ofResidue 11 = .ok (.ifCond .ne 89, 3) := by decide +kernel
theorem dX12_ofResidue_14 : decode cX12_ofResidue 14 = .ok (.aload_n 0, 1) := by decide +kernel
theorem dX12_ofResidue_15 : decode cX12_ofResidue 15 = .ok (.getfield 77, 3) := by decide +kernel
theorem dX12_ofResidue_18 : decode cX12_ofResidue 18 = .ok (.iload_n 1, 1) := by decide +kernel
theorem dX12_ofResidue_19 : decode cX12_ofResidue 19 = .ok (.laload, 1) := by decide +kernel
theorem dX12_ofResidue_20 : decode cX12_ofResidue 20 = .ok (.lload_n 2, 1) := by decide +kernel
theorem dX12_ofResidue_21 : decode cX12_ofResidue 21 = .ok (.lcmp, 1) := by decide +kernel
theorem dX12_ofResidue_22 : decode cX12_ofResidue 22 = .ok (.ifCond .eq 5, 3) := by decide +kernel
theorem dX12_ofResidue_25 : decode cX12_ofResidue 25 = .ok (.lconst 0, 1) := by decide +kernel
theorem dX12_ofResidue_26 : decode cX12_ofResidue 26 = .ok (.lreturn, 1) := by decide +kernel
theorem dX12_ofResidue_27 : decode cX12_ofResidue 27 = .ok (.lload 4, 2) := by decide +kernel
theorem dX12_ofResidue_29 : decode cX12_ofResidue 29 = .ok (.iload_n 1, 1) := by decide +kernel
theorem dX12_ofResidue_30 : decode cX12_ofResidue 30 = .ok (.i2l, 1) := by decide +kernel
theorem dX12_ofResidue_31 : decode cX12_ofResidue 31 = .ok (.lcmp, 1) := by decide +kernel
theorem dX12_ofResidue_32 : decode cX12_ofResidue 32 = .ok (.ifCond .gt 8, 3) := by decide +kernel
theorem dX12_ofResidue_35 : decode cX12_ofResidue 35 = .ok (.iload_n 1, 1) := by decide +kernel
theorem dX12_ofResidue_36 : decode cX12_ofResidue 36 = .ok (.i2l, 1) := by decide +kernel
theorem dX12_ofResidue_37 : decode cX12_ofResidue 37 = .ok (.goto 31, 3) := by decide +kernel
theorem dX12_ofResidue_40 : decode cX12_ofResidue 40 = .ok (.iload_n 1, 1) := by decide +kernel
theorem dX12_ofResidue_41 : decode cX12_ofResidue 41 = .ok (.i2l, 1) := by decide +kernel
theorem dX12_ofResidue_42 : decode cX12_ofResidue 42 = .ok (.lload 4, 2) := by decide +kernel
theorem dX12_ofResidue_44 : decode cX12_ofResidue 44 = .ok (.iload_n 1, 1) := by decide +kernel
theorem dX12_ofResidue_45 : decode cX12_ofResidue 45 = .ok (.i2l, 1) := by decide +kernel
theorem dX12_ofResidue_46 : decode cX12_ofResidue 46 = .ok (.lsub, 1) := by decide +kernel
theorem dX12_ofResidue_47 : decode cX12_ofResidue 47 = .ok (.aload_n 0, 1) := by decide +kernel
theorem dX12_ofResidue_48 : decode cX12_ofResidue 48 = .ok (.getfield 313, 3) := by decide +kernel
theorem dX12_ofResidue_51 : decode cX12_ofResidue 51 = .ok (.i2l, 1) := by decide +kernel
theorem dX12_ofResidue_52 : decode cX12_ofResidue 52 = .ok (.ladd, 1) := by decide +kernel
theorem dX12_ofResidue_53 : decode cX12_ofResidue 53 = .ok (.lconst 1, 1) := by decide +kernel
theorem dX12_ofResidue_54 : decode cX12_ofResidue 54 = .ok (.lsub, 1) := by decide +kernel
theorem dX12_ofResidue_55 : decode cX12_ofResidue 55 = .ok (.aload_n 0, 1) := by decide +kernel
theorem dX12_ofResidue_56 : decode cX12_ofResidue 56 = .ok (.getfield 313, 3) := by decide +kernel
theorem dX12_ofResidue_59 : decode cX12_ofResidue 59 = .ok (.i2l, 1) := by decide +kernel
theorem dX12_ofResidue_60 : decode cX12_ofResidue 60 = .ok (.ldiv, 1) := by decide +kernel
theorem dX12_ofResidue_61 : decode cX12_ofResidue 61 = .ok (.aload_n 0, 1) := by decide +kernel
theorem dX12_ofResidue_62 : decode cX12_ofResidue 62 = .ok (.getfield 313, 3) := by decide +kernel
theorem dX12_ofResidue_65 : decode cX12_ofResidue 65 = .ok (.i2l, 1) := by decide +kernel
theorem dX12_ofResidue_66 : decode cX12_ofResidue 66 = .ok (.lmul, 1) := by decide +kernel
theorem dX12_ofResidue_67 : decode cX12_ofResidue 67 = .ok (.ladd, 1) := by decide +kernel
theorem dX12_ofResidue_68 : decode cX12_ofResidue 68 = .ok (.lstore 8, 2) := by decide +kernel
theorem dX12_ofResidue_70 : decode cX12_ofResidue 70 = .ok (.lload 8, 2) := by decide +kernel
theorem dX12_ofResidue_72 : decode cX12_ofResidue 72 = .ok (.lload 6, 2) := by decide +kernel
theorem dX12_ofResidue_74 : decode cX12_ofResidue 74 = .ok (.lcmp, 1) := by decide +kernel
theorem dX12_ofResidue_75 : decode cX12_ofResidue 75 = .ok (.ifCond .le 5, 3) := by decide +kernel
theorem dX12_ofResidue_78 : decode cX12_ofResidue 78 = .ok (.lconst 0, 1) := by decide +kernel
theorem dX12_ofResidue_79 : decode cX12_ofResidue 79 = .ok (.lreturn, 1) := by decide +kernel
theorem dX12_ofResidue_80 : decode cX12_ofResidue 80 = .ok (.aload_n 0, 1) := by decide +kernel
theorem dX12_ofResidue_81 : decode cX12_ofResidue 81 = .ok (.lload 8, 2) := by decide +kernel
theorem dX12_ofResidue_83 : decode cX12_ofResidue 83 = .ok (.putfield 334, 3) := by decide +kernel
theorem dX12_ofResidue_86 : decode cX12_ofResidue 86 = .ok (.lload 6, 2) := by decide +kernel
theorem dX12_ofResidue_88 : decode cX12_ofResidue 88 = .ok (.lload 8, 2) := by decide +kernel
theorem dX12_ofResidue_90 : decode cX12_ofResidue 90 = .ok (.lsub, 1) := by decide +kernel
theorem dX12_ofResidue_91 : decode cX12_ofResidue 91 = .ok (.aload_n 0, 1) := by decide +kernel
theorem dX12_ofResidue_92 : decode cX12_ofResidue 92 = .ok (.getfield 313, 3) := by decide +kernel
theorem dX12_ofResidue_95 : decode cX12_ofResidue 95 = .ok (.i2l, 1) := by decide +kernel
theorem dX12_ofResidue_96 : decode cX12_ofResidue 96 = .ok (.ldiv, 1) := by decide +kernel
theorem dX12_ofResidue_97 : decode cX12_ofResidue 97 = .ok (.lconst 1, 1) := by decide +kernel
theorem dX12_ofResidue_98 : decode cX12_ofResidue 98 = .ok (.ladd, 1) := by decide +kernel
theorem dX12_ofResidue_99 : decode cX12_ofResidue 99 = .ok (.lreturn, 1) := by decide +kernel
theorem dX12_ofResidue_100 : decode cX12_ofResidue 100 = .ok (.lload_n 2, 1) := by decide +kernel
theorem dX12_ofResidue_101 : decode cX12_ofResidue 101 = .ok (.aload_n 0, 1) := by decide +kernel
theorem dX12_ofResidue_102 : decode cX12_ofResidue 102 = .ok (.getfield 77, 3) := by decide +kernel
theorem dX12_ofResidue_105 : decode cX12_ofResidue 105 = .ok (.iload_n 1, 1) := by decide +kernel
theorem dX12_ofResidue_106 : decode cX12_ofResidue 106 = .ok (.laload, 1) := by decide +kernel
theorem dX12_ofResidue_107 : decode cX12_ofResidue 107 = .ok (.lcmp, 1) := by decide +kernel
theorem dX12_ofResidue_108 : decode cX12_ofResidue 108 = .ok (.ifCond .lt 21, 3) := by decide +kernel
theorem dX12_ofResidue_111 : decode cX12_ofResidue 111 = .ok (.lload_n 2, 1) := by decide +kernel
theorem dX12_ofResidue_112 : decode cX12_ofResidue 112 = .ok (.aload_n 0, 1) := by decide +kernel
theorem dX12_ofResidue_113 : decode cX12_ofResidue 113 = .ok (.getfield 77, 3) := by decide +kernel
theorem dX12_ofResidue_116 : decode cX12_ofResidue 116 = .ok (.iload_n 1, 1) := by decide +kernel
theorem dX12_ofResidue_117 : decode cX12_ofResidue 117 = .ok (.laload, 1) := by decide +kernel
theorem dX12_ofResidue_118 : decode cX12_ofResidue 118 = .ok (.lsub, 1) := by decide +kernel
theorem dX12_ofResidue_119 : decode cX12_ofResidue 119 = .ok (.aload_n 0, 1) := by decide +kernel
theorem dX12_ofResidue_120 : decode cX12_ofResidue 120 = .ok (.getfield 319, 3) := by decide +kernel
theorem dX12_ofResidue_123 : decode cX12_ofResidue 123 = .ok (.lrem, 1) := by decide +kernel
theorem dX12_ofResidue_124 : decode cX12_ofResidue 124 = .ok (.lconst 0, 1) := by decide +kernel
theorem dX12_ofResidue_125 : decode cX12_ofResidue 125 = .ok (.lcmp, 1) := by decide +kernel
theorem dX12_ofResidue_126 : decode cX12_ofResidue 126 = .ok (.ifCond .eq 5, 3) := by decide +kernel
theorem dX12_ofResidue_129 : decode cX12_ofResidue 129 = .ok (.lconst 0, 1) := by decide +kernel
theorem dX12_ofResidue_130 : decode cX12_ofResidue 130 = .ok (.lreturn, 1) := by decide +kernel
theorem dX12_ofResidue_131 : decode cX12_ofResidue 131 = .ok (.lload_n 2, 1) := by decide +kernel
theorem dX12_ofResidue_132 : decode cX12_ofResidue 132 = .ok (.aload_n 0, 1) := by decide +kernel
theorem dX12_ofResidue_133 : decode cX12_ofResidue 133 = .ok (.getfield 77, 3) := by decide +kernel
theorem dX12_ofResidue_136 : decode cX12_ofResidue 136 = .ok (.iload_n 1, 1) := by decide +kernel
theorem dX12_ofResidue_137 : decode cX12_ofResidue 137 = .ok (.laload, 1) := by decide +kernel
theorem dX12_ofResidue_138 : decode cX12_ofResidue 138 = .ok (.lsub, 1) := by decide +kernel
theorem dX12_ofResidue_139 : decode cX12_ofResidue 139 = .ok (.aload_n 0, 1) := by decide +kernel
theorem dX12_ofResidue_140 : decode cX12_ofResidue 140 = .ok (.getfield 319, 3) := by decide +kernel
theorem dX12_ofResidue_143 : decode cX12_ofResidue 143 = .ok (.ldiv, 1) := by decide +kernel
theorem dX12_ofResidue_144 : decode cX12_ofResidue 144 = .ok (.lstore 8, 2) := by decide +kernel
theorem dX12_ofResidue_146 : decode cX12_ofResidue 146 = .ok (.lload 8, 2) := by decide +kernel
theorem dX12_ofResidue_148 : decode cX12_ofResidue 148 = .ok (.lload 6, 2) := by decide +kernel
theorem dX12_ofResidue_150 : decode cX12_ofResidue 150 = .ok (.iload_n 1, 1) := by decide +kernel
theorem dX12_ofResidue_151 : decode cX12_ofResidue 151 = .ok (.i2l, 1) := by decide +kernel
theorem dX12_ofResidue_152 : decode cX12_ofResidue 152 = .ok (.lsub, 1) := by decide +kernel
theorem dX12_ofResidue_153 : decode cX12_ofResidue 153 = .ok (.aload_n 0, 1) := by decide +kernel
theorem dX12_ofResidue_154 : decode cX12_ofResidue 154 = .ok (.getfield 313, 3) := by decide +kernel
theorem dX12_ofResidue_157 : decode cX12_ofResidue 157 = .ok (.i2l, 1) := by decide +kernel
theorem dX12_ofResidue_158 : decode cX12_ofResidue 158 = .ok (.ldiv, 1) := by decide +kernel
theorem dX12_ofResidue_159 : decode cX12_ofResidue 159 = .ok (.lcmp, 1) := by decide +kernel
theorem dX12_ofResidue_160 : decode cX12_ofResidue 160 = .ok (.ifCond .gt 11, 3) := by decide +kernel
theorem dX12_ofResidue_163 : decode cX12_ofResidue 163 = .ok (.lload 6, 2) := by decide +kernel
theorem dX12_ofResidue_165 : decode cX12_ofResidue 165 = .ok (.iload_n 1, 1) := by decide +kernel
theorem dX12_ofResidue_166 : decode cX12_ofResidue 166 = .ok (.i2l, 1) := by decide +kernel
theorem dX12_ofResidue_167 : decode cX12_ofResidue 167 = .ok (.lcmp, 1) := by decide +kernel
theorem dX12_ofResidue_168 : decode cX12_ofResidue 168 = .ok (.ifCond .ge 5, 3) := by decide +kernel
theorem dX12_ofResidue_171 : decode cX12_ofResidue 171 = .ok (.lconst 0, 1) := by decide +kernel
theorem dX12_ofResidue_172 : decode cX12_ofResidue 172 = .ok (.lreturn, 1) := by decide +kernel
theorem dX12_ofResidue_173 : decode cX12_ofResidue 173 = .ok (.iload_n 1, 1) := by decide +kernel
theorem dX12_ofResidue_174 : decode cX12_ofResidue 174 = .ok (.i2l, 1) := by decide +kernel
theorem dX12_ofResidue_175 : decode cX12_ofResidue 175 = .ok (.lload 8, 2) := by decide +kernel
theorem dX12_ofResidue_177 : decode cX12_ofResidue 177 = .ok (.aload_n 0, 1) := by decide +kernel
theorem dX12_ofResidue_178 : decode cX12_ofResidue 178 = .ok (.getfield 313, 3) := by decide +kernel
theorem dX12_ofResidue_181 : decode cX12_ofResidue 181 = .ok (.i2l, 1) := by decide +kernel
theorem dX12_ofResidue_182 : decode cX12_ofResidue 182 = .ok (.lmul, 1) := by decide +kernel
theorem dX12_ofResidue_183 : decode cX12_ofResidue 183 = .ok (.ladd, 1) := by decide +kernel
theorem dX12_ofResidue_184 : decode cX12_ofResidue 184 = .ok (.lstore 10, 2) := by decide +kernel
theorem dX12_ofResidue_186 : decode cX12_ofResidue 186 = .ok (.lload 10, 2) := by decide +kernel
theorem dX12_ofResidue_188 : decode cX12_ofResidue 188 = .ok (.lload 4, 2) := by decide +kernel
theorem dX12_ofResidue_190 : decode cX12_ofResidue 190 = .ok (.lcmp, 1) := by decide +kernel
theorem dX12_ofResidue_191 : decode cX12_ofResidue 191 = .ok (.ifCond .ge 5, 3) := by decide +kernel
theorem dX12_ofResidue_194 : decode cX12_ofResidue 194 = .ok (.lconst 0, 1) := by decide +kernel
theorem dX12_ofResidue_195 : decode cX12_ofResidue 195 = .ok (.lreturn, 1) := by decide +kernel
theorem dX12_ofResidue_196 : decode cX12_ofResidue 196 = .ok (.aload_n 0, 1) := by decide +kernel
theorem dX12_ofResidue_197 : decode cX12_ofResidue 197 = .ok (.lload 10, 2) := by decide +kernel
theorem dX12_ofResidue_199 : decode cX12_ofResidue 199 = .ok (.putfield 334, 3) := by decide +kernel
theorem dX12_ofResidue_202 : decode cX12_ofResidue 202 = .ok (.lconst 1, 1) := by decide +kernel
theorem dX12_ofResidue_203 : decode cX12_ofResidue 203 = .ok (.lreturn, 1) := by decide +kernel
def f_X12_ofResidue_u68 (Q : Int → ml_St → Prop) (σ : ml_St) (x6 : Int) (s0 : Int) : Prop :=
(s0 ≤ x6 →
∀ σ2, σ2 = ml_up σ 215 36 s0 →
∀ _ : I32 (σ2 215 33),
((σ2 215 33) : Int) ≠ 0 ∧
Q (w64 ((w64 (Int.tdiv (w64 (x6 - s0)) (σ2 215 33))) + 1)) σ2) ∧
(¬ (s0 ≤ x6) →
Q 0 σ)
def f_X12_ofResidue_u129 (Q : Int → ml_St → Prop) (σ : ml_St) : Prop :=
Q 0 σ
def f_X12_ofResidue_u171 (Q : Int → ml_St → Prop) (σ : ml_St) : Prop :=
Q 0 σ
def f_X12_ofResidue_u0 (Q : Int → ml_St → Prop) (σ : ml_St) (x1 : Int) (x2 : Int) (x4 : Int) (x6 : Int) : Prop :=
∀ σ1, σ1 = ml_up σ 215 36 0 →
∀ _ : I64 (σ1 215 35),
(((σ1 215 35) : Int) ≠ 0 →
(0 : Int) ≤ x1 ∧ (x1 : Int) < 2900 ∧
∀ _ : I64 (σ1 236 x1),
(x2 < (σ1 236 x1) →
f_X12_ofResidue_u129 Q σ1) ∧
(¬ (x2 < (σ1 236 x1)) →
(0 : Int) ≤ x1 ∧ (x1 : Int) < 2900 ∧
∀ _ : I64 (σ1 236 x1),
∀ _ : I64 (σ1 215 35),
((σ1 215 35) : Int) ≠ 0 ∧
(((Int.tmod (w64 (x2 - (σ1 236 x1))) (σ1 215 35)) : Int) = 0 →
(0 : Int) ≤ x1 ∧ (x1 : Int) < 2900 ∧
∀ _ : I64 (σ1 236 x1),
∀ _ : I64 (σ1 215 35),
((σ1 215 35) : Int) ≠ 0 ∧
∀ y15 : Int, y15 = w64 (Int.tdiv (w64 (x2 - (σ1 236 x1))) (σ1 215 35)) →
∀ _ : I32 (σ1 215 33),
((σ1 215 33) : Int) ≠ 0 ∧
((w64 (Int.tdiv (w64 (x6 - x1)) (σ1 215 33))) < y15 →
f_X12_ofResidue_u171 Q σ1) ∧
(¬ ((w64 (Int.tdiv (w64 (x6 - x1)) (σ1 215 33))) < y15) →
(x1 ≤ x6 →
∀ _ : I32 (σ1 215 33),
∀ y24 : Int, y24 = w64 (x1 + (w64 (y15 * (σ1 215 33)))) →
(x4 ≤ y24 →
∀ σ26, σ26 = ml_up σ1 215 36 y24 →
Q 1 σ26) ∧
(¬ (x4 ≤ y24) →
Q 0 σ1)) ∧
(¬ (x1 ≤ x6) →
f_X12_ofResidue_u171 Q σ1))) ∧
((Int.tmod (w64 (x2 - (σ1 236 x1))) (σ1 215 35)) ≠ 0 →
f_X12_ofResidue_u129 Q σ1))) ∧
((σ1 215 35) = 0 →
(0 : Int) ≤ x1 ∧ (x1 : Int) < 2900 ∧
∀ _ : I64 (σ1 236 x1),
((σ1 236 x1) = x2 →
(x1 < x4 →
∀ _ : I32 (σ1 215 33),
∀ _ : I32 (σ1 215 33),
((σ1 215 33) : Int) ≠ 0 ∧
∀ _ : I32 (σ1 215 33),
f_X12_ofResidue_u68 Q σ1 x6 (w64 (x1 + (w64 ((w64 (Int.tdiv (w64 ((w64 ((w64 (x4 - x1)) + (σ1 215 33))) - 1)) (σ1 215 33))) * (σ1 215 33)))))) ∧
(¬ (x1 < x4) →
f_X12_ofResidue_u68 Q σ1 x6 x1)) ∧
((σ1 236 x1) ≠ x2 →
Q 0 σ1))
def f_X12_ofResidue (σ : ml_St) (x1 : Int) (x2 : Int) (x4 : Int) (x6 : Int) (Q : Int → ml_St → Prop) : Prop := f_X12_ofResidue_u0 Q σ x1 x2 x4 x6
def rm_X12_ofResidue : Room := { frames := 0, cells := 0, slots := 0, locals := 0 }
set_option maxRecDepth 100000 in
set_option maxHeartbeats 4000000 in
theorem u_X12_ofResidue_68 {p : Program} {e : Env} {s : State} {m : MethodId} {args : Array Value} {below : List Frame} {meth : Method} {c : Code} {base : Nat} {D : va_G} {cA : Nat → ClassId} {n : Nat} {l : Launch} {Q : Int → ml_St → Prop} (X : ml_X p s m c meth args D cA cX12_ofResidue 12 RX12 (some .long)) (hn : 256 ≤ n) (σ : ml_St) (x6 : Int) (s0 : Int) (h_x6 : I64 x6) (h_s0 : I64 s0) (ls : Array Slot) (hl : lv_has ls 12 [(0, .ref (base + (215 : Int).toNat)), (6, .long (Int64.ofInt x6))]) (hw : f_X12_ofResidue_u68 Q σ x6 s0) : ml_V p l e rm_X12_ofResidue s m args below meth c (MQ below (ml_Ql base D cA n Q) args s 0 0 (ml_A base)) base D cA 0 0 n n σ (F0 m 68 ls [.long (Int64.ofInt s0)]) := by
  unfold f_X12_ofResidue_u68 at hw
  refine ml_lstore (pc := 68) X hl (by decide) (lst' := [(8, .long (Int64.ofInt s0)), (0, .ref (base + (215 : Int).toNat)), (6, .long (Int64.ofInt x6))]) rfl dX12_ofResidue_68 (fun ls hl => ?_)
  refine ml_lload (pc := 70) X hl 0 rfl dX12_ofResidue_70 ?_
  refine ml_lload (pc := 72) X hl 2 rfl dX12_ofResidue_72 ?_
  refine ml_lcmp_le (pc := 74) (tgt := 80) X h_s0 h_x6 dX12_ofResidue_74 dX12_ofResidue_75 (by decide) (fun c1 => ?_) (fun c1 => ?_)
  · have hw := hw.1 c1
    refine ml_aload_n (pc := 80) X hl 1 rfl rfl dX12_ofResidue_80 ?_
    refine ml_lload (pc := 81) X hl 0 rfl dX12_ofResidue_81 ?_
    refine pf_X12_334 (pc := 83) X (ml_c215 hn) h_s0 dX12_ofResidue_83 (fun σ2 g2 => ?_)
    have hw := hw σ2 g2
    refine ml_lload (pc := 86) X hl 2 rfl dX12_ofResidue_86 ?_
    refine ml_lload (pc := 88) X hl 0 rfl dX12_ofResidue_88 ?_
    refine ml_lsubW (pc := 90) X dX12_ofResidue_90 ?_
    refine ml_aload_n (pc := 91) X hl 1 rfl rfl dX12_ofResidue_91 ?_
    refine gf_X12_313 (pc := 92) X (ml_c215 hn) dX12_ofResidue_92 (fun r4 => ?_)
    have hw := hw r4
    refine ml_i2l (pc := 95) X r4 dX12_ofResidue_95 ?_
    obtain ⟨z5, hw⟩ := hw
    refine ml_ldivW (pc := 96) X (w64_r _) (r4).l z5 dX12_ofResidue_96 ?_
    refine ml_lconst1 (pc := 97) X dX12_ofResidue_97 ?_
    refine ml_laddW (pc := 98) X dX12_ofResidue_98 ?_
    exact ml_lret (pc := 99) X (w64_r _) hw dX12_ofResidue_99
  · have hw := hw.2 c1
    refine ml_lconst0 (pc := 78) X dX12_ofResidue_78 ?_
    exact ml_lret (pc := 79) X ⟨by decide, by decide⟩ hw dX12_ofResidue_79
set_option maxRecDepth 100000 in
set_option maxHeartbeats 4000000 in
theorem u_X12_ofResidue_129 {p : Program} {e : Env} {s : State} {m : MethodId} {args : Array Value} {below : List Frame} {meth : Method} {c : Code} {base : Nat} {D : va_G} {cA : Nat → ClassId} {n : Nat} {l : Launch} {Q : Int → ml_St → Prop} (X : ml_X p s m c meth args D cA cX12_ofResidue 12 RX12 (some .long)) (hn : 256 ≤ n) (σ : ml_St) (ls : Array Slot) (hl : lv_has ls 12 []) (hw : f_X12_ofResidue_u129 Q σ) : ml_V p l e rm_X12_ofResidue s m args below meth c (MQ below (ml_Ql base D cA n Q) args s 0 0 (ml_A base)) base D cA 0 0 n n σ (F0 m 129 ls []) := by
  unfold f_X12_ofResidue_u129 at hw
  refine ml_lconst0 (pc := 129) X dX12_ofResidue_129 ?_
  exact ml_lret (pc := 130) X ⟨by decide, by decide⟩ hw dX12_ofResidue_130
set_option maxRecDepth 100000 in
set_option maxHeartbeats 4000000 in
theorem u_X12_ofResidue_171 {p : Program} {e : Env} {s : State} {m : MethodId} {args : Array Value} {below : List Frame} {meth : Method} {c : Code} {base : Nat} {D : va_G} {cA : Nat → ClassId} {n : Nat} {l : Launch} {Q : Int → ml_St → Prop} (X : ml_X p s m c meth args D cA cX12_ofResidue 12 RX12 (some .long)) (hn : 256 ≤ n) (σ : ml_St) (ls : Array Slot) (hl : lv_has ls 12 []) (hw : f_X12_ofResidue_u171 Q σ) : ml_V p l e rm_X12_ofResidue s m args below meth c (MQ below (ml_Ql base D cA n Q) args s 0 0 (ml_A base)) base D cA 0 0 n n σ (F0 m 171 ls []) := by
  unfold f_X12_ofResidue_u171 at hw
  refine ml_lconst0 (pc := 171) X dX12_ofResidue_171 ?_
  exact ml_lret (pc := 172) X ⟨by decide, by decide⟩ hw dX12_ofResidue_172
set_option maxRecDepth 100000 in
set_option maxHeartbeats 4000000 in
theorem u_X12_ofResidue_0 {p : Program} {e : Env} {s : State} {m : MethodId} {args : Array Value} {below : List Frame} {meth : Method} {c : Code} {base : Nat} {D : va_G} {cA : Nat → ClassId} {n : Nat} {l : Launch} {Q : Int → ml_St → Prop} (X : ml_X p s m c meth args D cA cX12_ofResidue 12 RX12 (some .long)) (hn : 256 ≤ n) (σ : ml_St) (x1 : Int) (x2 : Int) (x4 : Int) (x6 : Int) (h_x1 : I32 x1) (h_x2 : I64 x2) (h_x4 : I64 x4) (h_x6 : I64 x6) (ls : Array Slot) (hl : lv_has ls 12 [(0, .ref (base + (215 : Int).toNat)), (1, .int (Int32.ofInt x1)), (2, .long (Int64.ofInt x2)), (4, .long (Int64.ofInt x4)), (6, .long (Int64.ofInt x6))]) (hw : f_X12_ofResidue_u0 Q σ x1 x2 x4 x6) : ml_V p l e rm_X12_ofResidue s m args below meth c (MQ below (ml_Ql base D cA n Q) args s 0 0 (ml_A base)) base D cA 0 0 n n σ (F0 m 0 ls []) := by
  unfold f_X12_ofResidue_u0 at hw
  refine ml_aload_n (pc := 0) X hl 0 rfl rfl dX12_ofResidue_0 ?_
  refine ml_lconst0 (pc := 1) X dX12_ofResidue_1 ?_
  refine pf_X12_334 (pc := 2) X (ml_c215 hn) ⟨by decide, by decide⟩ dX12_ofResidue_2 (fun σ1 g1 => ?_)
  have hw := hw σ1 g1
  refine ml_aload_n (pc := 5) X hl 0 rfl rfl dX12_ofResidue_5 ?_
  refine gf_X12_319 (pc := 6) X (ml_c215 hn) dX12_ofResidue_6 (fun r2 => ?_)
  have hw := hw r2
  refine ml_lconst0 (pc := 9) X dX12_ofResidue_9 ?_
  refine ml_lcmp_ne (pc := 10) (tgt := 100) X r2 ⟨by decide, by decide⟩ dX12_ofResidue_10 dX12_ofResidue_11 (by decide) (fun c3 => ?_) (fun c3 => ?_)
  · have hw := hw.1 c3
    refine ml_lload_n (pc := 100) X hl 2 rfl rfl dX12_ofResidue_100 ?_
    refine ml_aload_n (pc := 101) X hl 0 rfl rfl dX12_ofResidue_101 ?_
    refine gf_X12_77 (pc := 102) X (ml_c215 hn) dX12_ofResidue_102 ?_
    refine ml_iload_n (pc := 105) X hl 1 rfl rfl dX12_ofResidue_105 ?_
    obtain ⟨a4, b4, hw⟩ := hw
    refine ml_lald (pc := 106) (N := 2900) X (ml_c236 hn) a4 b4 dX12_ofResidue_106 (fun r4 => ?_)
    have hw := hw r4
    refine ml_lcmp_lt (pc := 107) (tgt := 129) X h_x2 r4 dX12_ofResidue_107 dX12_ofResidue_108 (by decide) (fun c5 => ?_) (fun c5 => ?_)
    · have hw := hw.1 c5
      exact u_X12_ofResidue_129 X hn σ1   _ (lv_sub hl [] rfl) hw
    · have hw := hw.2 c5
      refine ml_lload_n (pc := 111) X hl 2 rfl rfl dX12_ofResidue_111 ?_
      refine ml_aload_n (pc := 112) X hl 0 rfl rfl dX12_ofResidue_112 ?_
      refine gf_X12_77 (pc := 113) X (ml_c215 hn) dX12_ofResidue_113 ?_
      refine ml_iload_n (pc := 116) X hl 1 rfl rfl dX12_ofResidue_116 ?_
      obtain ⟨a6, b6, hw⟩ := hw
      refine ml_lald (pc := 117) (N := 2900) X (ml_c236 hn) a6 b6 dX12_ofResidue_117 (fun r6 => ?_)
      have hw := hw r6
      refine ml_lsubW (pc := 118) X dX12_ofResidue_118 ?_
      refine ml_aload_n (pc := 119) X hl 0 rfl rfl dX12_ofResidue_119 ?_
      refine gf_X12_319 (pc := 120) X (ml_c215 hn) dX12_ofResidue_120 (fun r8 => ?_)
      have hw := hw r8
      obtain ⟨z9, hw⟩ := hw
      refine ml_lrem (pc := 123) X (w64_r _) r8 z9 dX12_ofResidue_123 ?_
      refine ml_lconst0 (pc := 124) X dX12_ofResidue_124 ?_
      refine ml_lcmp_eq (pc := 125) (tgt := 131) X (ml_tmod_r (w64_r _)) ⟨by decide, by decide⟩ dX12_ofResidue_125 dX12_ofResidue_126 (by decide) (fun c10 => ?_) (fun c10 => ?_)
      · have hw := hw.1 c10
        refine ml_lload_n (pc := 131) X hl 2 rfl rfl dX12_ofResidue_131 ?_
        refine ml_aload_n (pc := 132) X hl 0 rfl rfl dX12_ofResidue_132 ?_
        refine gf_X12_77 (pc := 133) X (ml_c215 hn) dX12_ofResidue_133 ?_
        refine ml_iload_n (pc := 136) X hl 1 rfl rfl dX12_ofResidue_136 ?_
        obtain ⟨a11, b11, hw⟩ := hw
        refine ml_lald (pc := 137) (N := 2900) X (ml_c236 hn) a11 b11 dX12_ofResidue_137 (fun r11 => ?_)
        have hw := hw r11
        refine ml_lsubW (pc := 138) X dX12_ofResidue_138 ?_
        refine ml_aload_n (pc := 139) X hl 0 rfl rfl dX12_ofResidue_139 ?_
        refine gf_X12_319 (pc := 140) X (ml_c215 hn) dX12_ofResidue_140 (fun r13 => ?_)
        have hw := hw r13
        obtain ⟨z14, hw⟩ := hw
        refine ml_ldivW (pc := 143) X (w64_r _) r13 z14 dX12_ofResidue_143 ?_
        refine ml_topL (pc := 144) (fun y15 e15 => ?_)
        have hw := hw y15 e15
        have q15 : I64 y15 := by rw [e15]; exact (w64_r _)
        refine ml_lstore (pc := 144) X hl (by decide) (lst' := [(8, .long (Int64.ofInt y15)), (0, .ref (base + (215 : Int).toNat)), (1, .int (Int32.ofInt x1)), (2, .long (Int64.ofInt x2)), (4, .long (Int64.ofInt x4)), (6, .long (Int64.ofInt x6))]) rfl dX12_ofResidue_144 (fun ls hl => ?_)
        refine ml_lload (pc := 146) X hl 0 rfl dX12_ofResidue_146 ?_
        refine ml_lload (pc := 148) X hl 5 rfl dX12_ofResidue_148 ?_
        refine ml_iload_n (pc := 150) X hl 2 rfl rfl dX12_ofResidue_150 ?_
        refine ml_i2l (pc := 151) X h_x1 dX12_ofResidue_151 ?_
        refine ml_lsubW (pc := 152) X dX12_ofResidue_152 ?_
        refine ml_aload_n (pc := 153) X hl 1 rfl rfl dX12_ofResidue_153 ?_
        refine gf_X12_313 (pc := 154) X (ml_c215 hn) dX12_ofResidue_154 (fun r17 => ?_)
        have hw := hw r17
        refine ml_i2l (pc := 157) X r17 dX12_ofResidue_157 ?_
        obtain ⟨z18, hw⟩ := hw
        refine ml_ldivW (pc := 158) X (w64_r _) (r17).l z18 dX12_ofResidue_158 ?_
        refine ml_lcmp_gt (pc := 159) (tgt := 171) X q15 (w64_r _) dX12_ofResidue_159 dX12_ofResidue_160 (by decide) (fun c19 => ?_) (fun c19 => ?_)
        · have hw := hw.1 c19
          exact u_X12_ofResidue_171 X hn σ1   _ (lv_sub hl [] rfl) hw
        · have hw := hw.2 c19
          refine ml_lload (pc := 163) X hl 5 rfl dX12_ofResidue_163 ?_
          refine ml_iload_n (pc := 165) X hl 2 rfl rfl dX12_ofResidue_165 ?_
          refine ml_i2l (pc := 166) X h_x1 dX12_ofResidue_166 ?_
          refine ml_lcmp_ge (pc := 167) (tgt := 173) X h_x6 (h_x1).l dX12_ofResidue_167 dX12_ofResidue_168 (by decide) (fun c20 => ?_) (fun c20 => ?_)
          · have hw := hw.1 c20
            refine ml_iload_n (pc := 173) X hl 2 rfl rfl dX12_ofResidue_173 ?_
            refine ml_i2l (pc := 174) X h_x1 dX12_ofResidue_174 ?_
            refine ml_lload (pc := 175) X hl 0 rfl dX12_ofResidue_175 ?_
            refine ml_aload_n (pc := 177) X hl 1 rfl rfl dX12_ofResidue_177 ?_
            refine gf_X12_313 (pc := 178) X (ml_c215 hn) dX12_ofResidue_178 (fun r21 => ?_)
            have hw := hw r21
            refine ml_i2l (pc := 181) X r21 dX12_ofResidue_181 ?_
            refine ml_lmulW (pc := 182) X dX12_ofResidue_182 ?_
            refine ml_laddW (pc := 183) X dX12_ofResidue_183 ?_
            refine ml_topL (pc := 184) (fun y24 e24 => ?_)
            have hw := hw y24 e24
            have q24 : I64 y24 := by rw [e24]; exact (w64_r _)
            refine ml_lstore (pc := 184) X hl (by decide) (lst' := [(10, .long (Int64.ofInt y24)), (8, .long (Int64.ofInt y15)), (0, .ref (base + (215 : Int).toNat)), (1, .int (Int32.ofInt x1)), (2, .long (Int64.ofInt x2)), (4, .long (Int64.ofInt x4)), (6, .long (Int64.ofInt x6))]) rfl dX12_ofResidue_184 (fun ls hl => ?_)
            refine ml_lload (pc := 186) X hl 0 rfl dX12_ofResidue_186 ?_
            refine ml_lload (pc := 188) X hl 5 rfl dX12_ofResidue_188 ?_
            refine ml_lcmp_ge (pc := 190) (tgt := 196) X q24 h_x4 dX12_ofResidue_190 dX12_ofResidue_191 (by decide) (fun c25 => ?_) (fun c25 => ?_)
            · have hw := hw.1 c25
              refine ml_aload_n (pc := 196) X hl 2 rfl rfl dX12_ofResidue_196 ?_
              refine ml_lload (pc := 197) X hl 0 rfl dX12_ofResidue_197 ?_
              refine pf_X12_334 (pc := 199) X (ml_c215 hn) q24 dX12_ofResidue_199 (fun σ26 g26 => ?_)
              have hw := hw σ26 g26
              refine ml_lconst1 (pc := 202) X dX12_ofResidue_202 ?_
              exact ml_lret (pc := 203) X ⟨by decide, by decide⟩ hw dX12_ofResidue_203
            · have hw := hw.2 c25
              refine ml_lconst0 (pc := 194) X dX12_ofResidue_194 ?_
              exact ml_lret (pc := 195) X ⟨by decide, by decide⟩ hw dX12_ofResidue_195
          · have hw := hw.2 c20
            exact u_X12_ofResidue_171 X hn σ1   _ (lv_sub hl [] rfl) hw
      · have hw := hw.2 c10
        exact u_X12_ofResidue_129 X hn σ1   _ (lv_sub hl [] rfl) hw
  · have hw := hw.2 c3
    refine ml_aload_n (pc := 14) X hl 0 rfl rfl dX12_ofResidue_14 ?_
    refine gf_X12_77 (pc := 15) X (ml_c215 hn) dX12_ofResidue_15 ?_
    refine ml_iload_n (pc := 18) X hl 1 rfl rfl dX12_ofResidue_18 ?_
    obtain ⟨a27, b27, hw⟩ := hw
    refine ml_lald (pc := 19) (N := 2900) X (ml_c236 hn) a27 b27 dX12_ofResidue_19 (fun r27 => ?_)
    have hw := hw r27
    refine ml_lload_n (pc := 20) X hl 2 rfl rfl dX12_ofResidue_20 ?_
    refine ml_lcmp_eq (pc := 21) (tgt := 27) X r27 h_x2 dX12_ofResidue_21 dX12_ofResidue_22 (by decide) (fun c28 => ?_) (fun c28 => ?_)
    · have hw := hw.1 c28
      refine ml_lload (pc := 27) X hl 3 rfl dX12_ofResidue_27 ?_
      refine ml_iload_n (pc := 29) X hl 1 rfl rfl dX12_ofResidue_29 ?_
      refine ml_i2l (pc := 30) X h_x1 dX12_ofResidue_30 ?_
      refine ml_lcmp_gt (pc := 31) (tgt := 40) X h_x4 (h_x1).l dX12_ofResidue_31 dX12_ofResidue_32 (by decide) (fun c29 => ?_) (fun c29 => ?_)
      · have hw := hw.1 c29
        refine ml_iload_n (pc := 40) X hl 1 rfl rfl dX12_ofResidue_40 ?_
        refine ml_i2l (pc := 41) X h_x1 dX12_ofResidue_41 ?_
        refine ml_lload (pc := 42) X hl 3 rfl dX12_ofResidue_42 ?_
        refine ml_iload_n (pc := 44) X hl 1 rfl rfl dX12_ofResidue_44 ?_
        refine ml_i2l (pc := 45) X h_x1 dX12_ofResidue_45 ?_
        refine ml_lsubW (pc := 46) X dX12_ofResidue_46 ?_
        refine ml_aload_n (pc := 47) X hl 0 rfl rfl dX12_ofResidue_47 ?_
        refine gf_X12_313 (pc := 48) X (ml_c215 hn) dX12_ofResidue_48 (fun r31 => ?_)
        have hw := hw r31
        refine ml_i2l (pc := 51) X r31 dX12_ofResidue_51 ?_
        refine ml_laddW (pc := 52) X dX12_ofResidue_52 ?_
        refine ml_lconst1 (pc := 53) X dX12_ofResidue_53 ?_
        refine ml_lsubW (pc := 54) X dX12_ofResidue_54 ?_
        refine ml_aload_n (pc := 55) X hl 0 rfl rfl dX12_ofResidue_55 ?_
        refine gf_X12_313 (pc := 56) X (ml_c215 hn) dX12_ofResidue_56 (fun r34 => ?_)
        have hw := hw r34
        refine ml_i2l (pc := 59) X r34 dX12_ofResidue_59 ?_
        obtain ⟨z35, hw⟩ := hw
        refine ml_ldivW (pc := 60) X (w64_r _) (r34).l z35 dX12_ofResidue_60 ?_
        refine ml_aload_n (pc := 61) X hl 0 rfl rfl dX12_ofResidue_61 ?_
        refine gf_X12_313 (pc := 62) X (ml_c215 hn) dX12_ofResidue_62 (fun r36 => ?_)
        have hw := hw r36
        refine ml_i2l (pc := 65) X r36 dX12_ofResidue_65 ?_
        refine ml_lmulW (pc := 66) X dX12_ofResidue_66 ?_
        refine ml_laddW (pc := 67) X dX12_ofResidue_67 ?_
        exact u_X12_ofResidue_68 X hn σ1 x6 (w64 (x1 + (w64 ((w64 (Int.tdiv (w64 ((w64 ((w64 (x4 - x1)) + (σ1 215 33))) - 1)) (σ1 215 33))) * (σ1 215 33))))) h_x6 (w64_r _) _ (lv_sub hl [0, 4] rfl) hw
      · have hw := hw.2 c29
        refine ml_iload_n (pc := 35) X hl 1 rfl rfl dX12_ofResidue_35 ?_
        refine ml_i2l (pc := 36) X h_x1 dX12_ofResidue_36 ?_
        refine ml_goto (pc := 37) (tgt := 68) X dX12_ofResidue_37 (by decide) ?_
        exact u_X12_ofResidue_68 X hn σ1 x6 x1 h_x6 (h_x1).l _ (lv_sub hl [0, 4] rfl) hw
    · have hw := hw.2 c28
      refine ml_lconst0 (pc := 25) X dX12_ofResidue_25 ?_
      exact ml_lret (pc := 26) X ⟨by decide, by decide⟩ hw dX12_ofResidue_26
set_option maxRecDepth 100000 in
theorem c_X12_ofResidue (l : Launch) (base : Nat) (D : va_G) (cA : Nat → ClassId) (n : Nat) (hn : 256 ≤ n) (σ : ml_St) (x1 : Int) (x2 : Int) (x4 : Int) (x6 : Int) (h_x1 : I32 x1) (h_x2 : I64 x2) (h_x4 : I64 x4) (h_x6 : I64 x6) (Q : Int → ml_St → Prop) (hw : f_X12_ofResidue σ x1 x2 x4 x6 Q) : Met l yX12_ofResidue (Cond.code yX12_ofResidue cX12_ofResidue 12 (some .long) :: ml_T) rm_X12_ofResidue (va_Pc [.ref (base + (215 : Int).toNat), .int (Int32.ofInt x1), .long (Int64.ofInt x2), .long (Int64.ofInt x4), .long (Int64.ofInt x6)] (ml_U base D cA n σ)) (ml_Ql base D cA n Q) 0 0 (ml_A base) := by
  refine Met.ofW (cc := cX12_ofResidue) (maxL := 12) (ret := (some .long)) (by decide) rfl ?_
  intro p e s m args below meth c s₁ B hml hv
  obtain ⟨rfl, hP, hK, hok, hro⟩ := hv
  have X : ml_X p s m c meth _ D cA cX12_ofResidue 12 RX12 (some .long) := ⟨B.exec, B.bytes, hml, findClass_of_methodNamed B.named, fun w hw => atoms_spec (ws := Cond.code yX12_ofResidue cX12_ofResidue 12 (some .long) :: ml_T) B.pre w (List.mem_cons_of_mem _ hw), hK, B.notSynchronized, B.returns⟩
  have hl := lv_entry [.ref (base + (215 : Int).toNat), .int (Int32.ofInt x1), .long (Int64.ofInt x2), .long (Int64.ofInt x4), .long (Int64.ofInt x6)] (n := 12) (Nat.le_of_ble_eq_true rfl)
  rw [lg_entry_eq]
  generalize (lg_sl [.ref (base + (215 : Int).toNat), .int (Int32.ofInt x1), .long (Int64.ofInt x2), .long (Int64.ofInt x4), .long (Int64.ofInt x6)] ++ List.replicate (12 - (lg_sl [.ref (base + (215 : Int).toNat), .int (Int32.ofInt x1), .long (Int64.ofInt x2), .long (Int64.ofInt x4), .long (Int64.ofInt x6)]).length) Slot.unset).toArray = ls at hl ⊢
  have hl : lv_has ls 12 [(0, .ref (base + (215 : Int).toNat)), (1, .int (Int32.ofInt x1)), (2, .long (Int64.ofInt x2)), (4, .long (Int64.ofInt x4)), (6, .long (Int64.ofInt x6))] := hl
  unfold f_X12_ofResidue at hw
  exact u_X12_ofResidue_0 X hn σ x1 x2 x4 x6 h_x1 h_x2 h_x4 h_x6 _ (lv_sub hl [0, 1, 2, 3, 4] rfl) hw s.heap [] hP va_S.rf hok hro
theorem dX12_thoseOf_0 : decode cX12_thoseOf 0 = .ok (.aload_n 0, 1) := by decide +kernel
theorem dX12_thoseOf_1 : decode cX12_thoseOf 1 = .ok (.iload_n 1, 1) := by decide +kernel
theorem dX12_thoseOf_2 : decode cX12_thoseOf 2 = .ok (.invokevirtual 322, 3) := by decide +kernel
theorem dX12_thoseOf_5 : decode cX12_thoseOf 5 = .ok (.lconst 0, 1) := by decide +kernel
theorem dX12_thoseOf_6 : decode cX12_thoseOf 6 = .ok (.lstore 8, 2) := by decide +kernel
theorem dX12_thoseOf_8 : decode cX12_thoseOf 8 = .ok (.aload_n 0, 1) := by decide +kernel
theorem dX12_thoseOf_9 : decode cX12_thoseOf 9 = .ok (.lconst 0, 1) := by decide +kernel
theorem dX12_thoseOf_10 : decode cX12_thoseOf 10 = .ok (.putfield 337, 3) := by decide +kernel
theorem dX12_thoseOf_13 : decode cX12_thoseOf 13 = .ok (.iconst 1, 1) := by decide +kernel
theorem dX12_thoseOf_14 : decode cX12_thoseOf 14 = .ok (.istore 10, 2) := by decide +kernel
theorem dX12_thoseOf_16 : decode cX12_thoseOf 16 = .ok (.iload 10, 2) := by decide +kernel
theorem dX12_thoseOf_18 : decode cX12_thoseOf 18 = .ok (.aload_n 0, 1) := by decide +kernel
theorem dX12_thoseOf_19 : decode cX12_thoseOf 19 = .ok (.getfield 307, 3) := by decide +kernel
theorem dX12_thoseOf_22 : decode cX12_thoseOf 22 = .ok (.if_icmp .ge 71, 3) := by decide +kernel
theorem dX12_thoseOf_25 : decode cX12_thoseOf 25 = .ok (.aload_n 0, 1) := by decide +kernel
theorem dX12_thoseOf_26 : decode cX12_thoseOf 26 = .ok (.getfield 77, 3) := by decide +kernel
theorem dX12_thoseOf_29 : decode cX12_thoseOf 29 = .ok (.iload 10, 2) := by decide +kernel
theorem dX12_thoseOf_31 : decode cX12_thoseOf 31 = .ok (.laload, 1) := by decide +kernel
theorem dX12_thoseOf_32 : decode cX12_thoseOf 32 = .ok (.lload_n 2, 1) := by decide +kernel
theorem dX12_thoseOf_33 : decode cX12_thoseOf 33 = .ok (.lcmp, 1) := by decide +kernel
theorem dX12_thoseOf_34 : decode cX12_thoseOf 34 = .ok (.ifCond .ne 53, 3) := by decide +kernel
theorem dX12_thoseOf_37 : decode cX12_thoseOf 37 = .ok (.iload 10, 2) := by decide +kernel
theorem dX12_thoseOf_39 : decode cX12_thoseOf 39 = .ok (.i2l, 1) := by decide +kernel
theorem dX12_thoseOf_40 : decode cX12_thoseOf 40 = .ok (.lload 4, 2) := by decide +kernel
theorem dX12_thoseOf_42 : decode cX12_thoseOf 42 = .ok (.lcmp, 1) := by decide +kernel
theorem dX12_thoseOf_43 : decode cX12_thoseOf 43 = .ok (.ifCond .lt 44, 3) := by decide +kernel
theorem dX12_thoseOf_46 : decode cX12_thoseOf 46 = .ok (.iload 10, 2) := by decide +kernel
theorem dX12_thoseOf_48 : decode cX12_thoseOf 48 = .ok (.i2l, 1) := by decide +kernel
theorem dX12_thoseOf_49 : decode cX12_thoseOf 49 = .ok (.lload 6, 2) := by decide +kernel
theorem dX12_thoseOf_51 : decode cX12_thoseOf 51 = .ok (.lcmp, 1) := by decide +kernel
theorem dX12_thoseOf_52 : decode cX12_thoseOf 52 = .ok (.ifCond .le 6, 3) := by decide +kernel
theorem dX12_thoseOf_55 : decode cX12_thoseOf 55 = .ok (.goto 32, 3) := by decide +kernel
theorem dX12_thoseOf_58 : decode cX12_thoseOf 58 = .ok (.lload 8, 2) := by decide +kernel
theorem dX12_thoseOf_60 : decode cX12_thoseOf 60 = .ok (.lconst 1, 1) := by decide +kernel
theorem dX12_thoseOf_61 : decode cX12_thoseOf 61 = .ok (.ladd, 1) := by decide +kernel
theorem dX12_thoseOf_62 : decode cX12_thoseOf 62 = .ok (.lstore 8, 2) := by decide +kernel
theorem dX12_thoseOf_64 : decode cX12_thoseOf 64 = .ok (.aload_n 0, 1) := by decide +kernel
theorem dX12_thoseOf_65 : decode cX12_thoseOf 65 = .ok (.aload_n 0, 1) := by decide +kernel
theorem dX12_thoseOf_66 : decode cX12_thoseOf 66 = .ok (.getfield 337, 3) := by decide +kernel
theorem dX12_thoseOf_69 : decode cX12_thoseOf 69 = .ok (.lconst 0, 1) := by decide +kernel
theorem dX12_thoseOf_70 : decode cX12_thoseOf 70 = .ok (.lcmp, 1) := by decide +kernel
theorem dX12_thoseOf_71 : decode cX12_thoseOf 71 = .ok (.ifCond .ne 9, 3) := by decide +kernel
theorem dX12_thoseOf_74 : decode cX12_thoseOf 74 = .ok (.iload 10, 2) := by decide +kernel
theorem dX12_thoseOf_76 : decode cX12_thoseOf 76 = .ok (.i2l, 1) := by decide +kernel
theorem dX12_thoseOf_77 : decode cX12_thoseOf 77 = .ok (.goto 7, 3) := by decide +kernel
theorem dX12_thoseOf_80 : decode cX12_thoseOf 80 = .ok (.aload_n 0, 1) := by decide +kernel
theorem dX12_thoseOf_81 : decode cX12_thoseOf 81 = .ok (.getfield 337, 3) := by decide +kernel
theorem dX12_thoseOf_84 : decode cX12_thoseOf 84 = .ok (.putfield 337, 3) := by decide +kernel
theorem dX12_thoseOf_87 : decode cX12_thoseOf 87 = .ok (.iinc 10 1, 3) := by decide +kernel
theorem dX12_thoseOf_90 : decode cX12_thoseOf 90 = .ok (.goto (-74), 3) := by decide +kernel
theorem dX12_thoseOf_93 : decode cX12_thoseOf 93 = .ok (.aload_n 0, 1) := by decide +kernel
theorem dX12_thoseOf_94 : decode cX12_thoseOf 94 = .ok (.getfield 307, 3) := by decide +kernel
theorem dX12_thoseOf_97 : decode cX12_thoseOf 97 = .ok (.istore 10, 2) := by decide +kernel
theorem dX12_thoseOf_99 : decode cX12_thoseOf 99 = .ok (.iload 10, 2) := by decide +kernel
theorem dX12_thoseOf_101 : decode cX12_thoseOf 101 = .ok (.aload_n 0, 1) := by decide +kernel
theorem dX12_thoseOf_102 : decode cX12_thoseOf 102 = .ok (.getfield 307, 3) := by decide +kernel
theorem dX12_thoseOf_105 : decode cX12_thoseOf 105 = .ok (.aload_n 0, 1) := by decide +kernel
theorem dX12_thoseOf_106 : decode cX12_thoseOf 106 = .ok (.getfield 313, 3) := by decide +kernel
theorem dX12_thoseOf_109 : decode cX12_thoseOf 109 = .ok (.iadd, 1) := by decide +kernel
theorem dX12_thoseOf_110 : decode cX12_thoseOf 110 = .ok (.if_icmp .ge 63, 3) := by decide +kernel
theorem dX12_thoseOf_113 : decode cX12_thoseOf 113 = .ok (.lload 8, 2) := by decide +kernel
theorem dX12_thoseOf_115 : decode cX12_thoseOf 115 = .ok (.aload_n 0, 1) := by decide +kernel
theorem dX12_thoseOf_116 : decode cX12_thoseOf 116 = .ok (.iload 10, 2) := by decide +kernel
theorem dX12_thoseOf_118 : decode cX12_thoseOf 118 = .ok (.lload_n 2, 1) := by decide +kernel
theorem dX12_thoseOf_119 : decode cX12_thoseOf 119 = .ok (.lload 4, 2) := by decide +kernel
theorem dX12_thoseOf_121 : decode cX12_thoseOf 121 = .ok (.lload 6, 2) := by decide +kernel
theorem dX12_thoseOf_123 : decode cX12_thoseOf 123 = .ok (.invokevirtual 340, 3) := by decide +kernel
theorem dX12_thoseOf_126 : decode cX12_thoseOf 126 = .ok (.ladd, 1) := by decide +kernel
theorem dX12_thoseOf_127 : decode cX12_thoseOf 127 = .ok (.lstore 8, 2) := by decide +kernel
theorem dX12_thoseOf_129 : decode cX12_thoseOf 129 = .ok (.aload_n 0, 1) := by decide +kernel
theorem dX12_thoseOf_130 : decode cX12_thoseOf 130 = .ok (.getfield 334, 3) := by decide +kernel
theorem dX12_thoseOf_133 : decode cX12_thoseOf 133 = .ok (.lconst 0, 1) := by decide +kernel
theorem dX12_thoseOf_134 : decode cX12_thoseOf 134 = .ok (.lcmp, 1) := by decide +kernel
theorem dX12_thoseOf_135 : decode cX12_thoseOf 135 = .ok (.ifCond .le 32, 3) := by decide +kernel
theorem dX12_thoseOf_138 : decode cX12_thoseOf 138 = .ok (.aload_n 0, 1) := by decide +kernel
theorem dX12_thoseOf_139 : decode cX12_thoseOf 139 = .ok (.getfield 337, 3) := by decide +kernel
theorem dX12_thoseOf_142 : decode cX12_thoseOf 142 = .ok (.lconst 0, 1) := by decide +kernel
theorem dX12_thoseOf_143 : decode cX12_thoseOf 143 = .ok (.lcmp, 1) := by decide +kernel
theorem dX12_thoseOf_144 : decode cX12_thoseOf 144 = .ok (.ifCond .eq 15, 3) := by decide +kernel
theorem dX12_thoseOf_147 : decode cX12_thoseOf 147 = .ok (.aload_n 0, 1) := by decide +kernel
theorem dX12_thoseOf_148 : decode cX12_thoseOf 148 = .ok (.getfield 334, 3) := by decide +kernel
theorem dX12_thoseOf_151 : decode cX12_thoseOf 151 = .ok (.aload_n 0, 1) := by decide +kernel
theorem dX12_thoseOf_152 : decode cX12_thoseOf 152 = .ok (.getfield 337, 3) := by decide +kernel
theorem dX12_thoseOf_155 : decode cX12_thoseOf 155 = .ok (.lcmp, 1) := by decide +kernel
theorem dX12_thoseOf_156 : decode cX12_thoseOf 156 = .ok (.ifCond .ge 11, 3) := by decide +kernel
theorem dX12_thoseOf_159 : decode cX12_thoseOf 159 = .ok (.aload_n 0, 1) := by decide +kernel
theorem dX12_thoseOf_160 : decode cX12_thoseOf 160 = .ok (.aload_n 0, 1) := by decide +kernel
theorem dX12_thoseOf_161 : decode cX12_thoseOf 161 = .ok (.getfield 334, 3) := by decide +kernel
theorem dX12_thoseOf_164 : decode cX12_thoseOf 164 = .ok (.putfield 337, 3) := by decide +kernel
theorem dX12_thoseOf_167 : decode cX12_thoseOf 167 = .ok (.iinc 10 1, 3) := by decide +kernel
theorem dX12_thoseOf_170 : decode cX12_thoseOf 170 = .ok (.goto (-71), 3) := by decide +kernel
theorem dX12_thoseOf_173 : decode cX12_thoseOf 173 = .ok (.lload 8, 2) := by decide +kernel
theorem dX12_thoseOf_175 : decode cX12_thoseOf 175 = .ok (.lreturn, 1) := by decide +kernel
def f_X12_thoseOf_u87 (Q : Int → ml_St → Prop) (K16 : ml_St → Int → Int → Int → Int → Int → Prop) (σ : ml_St) (x2 : Int) (x4 : Int) (x6 : Int) (x8 : Int) (x10 : Int) : Prop :=
I32 (x10 + 1) ∧
∀ y1 : Int, y1 = x10 + 1 →
K16 σ x2 x4 x6 x8 y1
def f_X12_thoseOf_u84 (Q : Int → ml_St → Prop) (K16 : ml_St → Int → Int → Int → Int → Int → Prop) (σ : ml_St) (x2 : Int) (x4 : Int) (x6 : Int) (x8 : Int) (x10 : Int) (s1 : Int) : Prop :=
∀ σ1, σ1 = ml_up σ 215 37 s1 →
f_X12_thoseOf_u87 Q K16 σ1 x2 x4 x6 x8 x10
def f_X12_thoseOf_u16 (Q : Int → ml_St → Prop) (K93 : ml_St → Int → Int → Int → Int → Prop) : Nat → ml_St → Int → Int → Int → Int → Int → Prop
| 0, _, _, _, _, _, _ => False
| N + 1, σ, x2, x4, x6, x8, x10 =>
∀ _ : I32 (σ 215 32),
((σ 215 32) ≤ x10 →
K93 σ x2 x4 x6 x8) ∧
(¬ ((σ 215 32) ≤ x10) →
(0 : Int) ≤ x10 ∧ (x10 : Int) < 2900 ∧
∀ _ : I64 (σ 236 x10),
((σ 236 x10) ≠ x2 →
f_X12_thoseOf_u87 Q (f_X12_thoseOf_u16 Q K93 N) σ x2 x4 x6 x8 x10) ∧
((σ 236 x10) = x2 →
(x10 < x4 →
f_X12_thoseOf_u87 Q (f_X12_thoseOf_u16 Q K93 N) σ x2 x4 x6 x8 x10) ∧
(¬ (x10 < x4) →
(x10 ≤ x6 →
∀ y8 : Int, y8 = w64 (x8 + 1) →
∀ _ : I64 (σ 215 37),
(((σ 215 37) : Int) ≠ 0 →
∀ _ : I64 (σ 215 37),
f_X12_thoseOf_u84 Q (f_X12_thoseOf_u16 Q K93 N) σ x2 x4 x6 y8 x10 (σ 215 37)) ∧
((σ 215 37) = 0 →
f_X12_thoseOf_u84 Q (f_X12_thoseOf_u16 Q K93 N) σ x2 x4 x6 y8 x10 x10)) ∧
(¬ (x10 ≤ x6) →
f_X12_thoseOf_u87 Q (f_X12_thoseOf_u16 Q K93 N) σ x2 x4 x6 x8 x10))))
def f_X12_thoseOf_u167 (Q : Int → ml_St → Prop) (K99 : ml_St → Int → Int → Int → Int → Int → Prop) (σ : ml_St) (x2 : Int) (x4 : Int) (x6 : Int) (x8 : Int) (x10 : Int) : Prop :=
I32 (x10 + 1) ∧
∀ y1 : Int, y1 = x10 + 1 →
K99 σ x2 x4 x6 x8 y1
def f_X12_thoseOf_u159 (Q : Int → ml_St → Prop) (K99 : ml_St → Int → Int → Int → Int → Int → Prop) (σ : ml_St) (x2 : Int) (x4 : Int) (x6 : Int) (x8 : Int) (x10 : Int) : Prop :=
∀ _ : I64 (σ 215 36),
∀ σ2, σ2 = ml_up σ 215 37 (σ 215 36) →
f_X12_thoseOf_u167 Q K99 σ2 x2 x4 x6 x8 x10
def f_X12_thoseOf_u99 (Q : Int → ml_St → Prop) (K173 : ml_St → Int → Prop) : Nat → ml_St → Int → Int → Int → Int → Int → Prop
| 0, _, _, _, _, _, _ => False
| N + 1, σ, x2, x4, x6, x8, x10 =>
∀ _ : I32 (σ 215 32),
∀ _ : I32 (σ 215 33),
I32 ((σ 215 32) + (σ 215 33)) ∧
(((σ 215 32) + (σ 215 33)) ≤ x10 →
K173 σ x8) ∧
(¬ (((σ 215 32) + (σ 215 33)) ≤ x10) →
f_X12_ofResidue σ x10 x2 x4 x6 (fun r5 σ5 => ∀ _ : I64 r5,
∀ y7 : Int, y7 = w64 (x8 + r5) →
∀ _ : I64 (σ5 215 36),
(((σ5 215 36) : Int) ≤ 0 →
f_X12_thoseOf_u167 Q (f_X12_thoseOf_u99 Q K173 N) σ5 x2 x4 x6 y7 x10) ∧
(¬ (((σ5 215 36) : Int) ≤ 0) →
∀ _ : I64 (σ5 215 37),
(((σ5 215 37) : Int) = 0 →
f_X12_thoseOf_u159 Q (f_X12_thoseOf_u99 Q K173 N) σ5 x2 x4 x6 y7 x10) ∧
((σ5 215 37) ≠ 0 →
∀ _ : I64 (σ5 215 36),
∀ _ : I64 (σ5 215 37),
((σ5 215 37) ≤ ((σ5 215 36) : Int) →
f_X12_thoseOf_u167 Q (f_X12_thoseOf_u99 Q K173 N) σ5 x2 x4 x6 y7 x10) ∧
(¬ ((σ5 215 37) ≤ ((σ5 215 36) : Int)) →
f_X12_thoseOf_u159 Q (f_X12_thoseOf_u99 Q K173 N) σ5 x2 x4 x6 y7 x10)))))
def f_X12_thoseOf_u173 (Q : Int → ml_St → Prop) (σ : ml_St) (x8 : Int) : Prop :=
Q x8 σ
def f_X12_thoseOf_u93 (Q : Int → ml_St → Prop) (σ : ml_St) (x2 : Int) (x4 : Int) (x6 : Int) (x8 : Int) : Prop :=
∀ _ : I32 (σ 215 32),
∀ y2 : Int, y2 = σ 215 32 →
∃ N1, f_X12_thoseOf_u99 Q (f_X12_thoseOf_u173 Q) N1 σ x2 x4 x6 x8 y2
def f_X12_thoseOf_u0 (Q : Int → ml_St → Prop) (σ : ml_St) (x1 : Int) (x2 : Int) (x4 : Int) (x6 : Int) : Prop :=
f_X12_powers σ x1 (fun σ1 =>
∀ σ2, σ2 = ml_up σ1 215 37 0 →
∃ N1, f_X12_thoseOf_u16 Q (f_X12_thoseOf_u93 Q) N1 σ2 x2 x4 x6 0 1)
def f_X12_thoseOf (σ : ml_St) (x1 : Int) (x2 : Int) (x4 : Int) (x6 : Int) (Q : Int → ml_St → Prop) : Prop := f_X12_thoseOf_u0 Q σ x1 x2 x4 x6
def rm_X12_thoseOf : Room := { frames := 3, cells := 0, slots := 0, locals := 76 }
set_option maxRecDepth 100000 in
set_option maxHeartbeats 4000000 in
theorem u_X12_thoseOf_87 {p : Program} {e : Env} {s : State} {m : MethodId} {args : Array Value} {below : List Frame} {meth : Method} {c : Code} {base : Nat} {D : va_G} {cA : Nat → ClassId} {n : Nat} {l : Launch} {Q : Int → ml_St → Prop} {K16 : ml_St → Int → Int → Int → Int → Int → Prop} (X : ml_X p s m c meth args D cA cX12_thoseOf 11 RX12 (some .long)) (hn : 256 ≤ n) (hK16 : ∀ (σ : ml_St) (x2 : Int) (x4 : Int) (x6 : Int) (x8 : Int) (x10 : Int) (h_x2 : I64 x2) (h_x4 : I64 x4) (h_x6 : I64 x6) (h_x8 : I64 x8) (h_x10 : I32 x10) (ls : Array Slot), lv_has ls 11 [(0, .ref (base + (215 : Int).toNat)), (2, .long (Int64.ofInt x2)), (4, .long (Int64.ofInt x4)), (6, .long (Int64.ofInt x6)), (8, .long (Int64.ofInt x8)), (10, .int (Int32.ofInt x10))] → K16 σ x2 x4 x6 x8 x10 → ml_V p l e rm_X12_thoseOf s m args below meth c (MQ below (ml_Ql base D cA n Q) args s 0 0 (ml_A base)) base D cA 0 0 n n σ (F0 m 16 ls [])) (σ : ml_St) (x2 : Int) (x4 : Int) (x6 : Int) (x8 : Int) (x10 : Int) (h_x2 : I64 x2) (h_x4 : I64 x4) (h_x6 : I64 x6) (h_x8 : I64 x8) (h_x10 : I32 x10) (ls : Array Slot) (hl : lv_has ls 11 [(0, .ref (base + (215 : Int).toNat)), (2, .long (Int64.ofInt x2)), (4, .long (Int64.ofInt x4)), (6, .long (Int64.ofInt x6)), (8, .long (Int64.ofInt x8)), (10, .int (Int32.ofInt x10))]) (hw : f_X12_thoseOf_u87 Q K16 σ x2 x4 x6 x8 x10) : ml_V p l e rm_X12_thoseOf s m args below meth c (MQ below (ml_Ql base D cA n Q) args s 0 0 (ml_A base)) base D cA 0 0 n n σ (F0 m 87 ls []) := by
  unfold f_X12_thoseOf_u87 at hw
  obtain ⟨v1, hw⟩ := hw
  obtain ⟨y1, e1⟩ : ∃ y : Int, y = x10 + 1 := ⟨_, rfl⟩
  have hw := hw y1 e1
  rw [← e1] at v1
  refine ml_iinc (pc := 87) X e1 hl 5 rfl (by decide) (lst' := [(10, .int (Int32.ofInt y1)), (0, .ref (base + (215 : Int).toNat)), (2, .long (Int64.ofInt x2)), (4, .long (Int64.ofInt x4)), (6, .long (Int64.ofInt x6)), (8, .long (Int64.ofInt x8))]) rfl dX12_thoseOf_87 (fun ls hl => ?_)
  refine ml_goto (pc := 90) (tgt := 16) X dX12_thoseOf_90 (by decide) ?_
  exact hK16 σ x2 x4 x6 x8 y1 h_x2 h_x4 h_x6 h_x8 v1 _ (lv_sub hl [1, 2, 3, 4, 5, 0] rfl) hw
set_option maxRecDepth 100000 in
set_option maxHeartbeats 4000000 in
theorem u_X12_thoseOf_84 {p : Program} {e : Env} {s : State} {m : MethodId} {args : Array Value} {below : List Frame} {meth : Method} {c : Code} {base : Nat} {D : va_G} {cA : Nat → ClassId} {n : Nat} {l : Launch} {Q : Int → ml_St → Prop} {K16 : ml_St → Int → Int → Int → Int → Int → Prop} (X : ml_X p s m c meth args D cA cX12_thoseOf 11 RX12 (some .long)) (hn : 256 ≤ n) (hK16 : ∀ (σ : ml_St) (x2 : Int) (x4 : Int) (x6 : Int) (x8 : Int) (x10 : Int) (h_x2 : I64 x2) (h_x4 : I64 x4) (h_x6 : I64 x6) (h_x8 : I64 x8) (h_x10 : I32 x10) (ls : Array Slot), lv_has ls 11 [(0, .ref (base + (215 : Int).toNat)), (2, .long (Int64.ofInt x2)), (4, .long (Int64.ofInt x4)), (6, .long (Int64.ofInt x6)), (8, .long (Int64.ofInt x8)), (10, .int (Int32.ofInt x10))] → K16 σ x2 x4 x6 x8 x10 → ml_V p l e rm_X12_thoseOf s m args below meth c (MQ below (ml_Ql base D cA n Q) args s 0 0 (ml_A base)) base D cA 0 0 n n σ (F0 m 16 ls [])) (σ : ml_St) (x2 : Int) (x4 : Int) (x6 : Int) (x8 : Int) (x10 : Int) (s1 : Int) (h_x2 : I64 x2) (h_x4 : I64 x4) (h_x6 : I64 x6) (h_x8 : I64 x8) (h_x10 : I32 x10) (h_s1 : I64 s1) (ls : Array Slot) (hl : lv_has ls 11 [(0, .ref (base + (215 : Int).toNat)), (2, .long (Int64.ofInt x2)), (4, .long (Int64.ofInt x4)), (6, .long (Int64.ofInt x6)), (8, .long (Int64.ofInt x8)), (10, .int (Int32.ofInt x10))]) (hw : f_X12_thoseOf_u84 Q K16 σ x2 x4 x6 x8 x10 s1) : ml_V p l e rm_X12_thoseOf s m args below meth c (MQ below (ml_Ql base D cA n Q) args s 0 0 (ml_A base)) base D cA 0 0 n n σ (F0 m 84 ls [.long (Int64.ofInt s1), .ref (base + (215 : Int).toNat)]) := by
  unfold f_X12_thoseOf_u84 at hw
  refine pf_X12_337 (pc := 84) X (ml_c215 hn) h_s1 dX12_thoseOf_84 (fun σ1 g1 => ?_)
  have hw := hw σ1 g1
  exact u_X12_thoseOf_87 X hn hK16 σ1 x2 x4 x6 x8 x10 h_x2 h_x4 h_x6 h_x8 h_x10 _ (lv_sub hl [0, 1, 2, 3, 4, 5] rfl) hw
set_option maxRecDepth 100000 in
set_option maxHeartbeats 4000000 in
theorem u_X12_thoseOf_16 {p : Program} {e : Env} {s : State} {m : MethodId} {args : Array Value} {below : List Frame} {meth : Method} {c : Code} {base : Nat} {D : va_G} {cA : Nat → ClassId} {n : Nat} {l : Launch} {Q : Int → ml_St → Prop} {K93 : ml_St → Int → Int → Int → Int → Prop} (X : ml_X p s m c meth args D cA cX12_thoseOf 11 RX12 (some .long)) (hn : 256 ≤ n) (hK93 : ∀ (σ : ml_St) (x2 : Int) (x4 : Int) (x6 : Int) (x8 : Int) (h_x2 : I64 x2) (h_x4 : I64 x4) (h_x6 : I64 x6) (h_x8 : I64 x8) (ls : Array Slot), lv_has ls 11 [(0, .ref (base + (215 : Int).toNat)), (2, .long (Int64.ofInt x2)), (4, .long (Int64.ofInt x4)), (6, .long (Int64.ofInt x6)), (8, .long (Int64.ofInt x8))] → K93 σ x2 x4 x6 x8 → ml_V p l e rm_X12_thoseOf s m args below meth c (MQ below (ml_Ql base D cA n Q) args s 0 0 (ml_A base)) base D cA 0 0 n n σ (F0 m 93 ls [])) : ∀ (N : Nat) (σ : ml_St) (x2 : Int) (x4 : Int) (x6 : Int) (x8 : Int) (x10 : Int) (h_x2 : I64 x2) (h_x4 : I64 x4) (h_x6 : I64 x6) (h_x8 : I64 x8) (h_x10 : I32 x10) (ls : Array Slot), lv_has ls 11 [(0, .ref (base + (215 : Int).toNat)), (2, .long (Int64.ofInt x2)), (4, .long (Int64.ofInt x4)), (6, .long (Int64.ofInt x6)), (8, .long (Int64.ofInt x8)), (10, .int (Int32.ofInt x10))] → f_X12_thoseOf_u16 Q K93 N σ x2 x4 x6 x8 x10 → ml_V p l e rm_X12_thoseOf s m args below meth c (MQ below (ml_Ql base D cA n Q) args s 0 0 (ml_A base)) base D cA 0 0 n n σ (F0 m 16 ls []) := by
  intro N
  induction N with
  | zero => intro σ x2 x4 x6 x8 x10 h_x2 h_x4 h_x6 h_x8 h_x10 ls hl hw; exact False.elim hw
  | succ N ih =>
    intro σ x2 x4 x6 x8 x10 h_x2 h_x4 h_x6 h_x8 h_x10 ls hl hw
    unfold f_X12_thoseOf_u16 at hw
    refine ml_iload (pc := 16) X hl 5 rfl dX12_thoseOf_16 ?_
    refine ml_aload_n (pc := 18) X hl 0 rfl rfl dX12_thoseOf_18 ?_
    refine gf_X12_307 (pc := 19) X (ml_c215 hn) dX12_thoseOf_19 (fun r1 => ?_)
    have hw := hw r1
    refine ml_icmp_ge (pc := 22) (tgt := 93) X h_x10 r1 dX12_thoseOf_22 (by decide) (fun c2 => ?_) (fun c2 => ?_)
    · have hw := hw.1 c2
      exact hK93 σ x2 x4 x6 x8 h_x2 h_x4 h_x6 h_x8 _ (lv_sub hl [0, 1, 2, 3, 4] rfl) hw
    · have hw := hw.2 c2
      refine ml_aload_n (pc := 25) X hl 0 rfl rfl dX12_thoseOf_25 ?_
      refine gf_X12_77 (pc := 26) X (ml_c215 hn) dX12_thoseOf_26 ?_
      refine ml_iload (pc := 29) X hl 5 rfl dX12_thoseOf_29 ?_
      obtain ⟨a3, b3, hw⟩ := hw
      refine ml_lald (pc := 31) (N := 2900) X (ml_c236 hn) a3 b3 dX12_thoseOf_31 (fun r3 => ?_)
      have hw := hw r3
      refine ml_lload_n (pc := 32) X hl 1 rfl rfl dX12_thoseOf_32 ?_
      refine ml_lcmp_ne (pc := 33) (tgt := 87) X r3 h_x2 dX12_thoseOf_33 dX12_thoseOf_34 (by decide) (fun c4 => ?_) (fun c4 => ?_)
      · have hw := hw.1 c4
        exact u_X12_thoseOf_87 X hn ih σ x2 x4 x6 x8 x10 h_x2 h_x4 h_x6 h_x8 h_x10 _ (lv_sub hl [0, 1, 2, 3, 4, 5] rfl) hw
      · have hw := hw.2 c4
        refine ml_iload (pc := 37) X hl 5 rfl dX12_thoseOf_37 ?_
        refine ml_i2l (pc := 39) X h_x10 dX12_thoseOf_39 ?_
        refine ml_lload (pc := 40) X hl 2 rfl dX12_thoseOf_40 ?_
        refine ml_lcmp_lt (pc := 42) (tgt := 87) X (h_x10).l h_x4 dX12_thoseOf_42 dX12_thoseOf_43 (by decide) (fun c5 => ?_) (fun c5 => ?_)
        · have hw := hw.1 c5
          exact u_X12_thoseOf_87 X hn ih σ x2 x4 x6 x8 x10 h_x2 h_x4 h_x6 h_x8 h_x10 _ (lv_sub hl [0, 1, 2, 3, 4, 5] rfl) hw
        · have hw := hw.2 c5
          refine ml_iload (pc := 46) X hl 5 rfl dX12_thoseOf_46 ?_
          refine ml_i2l (pc := 48) X h_x10 dX12_thoseOf_48 ?_
          refine ml_lload (pc := 49) X hl 3 rfl dX12_thoseOf_49 ?_
          refine ml_lcmp_le (pc := 51) (tgt := 58) X (h_x10).l h_x6 dX12_thoseOf_51 dX12_thoseOf_52 (by decide) (fun c6 => ?_) (fun c6 => ?_)
          · have hw := hw.1 c6
            refine ml_lload (pc := 58) X hl 4 rfl dX12_thoseOf_58 ?_
            refine ml_lconst1 (pc := 60) X dX12_thoseOf_60 ?_
            refine ml_laddW (pc := 61) X dX12_thoseOf_61 ?_
            refine ml_topL (pc := 62) (fun y8 e8 => ?_)
            have hw := hw y8 e8
            have q8 : I64 y8 := by rw [e8]; exact (w64_r _)
            refine ml_lstore (pc := 62) X hl (by decide) (lst' := [(8, .long (Int64.ofInt y8)), (0, .ref (base + (215 : Int).toNat)), (2, .long (Int64.ofInt x2)), (4, .long (Int64.ofInt x4)), (6, .long (Int64.ofInt x6)), (10, .int (Int32.ofInt x10))]) rfl dX12_thoseOf_62 (fun ls hl => ?_)
            refine ml_aload_n (pc := 64) X hl 1 rfl rfl dX12_thoseOf_64 ?_
            refine ml_aload_n (pc := 65) X hl 1 rfl rfl dX12_thoseOf_65 ?_
            refine gf_X12_337 (pc := 66) X (ml_c215 hn) dX12_thoseOf_66 (fun r9 => ?_)
            have hw := hw r9
            refine ml_lconst0 (pc := 69) X dX12_thoseOf_69 ?_
            refine ml_lcmp_ne (pc := 70) (tgt := 80) X r9 ⟨by decide, by decide⟩ dX12_thoseOf_70 dX12_thoseOf_71 (by decide) (fun c10 => ?_) (fun c10 => ?_)
            · have hw := hw.1 c10
              refine ml_aload_n (pc := 80) X hl 1 rfl rfl dX12_thoseOf_80 ?_
              refine gf_X12_337 (pc := 81) X (ml_c215 hn) dX12_thoseOf_81 (fun r11 => ?_)
              have hw := hw r11
              exact u_X12_thoseOf_84 X hn ih σ x2 x4 x6 y8 x10 (σ 215 37) h_x2 h_x4 h_x6 q8 h_x10 r11 _ (lv_sub hl [1, 2, 3, 4, 0, 5] rfl) hw
            · have hw := hw.2 c10
              refine ml_iload (pc := 74) X hl 5 rfl dX12_thoseOf_74 ?_
              refine ml_i2l (pc := 76) X h_x10 dX12_thoseOf_76 ?_
              refine ml_goto (pc := 77) (tgt := 84) X dX12_thoseOf_77 (by decide) ?_
              exact u_X12_thoseOf_84 X hn ih σ x2 x4 x6 y8 x10 x10 h_x2 h_x4 h_x6 q8 h_x10 (h_x10).l _ (lv_sub hl [1, 2, 3, 4, 0, 5] rfl) hw
          · have hw := hw.2 c6
            refine ml_goto (pc := 55) (tgt := 87) X dX12_thoseOf_55 (by decide) ?_
            exact u_X12_thoseOf_87 X hn ih σ x2 x4 x6 x8 x10 h_x2 h_x4 h_x6 h_x8 h_x10 _ (lv_sub hl [0, 1, 2, 3, 4, 5] rfl) hw
set_option maxRecDepth 100000 in
set_option maxHeartbeats 4000000 in
theorem u_X12_thoseOf_167 {p : Program} {e : Env} {s : State} {m : MethodId} {args : Array Value} {below : List Frame} {meth : Method} {c : Code} {base : Nat} {D : va_G} {cA : Nat → ClassId} {n : Nat} {l : Launch} {Q : Int → ml_St → Prop} {K99 : ml_St → Int → Int → Int → Int → Int → Prop} (X : ml_X p s m c meth args D cA cX12_thoseOf 11 RX12 (some .long)) (hn : 256 ≤ n) (hK99 : ∀ (σ : ml_St) (x2 : Int) (x4 : Int) (x6 : Int) (x8 : Int) (x10 : Int) (h_x2 : I64 x2) (h_x4 : I64 x4) (h_x6 : I64 x6) (h_x8 : I64 x8) (h_x10 : I32 x10) (ls : Array Slot), lv_has ls 11 [(0, .ref (base + (215 : Int).toNat)), (2, .long (Int64.ofInt x2)), (4, .long (Int64.ofInt x4)), (6, .long (Int64.ofInt x6)), (8, .long (Int64.ofInt x8)), (10, .int (Int32.ofInt x10))] → K99 σ x2 x4 x6 x8 x10 → ml_V p l e rm_X12_thoseOf s m args below meth c (MQ below (ml_Ql base D cA n Q) args s 0 0 (ml_A base)) base D cA 0 0 n n σ (F0 m 99 ls [])) (σ : ml_St) (x2 : Int) (x4 : Int) (x6 : Int) (x8 : Int) (x10 : Int) (h_x2 : I64 x2) (h_x4 : I64 x4) (h_x6 : I64 x6) (h_x8 : I64 x8) (h_x10 : I32 x10) (ls : Array Slot) (hl : lv_has ls 11 [(0, .ref (base + (215 : Int).toNat)), (2, .long (Int64.ofInt x2)), (4, .long (Int64.ofInt x4)), (6, .long (Int64.ofInt x6)), (8, .long (Int64.ofInt x8)), (10, .int (Int32.ofInt x10))]) (hw : f_X12_thoseOf_u167 Q K99 σ x2 x4 x6 x8 x10) : ml_V p l e rm_X12_thoseOf s m args below meth c (MQ below (ml_Ql base D cA n Q) args s 0 0 (ml_A base)) base D cA 0 0 n n σ (F0 m 167 ls []) := by
  unfold f_X12_thoseOf_u167 at hw
  obtain ⟨v1, hw⟩ := hw
  obtain ⟨y1, e1⟩ : ∃ y : Int, y = x10 + 1 := ⟨_, rfl⟩
  have hw := hw y1 e1
  rw [← e1] at v1
  refine ml_iinc (pc := 167) X e1 hl 5 rfl (by decide) (lst' := [(10, .int (Int32.ofInt y1)), (0, .ref (base + (215 : Int).toNat)), (2, .long (Int64.ofInt x2)), (4, .long (Int64.ofInt x4)), (6, .long (Int64.ofInt x6)), (8, .long (Int64.ofInt x8))]) rfl dX12_thoseOf_167 (fun ls hl => ?_)
  refine ml_goto (pc := 170) (tgt := 99) X dX12_thoseOf_170 (by decide) ?_
  exact hK99 σ x2 x4 x6 x8 y1 h_x2 h_x4 h_x6 h_x8 v1 _ (lv_sub hl [1, 2, 3, 4, 5, 0] rfl) hw
set_option maxRecDepth 100000 in
set_option maxHeartbeats 4000000 in
theorem u_X12_thoseOf_159 {p : Program} {e : Env} {s : State} {m : MethodId} {args : Array Value} {below : List Frame} {meth : Method} {c : Code} {base : Nat} {D : va_G} {cA : Nat → ClassId} {n : Nat} {l : Launch} {Q : Int → ml_St → Prop} {K99 : ml_St → Int → Int → Int → Int → Int → Prop} (X : ml_X p s m c meth args D cA cX12_thoseOf 11 RX12 (some .long)) (hn : 256 ≤ n) (hK99 : ∀ (σ : ml_St) (x2 : Int) (x4 : Int) (x6 : Int) (x8 : Int) (x10 : Int) (h_x2 : I64 x2) (h_x4 : I64 x4) (h_x6 : I64 x6) (h_x8 : I64 x8) (h_x10 : I32 x10) (ls : Array Slot), lv_has ls 11 [(0, .ref (base + (215 : Int).toNat)), (2, .long (Int64.ofInt x2)), (4, .long (Int64.ofInt x4)), (6, .long (Int64.ofInt x6)), (8, .long (Int64.ofInt x8)), (10, .int (Int32.ofInt x10))] → K99 σ x2 x4 x6 x8 x10 → ml_V p l e rm_X12_thoseOf s m args below meth c (MQ below (ml_Ql base D cA n Q) args s 0 0 (ml_A base)) base D cA 0 0 n n σ (F0 m 99 ls [])) (σ : ml_St) (x2 : Int) (x4 : Int) (x6 : Int) (x8 : Int) (x10 : Int) (h_x2 : I64 x2) (h_x4 : I64 x4) (h_x6 : I64 x6) (h_x8 : I64 x8) (h_x10 : I32 x10) (ls : Array Slot) (hl : lv_has ls 11 [(0, .ref (base + (215 : Int).toNat)), (2, .long (Int64.ofInt x2)), (4, .long (Int64.ofInt x4)), (6, .long (Int64.ofInt x6)), (8, .long (Int64.ofInt x8)), (10, .int (Int32.ofInt x10))]) (hw : f_X12_thoseOf_u159 Q K99 σ x2 x4 x6 x8 x10) : ml_V p l e rm_X12_thoseOf s m args below meth c (MQ below (ml_Ql base D cA n Q) args s 0 0 (ml_A base)) base D cA 0 0 n n σ (F0 m 159 ls []) := by
  unfold f_X12_thoseOf_u159 at hw
  refine ml_aload_n (pc := 159) X hl 0 rfl rfl dX12_thoseOf_159 ?_
  refine ml_aload_n (pc := 160) X hl 0 rfl rfl dX12_thoseOf_160 ?_
  refine gf_X12_334 (pc := 161) X (ml_c215 hn) dX12_thoseOf_161 (fun r1 => ?_)
  have hw := hw r1
  refine pf_X12_337 (pc := 164) X (ml_c215 hn) r1 dX12_thoseOf_164 (fun σ2 g2 => ?_)
  have hw := hw σ2 g2
  exact u_X12_thoseOf_167 X hn hK99 σ2 x2 x4 x6 x8 x10 h_x2 h_x4 h_x6 h_x8 h_x10 _ (lv_sub hl [0, 1, 2, 3, 4, 5] rfl) hw
set_option maxRecDepth 100000 in
set_option maxHeartbeats 4000000 in
theorem u_X12_thoseOf_99 {p : Program} {e : Env} {s : State} {m : MethodId} {args : Array Value} {below : List Frame} {meth : Method} {c : Code} {base : Nat} {D : va_G} {cA : Nat → ClassId} {n : Nat} {l : Launch} {Q : Int → ml_St → Prop} {K173 : ml_St → Int → Prop} (X : ml_X p s m c meth args D cA cX12_thoseOf 11 RX12 (some .long)) (hn : 256 ≤ n) (hK173 : ∀ (σ : ml_St) (x8 : Int) (h_x8 : I64 x8) (ls : Array Slot), lv_has ls 11 [(8, .long (Int64.ofInt x8))] → K173 σ x8 → ml_V p l e rm_X12_thoseOf s m args below meth c (MQ below (ml_Ql base D cA n Q) args s 0 0 (ml_A base)) base D cA 0 0 n n σ (F0 m 173 ls [])) : ∀ (N : Nat) (σ : ml_St) (x2 : Int) (x4 : Int) (x6 : Int) (x8 : Int) (x10 : Int) (h_x2 : I64 x2) (h_x4 : I64 x4) (h_x6 : I64 x6) (h_x8 : I64 x8) (h_x10 : I32 x10) (ls : Array Slot), lv_has ls 11 [(0, .ref (base + (215 : Int).toNat)), (2, .long (Int64.ofInt x2)), (4, .long (Int64.ofInt x4)), (6, .long (Int64.ofInt x6)), (8, .long (Int64.ofInt x8)), (10, .int (Int32.ofInt x10))] → f_X12_thoseOf_u99 Q K173 N σ x2 x4 x6 x8 x10 → ml_V p l e rm_X12_thoseOf s m args below meth c (MQ below (ml_Ql base D cA n Q) args s 0 0 (ml_A base)) base D cA 0 0 n n σ (F0 m 99 ls []) := by
  intro N
  induction N with
  | zero => intro σ x2 x4 x6 x8 x10 h_x2 h_x4 h_x6 h_x8 h_x10 ls hl hw; exact False.elim hw
  | succ N ih =>
    intro σ x2 x4 x6 x8 x10 h_x2 h_x4 h_x6 h_x8 h_x10 ls hl hw
    unfold f_X12_thoseOf_u99 at hw
    refine ml_iload (pc := 99) X hl 5 rfl dX12_thoseOf_99 ?_
    refine ml_aload_n (pc := 101) X hl 0 rfl rfl dX12_thoseOf_101 ?_
    refine gf_X12_307 (pc := 102) X (ml_c215 hn) dX12_thoseOf_102 (fun r1 => ?_)
    have hw := hw r1
    refine ml_aload_n (pc := 105) X hl 0 rfl rfl dX12_thoseOf_105 ?_
    refine gf_X12_313 (pc := 106) X (ml_c215 hn) dX12_thoseOf_106 (fun r2 => ?_)
    have hw := hw r2
    obtain ⟨v3, hw⟩ := hw
    refine ml_iadd (pc := 109) X dX12_thoseOf_109 ?_
    refine ml_icmp_ge (pc := 110) (tgt := 173) X h_x10 v3 dX12_thoseOf_110 (by decide) (fun c4 => ?_) (fun c4 => ?_)
    · have hw := hw.1 c4
      exact hK173 σ x8 h_x8 _ (lv_sub hl [4] rfl) hw
    · have hw := hw.2 c4
      refine ml_lload (pc := 113) X hl 4 rfl dX12_thoseOf_113 ?_
      refine ml_aload_n (pc := 115) X hl 0 rfl rfl dX12_thoseOf_115 ?_
      refine ml_iload (pc := 116) X hl 5 rfl dX12_thoseOf_116 ?_
      refine ml_lload_n (pc := 118) X hl 1 rfl rfl dX12_thoseOf_118 ?_
      refine ml_lload (pc := 119) X hl 2 rfl dX12_thoseOf_119 ?_
      refine ml_lload (pc := 121) X hl 3 rfl dX12_thoseOf_121 ?_
      refine ml_calllV (pc := 123) (rest := [.long (Int64.ofInt x8)]) X [.int (Int32.ofInt x10), .long (Int64.ofInt x2), .long (Int64.ofInt x4), .long (Int64.ofInt x6)] (by decide) rfl (ml_c215 hn) (c_X12_ofResidue l base D cA n hn σ x10 x2 x4 x6 h_x10 h_x2 h_x4 h_x6 _ hw) cv_X12_340 ⟨rfl, rfl⟩ ⟨by decide, by decide⟩ rfl rfl hl (Nat.le_of_ble_eq_true rfl) ⟨Nat.zero_le _, Nat.zero_le _⟩ dX12_thoseOf_123 (fun r5 σ5 t5 hw => ?_)
      have hw := hw t5
      refine ml_laddW (pc := 126) X dX12_thoseOf_126 ?_
      refine ml_topL (pc := 127) (fun y7 e7 => ?_)
      have hw := hw y7 e7
      have q7 : I64 y7 := by rw [e7]; exact (w64_r _)
      refine ml_lstore (pc := 127) X hl (by decide) (lst' := [(8, .long (Int64.ofInt y7)), (0, .ref (base + (215 : Int).toNat)), (2, .long (Int64.ofInt x2)), (4, .long (Int64.ofInt x4)), (6, .long (Int64.ofInt x6)), (10, .int (Int32.ofInt x10))]) rfl dX12_thoseOf_127 (fun ls hl => ?_)
      refine ml_aload_n (pc := 129) X hl 1 rfl rfl dX12_thoseOf_129 ?_
      refine gf_X12_334 (pc := 130) X (ml_c215 hn) dX12_thoseOf_130 (fun r8 => ?_)
      have hw := hw r8
      refine ml_lconst0 (pc := 133) X dX12_thoseOf_133 ?_
      refine ml_lcmp_le (pc := 134) (tgt := 167) X r8 ⟨by decide, by decide⟩ dX12_thoseOf_134 dX12_thoseOf_135 (by decide) (fun c9 => ?_) (fun c9 => ?_)
      · have hw := hw.1 c9
        exact u_X12_thoseOf_167 X hn ih σ5 x2 x4 x6 y7 x10 h_x2 h_x4 h_x6 q7 h_x10 _ (lv_sub hl [1, 2, 3, 4, 0, 5] rfl) hw
      · have hw := hw.2 c9
        refine ml_aload_n (pc := 138) X hl 1 rfl rfl dX12_thoseOf_138 ?_
        refine gf_X12_337 (pc := 139) X (ml_c215 hn) dX12_thoseOf_139 (fun r10 => ?_)
        have hw := hw r10
        refine ml_lconst0 (pc := 142) X dX12_thoseOf_142 ?_
        refine ml_lcmp_eq (pc := 143) (tgt := 159) X r10 ⟨by decide, by decide⟩ dX12_thoseOf_143 dX12_thoseOf_144 (by decide) (fun c11 => ?_) (fun c11 => ?_)
        · have hw := hw.1 c11
          exact u_X12_thoseOf_159 X hn ih σ5 x2 x4 x6 y7 x10 h_x2 h_x4 h_x6 q7 h_x10 _ (lv_sub hl [1, 2, 3, 4, 0, 5] rfl) hw
        · have hw := hw.2 c11
          refine ml_aload_n (pc := 147) X hl 1 rfl rfl dX12_thoseOf_147 ?_
          refine gf_X12_334 (pc := 148) X (ml_c215 hn) dX12_thoseOf_148 (fun r12 => ?_)
          have hw := hw r12
          refine ml_aload_n (pc := 151) X hl 1 rfl rfl dX12_thoseOf_151 ?_
          refine gf_X12_337 (pc := 152) X (ml_c215 hn) dX12_thoseOf_152 (fun r13 => ?_)
          have hw := hw r13
          refine ml_lcmp_ge (pc := 155) (tgt := 167) X r12 r13 dX12_thoseOf_155 dX12_thoseOf_156 (by decide) (fun c14 => ?_) (fun c14 => ?_)
          · have hw := hw.1 c14
            exact u_X12_thoseOf_167 X hn ih σ5 x2 x4 x6 y7 x10 h_x2 h_x4 h_x6 q7 h_x10 _ (lv_sub hl [1, 2, 3, 4, 0, 5] rfl) hw
          · have hw := hw.2 c14
            exact u_X12_thoseOf_159 X hn ih σ5 x2 x4 x6 y7 x10 h_x2 h_x4 h_x6 q7 h_x10 _ (lv_sub hl [1, 2, 3, 4, 0, 5] rfl) hw
set_option maxRecDepth 100000 in
set_option maxHeartbeats 4000000 in
theorem u_X12_thoseOf_173 {p : Program} {e : Env} {s : State} {m : MethodId} {args : Array Value} {below : List Frame} {meth : Method} {c : Code} {base : Nat} {D : va_G} {cA : Nat → ClassId} {n : Nat} {l : Launch} {Q : Int → ml_St → Prop} (X : ml_X p s m c meth args D cA cX12_thoseOf 11 RX12 (some .long)) (hn : 256 ≤ n) (σ : ml_St) (x8 : Int) (h_x8 : I64 x8) (ls : Array Slot) (hl : lv_has ls 11 [(8, .long (Int64.ofInt x8))]) (hw : f_X12_thoseOf_u173 Q σ x8) : ml_V p l e rm_X12_thoseOf s m args below meth c (MQ below (ml_Ql base D cA n Q) args s 0 0 (ml_A base)) base D cA 0 0 n n σ (F0 m 173 ls []) := by
  unfold f_X12_thoseOf_u173 at hw
  refine ml_lload (pc := 173) X hl 0 rfl dX12_thoseOf_173 ?_
  exact ml_lret (pc := 175) X h_x8 hw dX12_thoseOf_175
set_option maxRecDepth 100000 in
set_option maxHeartbeats 4000000 in
theorem u_X12_thoseOf_93 {p : Program} {e : Env} {s : State} {m : MethodId} {args : Array Value} {below : List Frame} {meth : Method} {c : Code} {base : Nat} {D : va_G} {cA : Nat → ClassId} {n : Nat} {l : Launch} {Q : Int → ml_St → Prop} (X : ml_X p s m c meth args D cA cX12_thoseOf 11 RX12 (some .long)) (hn : 256 ≤ n) (σ : ml_St) (x2 : Int) (x4 : Int) (x6 : Int) (x8 : Int) (h_x2 : I64 x2) (h_x4 : I64 x4) (h_x6 : I64 x6) (h_x8 : I64 x8) (ls : Array Slot) (hl : lv_has ls 11 [(0, .ref (base + (215 : Int).toNat)), (2, .long (Int64.ofInt x2)), (4, .long (Int64.ofInt x4)), (6, .long (Int64.ofInt x6)), (8, .long (Int64.ofInt x8))]) (hw : f_X12_thoseOf_u93 Q σ x2 x4 x6 x8) : ml_V p l e rm_X12_thoseOf s m args below meth c (MQ below (ml_Ql base D cA n Q) args s 0 0 (ml_A base)) base D cA 0 0 n n σ (F0 m 93 ls []) := by
  unfold f_X12_thoseOf_u93 at hw
  refine ml_aload_n (pc := 93) X hl 0 rfl rfl dX12_thoseOf_93 ?_
  refine gf_X12_307 (pc := 94) X (ml_c215 hn) dX12_thoseOf_94 (fun r1 => ?_)
  have hw := hw r1
  refine ml_topI (pc := 97) (fun y2 e2 => ?_)
  have hw := hw y2 e2
  have q2 : I32 y2 := by rw [e2]; exact r1
  refine ml_istore (pc := 97) X hl (by decide) (lst' := [(10, .int (Int32.ofInt y2)), (0, .ref (base + (215 : Int).toNat)), (2, .long (Int64.ofInt x2)), (4, .long (Int64.ofInt x4)), (6, .long (Int64.ofInt x6)), (8, .long (Int64.ofInt x8))]) rfl dX12_thoseOf_97 (fun ls hl => ?_)
  obtain ⟨N0, hw⟩ := hw
  exact u_X12_thoseOf_99 X hn (fun σ x8 h_x8 ls hl hw => u_X12_thoseOf_173 X hn σ x8 h_x8 ls hl hw) N0 σ x2 x4 x6 x8 y2 h_x2 h_x4 h_x6 h_x8 q2 _ (lv_sub hl [1, 2, 3, 4, 5, 0] rfl) hw
set_option maxRecDepth 100000 in
set_option maxHeartbeats 4000000 in
theorem u_X12_thoseOf_0 {p : Program} {e : Env} {s : State} {m : MethodId} {args : Array Value} {below : List Frame} {meth : Method} {c : Code} {base : Nat} {D : va_G} {cA : Nat → ClassId} {n : Nat} {l : Launch} {Q : Int → ml_St → Prop} (X : ml_X p s m c meth args D cA cX12_thoseOf 11 RX12 (some .long)) (hn : 256 ≤ n) (σ : ml_St) (x1 : Int) (x2 : Int) (x4 : Int) (x6 : Int) (h_x1 : I32 x1) (h_x2 : I64 x2) (h_x4 : I64 x4) (h_x6 : I64 x6) (ls : Array Slot) (hl : lv_has ls 11 [(0, .ref (base + (215 : Int).toNat)), (1, .int (Int32.ofInt x1)), (2, .long (Int64.ofInt x2)), (4, .long (Int64.ofInt x4)), (6, .long (Int64.ofInt x6))]) (hw : f_X12_thoseOf_u0 Q σ x1 x2 x4 x6) : ml_V p l e rm_X12_thoseOf s m args below meth c (MQ below (ml_Ql base D cA n Q) args s 0 0 (ml_A base)) base D cA 0 0 n n σ (F0 m 0 ls []) := by
  unfold f_X12_thoseOf_u0 at hw
  refine ml_aload_n (pc := 0) X hl 0 rfl rfl dX12_thoseOf_0 ?_
  refine ml_iload_n (pc := 1) X hl 1 rfl rfl dX12_thoseOf_1 ?_
  refine ml_callvV (pc := 2) (rest := []) X [.int (Int32.ofInt x1)] (by decide) rfl (ml_c215 hn) (c_X12_powers l base D cA n hn σ x1 h_x1 _ hw) cv_X12_322 ⟨rfl, rfl⟩ ⟨by decide, by decide⟩ rfl rfl hl (Nat.le_of_ble_eq_true rfl) ⟨Nat.zero_le _, Nat.zero_le _⟩ dX12_thoseOf_2 (fun σ1 hw => ?_)
  refine ml_lconst0 (pc := 5) X dX12_thoseOf_5 ?_
  refine ml_lstore (pc := 6) X hl (by decide) (lst' := [(8, .long (Int64.ofInt 0)), (0, .ref (base + (215 : Int).toNat)), (1, .int (Int32.ofInt x1)), (2, .long (Int64.ofInt x2)), (4, .long (Int64.ofInt x4)), (6, .long (Int64.ofInt x6))]) rfl dX12_thoseOf_6 (fun ls hl => ?_)
  refine ml_aload_n (pc := 8) X hl 1 rfl rfl dX12_thoseOf_8 ?_
  refine ml_lconst0 (pc := 9) X dX12_thoseOf_9 ?_
  refine pf_X12_337 (pc := 10) X (ml_c215 hn) ⟨by decide, by decide⟩ dX12_thoseOf_10 (fun σ2 g2 => ?_)
  have hw := hw σ2 g2
  refine ml_iconst (pc := 13) X dX12_thoseOf_13 ?_
  refine ml_istore (pc := 14) X hl (by decide) (lst' := [(10, .int (Int32.ofInt 1)), (8, .long (Int64.ofInt 0)), (0, .ref (base + (215 : Int).toNat)), (1, .int (Int32.ofInt x1)), (2, .long (Int64.ofInt x2)), (4, .long (Int64.ofInt x4)), (6, .long (Int64.ofInt x6))]) rfl dX12_thoseOf_14 (fun ls hl => ?_)
  obtain ⟨N0, hw⟩ := hw
  exact u_X12_thoseOf_16 X hn (fun σ x2 x4 x6 x8 h_x2 h_x4 h_x6 h_x8 ls hl hw => u_X12_thoseOf_93 X hn σ x2 x4 x6 x8 h_x2 h_x4 h_x6 h_x8 ls hl hw) N0 σ2 x2 x4 x6 0 1 h_x2 h_x4 h_x6 ⟨by decide, by decide⟩ ⟨by decide, by decide⟩ _ (lv_sub hl [2, 4, 5, 6, 1, 0] rfl) hw
set_option maxRecDepth 100000 in
theorem c_X12_thoseOf (l : Launch) (base : Nat) (D : va_G) (cA : Nat → ClassId) (n : Nat) (hn : 256 ≤ n) (σ : ml_St) (x1 : Int) (x2 : Int) (x4 : Int) (x6 : Int) (h_x1 : I32 x1) (h_x2 : I64 x2) (h_x4 : I64 x4) (h_x6 : I64 x6) (Q : Int → ml_St → Prop) (hw : f_X12_thoseOf σ x1 x2 x4 x6 Q) : Met l yX12_thoseOf (Cond.code yX12_thoseOf cX12_thoseOf 11 (some .long) :: ml_T) rm_X12_thoseOf (va_Pc [.ref (base + (215 : Int).toNat), .int (Int32.ofInt x1), .long (Int64.ofInt x2), .long (Int64.ofInt x4), .long (Int64.ofInt x6)] (ml_U base D cA n σ)) (ml_Ql base D cA n Q) 0 0 (ml_A base) := by
  refine Met.ofW (cc := cX12_thoseOf) (maxL := 11) (ret := (some .long)) (by decide) rfl ?_
  intro p e s m args below meth c s₁ B hml hv
  obtain ⟨rfl, hP, hK, hok, hro⟩ := hv
  have X : ml_X p s m c meth _ D cA cX12_thoseOf 11 RX12 (some .long) := ⟨B.exec, B.bytes, hml, findClass_of_methodNamed B.named, fun w hw => atoms_spec (ws := Cond.code yX12_thoseOf cX12_thoseOf 11 (some .long) :: ml_T) B.pre w (List.mem_cons_of_mem _ hw), hK, B.notSynchronized, B.returns⟩
  have hl := lv_entry [.ref (base + (215 : Int).toNat), .int (Int32.ofInt x1), .long (Int64.ofInt x2), .long (Int64.ofInt x4), .long (Int64.ofInt x6)] (n := 11) (Nat.le_of_ble_eq_true rfl)
  rw [lg_entry_eq]
  generalize (lg_sl [.ref (base + (215 : Int).toNat), .int (Int32.ofInt x1), .long (Int64.ofInt x2), .long (Int64.ofInt x4), .long (Int64.ofInt x6)] ++ List.replicate (11 - (lg_sl [.ref (base + (215 : Int).toNat), .int (Int32.ofInt x1), .long (Int64.ofInt x2), .long (Int64.ofInt x4), .long (Int64.ofInt x6)]).length) Slot.unset).toArray = ls at hl ⊢
  have hl : lv_has ls 11 [(0, .ref (base + (215 : Int).toNat)), (1, .int (Int32.ofInt x1)), (2, .long (Int64.ofInt x2)), (4, .long (Int64.ofInt x4)), (6, .long (Int64.ofInt x6))] := hl
  unfold f_X12_thoseOf at hw
  exact u_X12_thoseOf_0 X hn σ x1 x2 x4 x6 h_x1 h_x2 h_x4 h_x6 _ (lv_sub hl [0, 1, 2, 3, 4] rfl) hw s.heap [] hP va_S.rf hok hro
theorem dX12_those_0 : decode cX12_those 0 = .ok (.aload_n 0, 1) := by decide +kernel
theorem dX12_those_1 : decode cX12_those 1 = .ok (.iload_n 1, 1) := by decide +kernel
theorem dX12_those_2 : decode cX12_those 2 = .ok (.invokevirtual 292, 3) := by decide +kernel
theorem dX12_those_5 : decode cX12_those 5 = .ok (.ifCond .eq 47, 3) := by decide +kernel
theorem dX12_those_8 : decode cX12_those 8 = .ok (.lload_n 2, 1) := by decide +kernel
theorem dX12_those_9 : decode cX12_those 9 = .ok (.invokestatic 344, 3) := by decide +kernel
theorem dX12_those_12 : decode cX12_those 12 = .ok (.ifCond .eq 40, 3) := by decide +kernel
theorem dX12_those_15 : decode cX12_those 15 = .ok (.lload 4, 2) := by decide +kernel
theorem dX12_those_17 : decode cX12_those 17 = .ok (.invokestatic 330, 3) := by decide +kernel
theorem dX12_those_20 : decode cX12_those 20 = .ok (.ifCond .eq 32, 3) := by decide +kernel
theorem dX12_those_23 : decode cX12_those 23 = .ok (.lload 6, 2) := by decide +kernel
theorem dX12_those_25 : decode cX12_those 25 = .ok (.invokestatic 330, 3) := by decide +kernel
theorem dX12_those_28 : decode cX12_those 28 = .ok (.ifCond .eq 24, 3) := by decide +kernel
theorem dX12_those_31 : decode cX12_those 31 = .ok (.lload 4, 2) := by decide +kernel
theorem dX12_those_33 : decode cX12_those 33 = .ok (.lload 6, 2) := by decide +kernel
theorem dX12_those_35 : decode cX12_those 35 = .ok (.lcmp, 1) := by decide +kernel
theorem dX12_those_36 : decode cX12_those 36 = .ok (.ifCond .gt 16, 3) := by decide +kernel
theorem dX12_those_39 : decode cX12_those 39 = .ok (.aload_n 0, 1) := by decide +kernel
theorem dX12_those_40 : decode cX12_those 40 = .ok (.iload_n 1, 1) := by decide +kernel
theorem dX12_those_41 : decode cX12_those 41 = .ok (.lload_n 2, 1) := by decide +kernel
theorem dX12_those_42 : decode cX12_those 42 = .ok (.lload 4, 2) := by decide +kernel
theorem dX12_those_44 : decode cX12_those 44 = .ok (.lload 6, 2) := by decide +kernel
theorem dX12_those_46 : decode cX12_those 46 = .ok (.invokevirtual 347, 3) := by decide +kernel
theorem dX12_those_49 : decode cX12_those 49 = .ok (.goto 6, 3) := by decide +kernel
theorem dX12_those_52 : decode cX12_those 52 = .ok (.ldc2_w 290, 3) := by decide +kernel
theorem dX12_those_55 : decode cX12_those 55 = .ok (.lreturn, 1) := by decide +kernel
def f_X12_those_u55 (Q : Int → ml_St → Prop) (σ : ml_St) (s0 : Int) : Prop :=
Q s0 σ
def f_X12_those_u52 (Q : Int → ml_St → Prop) (σ : ml_St) : Prop :=
f_X12_those_u55 Q σ (-1)
def f_X12_those_u0 (Q : Int → ml_St → Prop) (σ : ml_St) (x1 : Int) (x2 : Int) (x4 : Int) (x6 : Int) : Prop :=
f_X12_isMade σ x1 (fun r1 σ1 => ∀ _ : ml_B r1,
(r1 = 0 →
f_X12_those_u52 Q σ1) ∧
(r1 ≠ 0 →
f_X12_isLoops σ1 x2 (fun r3 σ3 => ∀ _ : ml_B r3,
(r3 = 0 →
f_X12_those_u52 Q σ3) ∧
(r3 ≠ 0 →
f_X12_isPower σ3 x4 (fun r5 σ5 => ∀ _ : ml_B r5,
(r5 = 0 →
f_X12_those_u52 Q σ5) ∧
(r5 ≠ 0 →
f_X12_isPower σ5 x6 (fun r7 σ7 => ∀ _ : ml_B r7,
(r7 = 0 →
f_X12_those_u52 Q σ7) ∧
(r7 ≠ 0 →
(x6 < x4 →
f_X12_those_u52 Q σ7) ∧
(¬ (x6 < x4) →
f_X12_thoseOf σ7 x1 x2 x4 x6 (fun r10 σ10 => ∀ _ : I64 r10,
f_X12_those_u55 Q σ10 r10))))))))))
def f_X12_those (σ : ml_St) (x1 : Int) (x2 : Int) (x4 : Int) (x6 : Int) (Q : Int → ml_St → Prop) : Prop := f_X12_those_u0 Q σ x1 x2 x4 x6
def rm_X12_those : Room := { frames := 4, cells := 0, slots := 0, locals := 106 }
set_option maxRecDepth 100000 in
set_option maxHeartbeats 4000000 in
theorem u_X12_those_55 {p : Program} {e : Env} {s : State} {m : MethodId} {args : Array Value} {below : List Frame} {meth : Method} {c : Code} {base : Nat} {D : va_G} {cA : Nat → ClassId} {n : Nat} {l : Launch} {Q : Int → ml_St → Prop} (X : ml_X p s m c meth args D cA cX12_those 8 RX12 (some .long)) (hn : 256 ≤ n) (σ : ml_St) (s0 : Int) (h_s0 : I64 s0) (ls : Array Slot) (hl : lv_has ls 8 []) (hw : f_X12_those_u55 Q σ s0) : ml_V p l e rm_X12_those s m args below meth c (MQ below (ml_Ql base D cA n Q) args s 0 0 (ml_A base)) base D cA 0 0 n n σ (F0 m 55 ls [.long (Int64.ofInt s0)]) := by
  unfold f_X12_those_u55 at hw
  exact ml_lret (pc := 55) X h_s0 hw dX12_those_55
set_option maxRecDepth 100000 in
set_option maxHeartbeats 4000000 in
theorem u_X12_those_52 {p : Program} {e : Env} {s : State} {m : MethodId} {args : Array Value} {below : List Frame} {meth : Method} {c : Code} {base : Nat} {D : va_G} {cA : Nat → ClassId} {n : Nat} {l : Launch} {Q : Int → ml_St → Prop} (X : ml_X p s m c meth args D cA cX12_those 8 RX12 (some .long)) (hn : 256 ≤ n) (σ : ml_St) (ls : Array Slot) (hl : lv_has ls 8 []) (hw : f_X12_those_u52 Q σ) : ml_V p l e rm_X12_those s m args below meth c (MQ below (ml_Ql base D cA n Q) args s 0 0 (ml_A base)) base D cA 0 0 n n σ (F0 m 52 ls []) := by
  unfold f_X12_those_u52 at hw
  refine ml_ldc2 (pc := 52) (v := (-1)) X dX12_those_52 tc_6_52 ?_
  exact u_X12_those_55 X hn σ (-1) ⟨by decide, by decide⟩ _ (lv_sub hl [] rfl) hw
set_option maxRecDepth 100000 in
set_option maxHeartbeats 4000000 in
theorem u_X12_those_0 {p : Program} {e : Env} {s : State} {m : MethodId} {args : Array Value} {below : List Frame} {meth : Method} {c : Code} {base : Nat} {D : va_G} {cA : Nat → ClassId} {n : Nat} {l : Launch} {Q : Int → ml_St → Prop} (X : ml_X p s m c meth args D cA cX12_those 8 RX12 (some .long)) (hn : 256 ≤ n) (σ : ml_St) (x1 : Int) (x2 : Int) (x4 : Int) (x6 : Int) (h_x1 : I32 x1) (h_x2 : I64 x2) (h_x4 : I64 x4) (h_x6 : I64 x6) (ls : Array Slot) (hl : lv_has ls 8 [(0, .ref (base + (215 : Int).toNat)), (1, .int (Int32.ofInt x1)), (2, .long (Int64.ofInt x2)), (4, .long (Int64.ofInt x4)), (6, .long (Int64.ofInt x6))]) (hw : f_X12_those_u0 Q σ x1 x2 x4 x6) : ml_V p l e rm_X12_those s m args below meth c (MQ below (ml_Ql base D cA n Q) args s 0 0 (ml_A base)) base D cA 0 0 n n σ (F0 m 0 ls []) := by
  unfold f_X12_those_u0 at hw
  refine ml_aload_n (pc := 0) X hl 0 rfl rfl dX12_those_0 ?_
  refine ml_iload_n (pc := 1) X hl 1 rfl rfl dX12_those_1 ?_
  refine ml_callzV (pc := 2) (rest := []) X [.int (Int32.ofInt x1)] (by decide) rfl (ml_c215 hn) (c_X12_isMade l base D cA n hn σ x1 h_x1 _ hw) cv_X12_292 ⟨rfl, rfl⟩ ⟨by decide, by decide⟩ rfl rfl hl (Nat.le_of_ble_eq_true rfl) ⟨Nat.zero_le _, Nat.zero_le _⟩ dX12_those_2 (fun r1 σ1 t1 hw => ?_)
  have hw := hw t1
  refine ml_if_eq (pc := 5) (tgt := 52) X t1.i dX12_those_5 (by decide) (fun c2 => ?_) (fun c2 => ?_)
  · have hw := hw.1 c2
    exact u_X12_those_52 X hn σ1   _ (lv_sub hl [] rfl) hw
  · have hw := hw.2 c2
    refine ml_lload_n (pc := 8) X hl 2 rfl rfl dX12_those_8 ?_
    refine ml_callzS (pc := 9) (rest := []) X [.long (Int64.ofInt x2)] (c_X12_isLoops l base D cA n hn σ1 x2 h_x2 _ hw) cv_X12_344 ⟨rfl, rfl⟩ ⟨by decide, by decide⟩ rfl rfl hl (Nat.le_of_ble_eq_true rfl) ⟨Nat.zero_le _, Nat.zero_le _⟩ dX12_those_9 (fun r3 σ3 t3 hw => ?_)
    have hw := hw t3
    refine ml_if_eq (pc := 12) (tgt := 52) X t3.i dX12_those_12 (by decide) (fun c4 => ?_) (fun c4 => ?_)
    · have hw := hw.1 c4
      exact u_X12_those_52 X hn σ3   _ (lv_sub hl [] rfl) hw
    · have hw := hw.2 c4
      refine ml_lload (pc := 15) X hl 3 rfl dX12_those_15 ?_
      refine ml_callzS (pc := 17) (rest := []) X [.long (Int64.ofInt x4)] (c_X12_isPower l base D cA n hn σ3 x4 h_x4 _ hw) cv_X12_330 ⟨rfl, rfl⟩ ⟨by decide, by decide⟩ rfl rfl hl (Nat.le_of_ble_eq_true rfl) ⟨Nat.zero_le _, Nat.zero_le _⟩ dX12_those_17 (fun r5 σ5 t5 hw => ?_)
      have hw := hw t5
      refine ml_if_eq (pc := 20) (tgt := 52) X t5.i dX12_those_20 (by decide) (fun c6 => ?_) (fun c6 => ?_)
      · have hw := hw.1 c6
        exact u_X12_those_52 X hn σ5   _ (lv_sub hl [] rfl) hw
      · have hw := hw.2 c6
        refine ml_lload (pc := 23) X hl 4 rfl dX12_those_23 ?_
        refine ml_callzS (pc := 25) (rest := []) X [.long (Int64.ofInt x6)] (c_X12_isPower l base D cA n hn σ5 x6 h_x6 _ hw) cv_X12_330 ⟨rfl, rfl⟩ ⟨by decide, by decide⟩ rfl rfl hl (Nat.le_of_ble_eq_true rfl) ⟨Nat.zero_le _, Nat.zero_le _⟩ dX12_those_25 (fun r7 σ7 t7 hw => ?_)
        have hw := hw t7
        refine ml_if_eq (pc := 28) (tgt := 52) X t7.i dX12_those_28 (by decide) (fun c8 => ?_) (fun c8 => ?_)
        · have hw := hw.1 c8
          exact u_X12_those_52 X hn σ7   _ (lv_sub hl [] rfl) hw
        · have hw := hw.2 c8
          refine ml_lload (pc := 31) X hl 3 rfl dX12_those_31 ?_
          refine ml_lload (pc := 33) X hl 4 rfl dX12_those_33 ?_
          refine ml_lcmp_gt (pc := 35) (tgt := 52) X h_x4 h_x6 dX12_those_35 dX12_those_36 (by decide) (fun c9 => ?_) (fun c9 => ?_)
          · have hw := hw.1 c9
            exact u_X12_those_52 X hn σ7   _ (lv_sub hl [] rfl) hw
          · have hw := hw.2 c9
            refine ml_aload_n (pc := 39) X hl 0 rfl rfl dX12_those_39 ?_
            refine ml_iload_n (pc := 40) X hl 1 rfl rfl dX12_those_40 ?_
            refine ml_lload_n (pc := 41) X hl 2 rfl rfl dX12_those_41 ?_
            refine ml_lload (pc := 42) X hl 3 rfl dX12_those_42 ?_
            refine ml_lload (pc := 44) X hl 4 rfl dX12_those_44 ?_
            refine ml_calllV (pc := 46) (rest := []) X [.int (Int32.ofInt x1), .long (Int64.ofInt x2), .long (Int64.ofInt x4), .long (Int64.ofInt x6)] (by decide) rfl (ml_c215 hn) (c_X12_thoseOf l base D cA n hn σ7 x1 x2 x4 x6 h_x1 h_x2 h_x4 h_x6 _ hw) cv_X12_347 ⟨rfl, rfl⟩ ⟨by decide, by decide⟩ rfl rfl hl (Nat.le_of_ble_eq_true rfl) ⟨Nat.zero_le _, Nat.zero_le _⟩ dX12_those_46 (fun r10 σ10 t10 hw => ?_)
            have hw := hw t10
            refine ml_goto (pc := 49) (tgt := 55) X dX12_those_49 (by decide) ?_
            exact u_X12_those_55 X hn σ10 r10 t10 _ (lv_sub hl [] rfl) hw
set_option maxRecDepth 100000 in
theorem c_X12_those (l : Launch) (base : Nat) (D : va_G) (cA : Nat → ClassId) (n : Nat) (hn : 256 ≤ n) (σ : ml_St) (x1 : Int) (x2 : Int) (x4 : Int) (x6 : Int) (h_x1 : I32 x1) (h_x2 : I64 x2) (h_x4 : I64 x4) (h_x6 : I64 x6) (Q : Int → ml_St → Prop) (hw : f_X12_those σ x1 x2 x4 x6 Q) : Met l yX12_those (Cond.code yX12_those cX12_those 8 (some .long) :: ml_T) rm_X12_those (va_Pc [.ref (base + (215 : Int).toNat), .int (Int32.ofInt x1), .long (Int64.ofInt x2), .long (Int64.ofInt x4), .long (Int64.ofInt x6)] (ml_U base D cA n σ)) (ml_Ql base D cA n Q) 0 0 (ml_A base) := by
  refine Met.ofW (cc := cX12_those) (maxL := 8) (ret := (some .long)) (by decide) rfl ?_
  intro p e s m args below meth c s₁ B hml hv
  obtain ⟨rfl, hP, hK, hok, hro⟩ := hv
  have X : ml_X p s m c meth _ D cA cX12_those 8 RX12 (some .long) := ⟨B.exec, B.bytes, hml, findClass_of_methodNamed B.named, fun w hw => atoms_spec (ws := Cond.code yX12_those cX12_those 8 (some .long) :: ml_T) B.pre w (List.mem_cons_of_mem _ hw), hK, B.notSynchronized, B.returns⟩
  have hl := lv_entry [.ref (base + (215 : Int).toNat), .int (Int32.ofInt x1), .long (Int64.ofInt x2), .long (Int64.ofInt x4), .long (Int64.ofInt x6)] (n := 8) (Nat.le_of_ble_eq_true rfl)
  rw [lg_entry_eq]
  generalize (lg_sl [.ref (base + (215 : Int).toNat), .int (Int32.ofInt x1), .long (Int64.ofInt x2), .long (Int64.ofInt x4), .long (Int64.ofInt x6)] ++ List.replicate (8 - (lg_sl [.ref (base + (215 : Int).toNat), .int (Int32.ofInt x1), .long (Int64.ofInt x2), .long (Int64.ofInt x4), .long (Int64.ofInt x6)]).length) Slot.unset).toArray = ls at hl ⊢
  have hl : lv_has ls 8 [(0, .ref (base + (215 : Int).toNat)), (1, .int (Int32.ofInt x1)), (2, .long (Int64.ofInt x2)), (4, .long (Int64.ofInt x4)), (6, .long (Int64.ofInt x6))] := hl
  unfold f_X12_those at hw
  exact u_X12_those_0 X hn σ x1 x2 x4 x6 h_x1 h_x2 h_x4 h_x6 _ (lv_sub hl [0, 1, 2, 3, 4] rfl) hw s.heap [] hP va_S.rf hok hro
theorem dX12_first_0 : decode cX12_first 0 = .ok (.aload_n 0, 1) := by decide +kernel
theorem dX12_first_1 : decode cX12_first 1 = .ok (.iload_n 1, 1) := by decide +kernel
theorem dX12_first_2 : decode cX12_first 2 = .ok (.invokevirtual 292, 3) := by decide +kernel
theorem dX12_first_5 : decode cX12_first 5 = .ok (.ifCond .eq 10, 3) := by decide +kernel
theorem dX12_first_8 : decode cX12_first 8 = .ok (.lload_n 2, 1) := by decide +kernel
theorem dX12_first_9 : decode cX12_first 9 = .ok (.invokestatic 344, 3) := by decide +kernel
theorem dX12_first_12 : decode cX12_first 12 = .ok (.ifCond .ne 7, 3) := by decide +kernel
theorem dX12_first_15 : decode cX12_first 15 = .ok (.ldc2_w 290, 3) := by decide +kernel
theorem dX12_first_18 : decode cX12_first 18 = .ok (.lreturn, 1) := by decide +kernel
theorem dX12_first_19 : decode cX12_first 19 = .ok (.aload_n 0, 1) := by decide +kernel
theorem dX12_first_20 : decode cX12_first 20 = .ok (.iload_n 1, 1) := by decide +kernel
theorem dX12_first_21 : decode cX12_first 21 = .ok (.lload_n 2, 1) := by decide +kernel
theorem dX12_first_22 : decode cX12_first 22 = .ok (.lconst 1, 1) := by decide +kernel
theorem dX12_first_23 : decode cX12_first 23 = .ok (.ldc2_w 328, 3) := by decide +kernel
theorem dX12_first_26 : decode cX12_first 26 = .ok (.invokevirtual 347, 3) := by decide +kernel
theorem dX12_first_29 : decode cX12_first 29 = .ok (.lconst 0, 1) := by decide +kernel
theorem dX12_first_30 : decode cX12_first 30 = .ok (.lcmp, 1) := by decide +kernel
theorem dX12_first_31 : decode cX12_first 31 = .ok (.ifCond .ne 9, 3) := by decide +kernel
theorem dX12_first_34 : decode cX12_first 34 = .ok (.ldc2_w 290, 3) := by decide +kernel
theorem dX12_first_37 : decode cX12_first 37 = .ok (.goto 7, 3) := by decide +kernel
theorem dX12_first_40 : decode cX12_first 40 = .ok (.aload_n 0, 1) := by decide +kernel
theorem dX12_first_41 : decode cX12_first 41 = .ok (.getfield 337, 3) := by decide +kernel
theorem dX12_first_44 : decode cX12_first 44 = .ok (.lreturn, 1) := by decide +kernel
def f_X12_first_u15 (Q : Int → ml_St → Prop) (σ : ml_St) : Prop :=
Q (-1) σ
def f_X12_first_u44 (Q : Int → ml_St → Prop) (σ : ml_St) (s0 : Int) : Prop :=
Q s0 σ
def f_X12_first_u0 (Q : Int → ml_St → Prop) (σ : ml_St) (x1 : Int) (x2 : Int) : Prop :=
f_X12_isMade σ x1 (fun r1 σ1 => ∀ _ : ml_B r1,
(r1 = 0 →
f_X12_first_u15 Q σ1) ∧
(r1 ≠ 0 →
f_X12_isLoops σ1 x2 (fun r3 σ3 => ∀ _ : ml_B r3,
(r3 ≠ 0 →
f_X12_thoseOf σ3 x1 x2 1 1000000000000000000 (fun r5 σ5 => ∀ _ : I64 r5,
(r5 ≠ 0 →
∀ _ : I64 (σ5 215 37),
f_X12_first_u44 Q σ5 (σ5 215 37)) ∧
(r5 = 0 →
f_X12_first_u44 Q σ5 (-1)))) ∧
(r3 = 0 →
f_X12_first_u15 Q σ3))))
def f_X12_first (σ : ml_St) (x1 : Int) (x2 : Int) (Q : Int → ml_St → Prop) : Prop := f_X12_first_u0 Q σ x1 x2
def rm_X12_first : Room := { frames := 4, cells := 0, slots := 0, locals := 106 }
set_option maxRecDepth 100000 in
set_option maxHeartbeats 4000000 in
theorem u_X12_first_15 {p : Program} {e : Env} {s : State} {m : MethodId} {args : Array Value} {below : List Frame} {meth : Method} {c : Code} {base : Nat} {D : va_G} {cA : Nat → ClassId} {n : Nat} {l : Launch} {Q : Int → ml_St → Prop} (X : ml_X p s m c meth args D cA cX12_first 4 RX12 (some .long)) (hn : 256 ≤ n) (σ : ml_St) (ls : Array Slot) (hl : lv_has ls 4 []) (hw : f_X12_first_u15 Q σ) : ml_V p l e rm_X12_first s m args below meth c (MQ below (ml_Ql base D cA n Q) args s 0 0 (ml_A base)) base D cA 0 0 n n σ (F0 m 15 ls []) := by
  unfold f_X12_first_u15 at hw
  refine ml_ldc2 (pc := 15) (v := (-1)) X dX12_first_15 tc_6_52 ?_
  exact ml_lret (pc := 18) X ⟨by decide, by decide⟩ hw dX12_first_18
set_option maxRecDepth 100000 in
set_option maxHeartbeats 4000000 in
theorem u_X12_first_44 {p : Program} {e : Env} {s : State} {m : MethodId} {args : Array Value} {below : List Frame} {meth : Method} {c : Code} {base : Nat} {D : va_G} {cA : Nat → ClassId} {n : Nat} {l : Launch} {Q : Int → ml_St → Prop} (X : ml_X p s m c meth args D cA cX12_first 4 RX12 (some .long)) (hn : 256 ≤ n) (σ : ml_St) (s0 : Int) (h_s0 : I64 s0) (ls : Array Slot) (hl : lv_has ls 4 []) (hw : f_X12_first_u44 Q σ s0) : ml_V p l e rm_X12_first s m args below meth c (MQ below (ml_Ql base D cA n Q) args s 0 0 (ml_A base)) base D cA 0 0 n n σ (F0 m 44 ls [.long (Int64.ofInt s0)]) := by
  unfold f_X12_first_u44 at hw
  exact ml_lret (pc := 44) X h_s0 hw dX12_first_44
set_option maxRecDepth 100000 in
set_option maxHeartbeats 4000000 in
theorem u_X12_first_0 {p : Program} {e : Env} {s : State} {m : MethodId} {args : Array Value} {below : List Frame} {meth : Method} {c : Code} {base : Nat} {D : va_G} {cA : Nat → ClassId} {n : Nat} {l : Launch} {Q : Int → ml_St → Prop} (X : ml_X p s m c meth args D cA cX12_first 4 RX12 (some .long)) (hn : 256 ≤ n) (σ : ml_St) (x1 : Int) (x2 : Int) (h_x1 : I32 x1) (h_x2 : I64 x2) (ls : Array Slot) (hl : lv_has ls 4 [(0, .ref (base + (215 : Int).toNat)), (1, .int (Int32.ofInt x1)), (2, .long (Int64.ofInt x2))]) (hw : f_X12_first_u0 Q σ x1 x2) : ml_V p l e rm_X12_first s m args below meth c (MQ below (ml_Ql base D cA n Q) args s 0 0 (ml_A base)) base D cA 0 0 n n σ (F0 m 0 ls []) := by
  unfold f_X12_first_u0 at hw
  refine ml_aload_n (pc := 0) X hl 0 rfl rfl dX12_first_0 ?_
  refine ml_iload_n (pc := 1) X hl 1 rfl rfl dX12_first_1 ?_
  refine ml_callzV (pc := 2) (rest := []) X [.int (Int32.ofInt x1)] (by decide) rfl (ml_c215 hn) (c_X12_isMade l base D cA n hn σ x1 h_x1 _ hw) cv_X12_292 ⟨rfl, rfl⟩ ⟨by decide, by decide⟩ rfl rfl hl (Nat.le_of_ble_eq_true rfl) ⟨Nat.zero_le _, Nat.zero_le _⟩ dX12_first_2 (fun r1 σ1 t1 hw => ?_)
  have hw := hw t1
  refine ml_if_eq (pc := 5) (tgt := 15) X t1.i dX12_first_5 (by decide) (fun c2 => ?_) (fun c2 => ?_)
  · have hw := hw.1 c2
    exact u_X12_first_15 X hn σ1   _ (lv_sub hl [] rfl) hw
  · have hw := hw.2 c2
    refine ml_lload_n (pc := 8) X hl 2 rfl rfl dX12_first_8 ?_
    refine ml_callzS (pc := 9) (rest := []) X [.long (Int64.ofInt x2)] (c_X12_isLoops l base D cA n hn σ1 x2 h_x2 _ hw) cv_X12_344 ⟨rfl, rfl⟩ ⟨by decide, by decide⟩ rfl rfl hl (Nat.le_of_ble_eq_true rfl) ⟨Nat.zero_le _, Nat.zero_le _⟩ dX12_first_9 (fun r3 σ3 t3 hw => ?_)
    have hw := hw t3
    refine ml_if_ne (pc := 12) (tgt := 19) X t3.i dX12_first_12 (by decide) (fun c4 => ?_) (fun c4 => ?_)
    · have hw := hw.1 c4
      refine ml_aload_n (pc := 19) X hl 0 rfl rfl dX12_first_19 ?_
      refine ml_iload_n (pc := 20) X hl 1 rfl rfl dX12_first_20 ?_
      refine ml_lload_n (pc := 21) X hl 2 rfl rfl dX12_first_21 ?_
      refine ml_lconst1 (pc := 22) X dX12_first_22 ?_
      refine ml_ldc2 (pc := 23) (v := 1000000000000000000) X dX12_first_23 tc_6_109 ?_
      refine ml_calllV (pc := 26) (rest := []) X [.int (Int32.ofInt x1), .long (Int64.ofInt x2), .long (Int64.ofInt 1), .long (Int64.ofInt 1000000000000000000)] (by decide) rfl (ml_c215 hn) (c_X12_thoseOf l base D cA n hn σ3 x1 x2 1 1000000000000000000 h_x1 h_x2 ⟨by decide, by decide⟩ ⟨by decide, by decide⟩ _ hw) cv_X12_347 ⟨rfl, rfl⟩ ⟨by decide, by decide⟩ rfl rfl hl (Nat.le_of_ble_eq_true rfl) ⟨Nat.zero_le _, Nat.zero_le _⟩ dX12_first_26 (fun r5 σ5 t5 hw => ?_)
      have hw := hw t5
      refine ml_lconst0 (pc := 29) X dX12_first_29 ?_
      refine ml_lcmp_ne (pc := 30) (tgt := 40) X t5 ⟨by decide, by decide⟩ dX12_first_30 dX12_first_31 (by decide) (fun c6 => ?_) (fun c6 => ?_)
      · have hw := hw.1 c6
        refine ml_aload_n (pc := 40) X hl 0 rfl rfl dX12_first_40 ?_
        refine gf_X12_337 (pc := 41) X (ml_c215 hn) dX12_first_41 (fun r7 => ?_)
        have hw := hw r7
        exact u_X12_first_44 X hn σ5 (σ5 215 37) r7 _ (lv_sub hl [] rfl) hw
      · have hw := hw.2 c6
        refine ml_ldc2 (pc := 34) (v := (-1)) X dX12_first_34 tc_6_52 ?_
        refine ml_goto (pc := 37) (tgt := 44) X dX12_first_37 (by decide) ?_
        exact u_X12_first_44 X hn σ5 (-1) ⟨by decide, by decide⟩ _ (lv_sub hl [] rfl) hw
    · have hw := hw.2 c4
      exact u_X12_first_15 X hn σ3   _ (lv_sub hl [] rfl) hw
set_option maxRecDepth 100000 in
theorem c_X12_first (l : Launch) (base : Nat) (D : va_G) (cA : Nat → ClassId) (n : Nat) (hn : 256 ≤ n) (σ : ml_St) (x1 : Int) (x2 : Int) (h_x1 : I32 x1) (h_x2 : I64 x2) (Q : Int → ml_St → Prop) (hw : f_X12_first σ x1 x2 Q) : Met l yX12_first (Cond.code yX12_first cX12_first 4 (some .long) :: ml_T) rm_X12_first (va_Pc [.ref (base + (215 : Int).toNat), .int (Int32.ofInt x1), .long (Int64.ofInt x2)] (ml_U base D cA n σ)) (ml_Ql base D cA n Q) 0 0 (ml_A base) := by
  refine Met.ofW (cc := cX12_first) (maxL := 4) (ret := (some .long)) (by decide) rfl ?_
  intro p e s m args below meth c s₁ B hml hv
  obtain ⟨rfl, hP, hK, hok, hro⟩ := hv
  have X : ml_X p s m c meth _ D cA cX12_first 4 RX12 (some .long) := ⟨B.exec, B.bytes, hml, findClass_of_methodNamed B.named, fun w hw => atoms_spec (ws := Cond.code yX12_first cX12_first 4 (some .long) :: ml_T) B.pre w (List.mem_cons_of_mem _ hw), hK, B.notSynchronized, B.returns⟩
  have hl := lv_entry [.ref (base + (215 : Int).toNat), .int (Int32.ofInt x1), .long (Int64.ofInt x2)] (n := 4) (Nat.le_of_ble_eq_true rfl)
  rw [lg_entry_eq]
  generalize (lg_sl [.ref (base + (215 : Int).toNat), .int (Int32.ofInt x1), .long (Int64.ofInt x2)] ++ List.replicate (4 - (lg_sl [.ref (base + (215 : Int).toNat), .int (Int32.ofInt x1), .long (Int64.ofInt x2)]).length) Slot.unset).toArray = ls at hl ⊢
  have hl : lv_has ls 4 [(0, .ref (base + (215 : Int).toNat)), (1, .int (Int32.ofInt x1)), (2, .long (Int64.ofInt x2))] := hl
  unfold f_X12_first at hw
  exact u_X12_first_0 X hn σ x1 x2 h_x1 h_x2 _ (lv_sub hl [0, 1, 2] rfl) hw s.heap [] hP va_S.rf hok hro
theorem dX12_areJoinedAlike_0 : decode cX12_areJoinedAlike 0 = .ok (.iconst 0, 1) := by decide +kernel
theorem dX12_areJoinedAlike_1 : decode cX12_areJoinedAlike 1 = .ok (.istore_n 3, 1) := by decide +kernel
theorem dX12_areJoinedAlike_2 : decode cX12_areJoinedAlike 2 = .ok (.iload_n 3, 1) := by decide +kernel
theorem dX12_areJoinedAlike_3 : decode cX12_areJoinedAlike 3 = .ok (.iconst 2, 1) := by decide +kernel
theorem dX12_areJoinedAlike_4 : decode cX12_areJoinedAlike 4 = .ok (.aload_n 0, 1) := by decide +kernel
theorem dX12_areJoinedAlike_5 : decode cX12_areJoinedAlike 5 = .ok (.getfield 13, 3) := by decide +kernel
theorem dX12_areJoinedAlike_8 : decode cX12_areJoinedAlike 8 = .ok (.imul, 1) := by decide +kernel
theorem dX12_areJoinedAlike_9 : decode cX12_areJoinedAlike 9 = .ok (.if_icmp .ge 36, 3) := by decide +kernel
theorem dX12_areJoinedAlike_12 : decode cX12_areJoinedAlike 12 = .ok (.aload_n 0, 1) := by decide +kernel
theorem dX12_areJoinedAlike_13 : decode cX12_areJoinedAlike 13 = .ok (.getfield 49, 3) := by decide +kernel
theorem dX12_areJoinedAlike_16 : decode cX12_areJoinedAlike 16 = .ok (.bipush 10, 2) := by decide +kernel
theorem dX12_areJoinedAlike_18 : decode cX12_areJoinedAlike 18 = .ok (.iload_n 1, 1) := by decide +kernel
theorem dX12_areJoinedAlike_19 : decode cX12_areJoinedAlike 19 = .ok (.imul, 1) := by decide +kernel
theorem dX12_areJoinedAlike_20 : decode cX12_areJoinedAlike 20 = .ok (.iload_n 3, 1) := by decide +kernel
theorem dX12_areJoinedAlike_21 : decode cX12_areJoinedAlike 21 = .ok (.iadd, 1) := by decide +kernel
theorem dX12_areJoinedAlike_22 : decode cX12_areJoinedAlike 22 = .ok (.iaload, 1) := by decide +kernel
theorem dX12_areJoinedAlike_23 : decode cX12_areJoinedAlike 23 = .ok (.aload_n 0, 1) := by decide +kernel
theorem dX12_areJoinedAlike_24 : decode cX12_areJoinedAlike 24 = .ok (.getfield 49, 3) := by decide +kernel
theorem dX12_areJoinedAlike_27 : decode cX12_areJoinedAlike 27 = .ok (.bipush 10, 2) := by decide +kernel
theorem dX12_areJoinedAlike_29 : decode cX12_areJoinedAlike 29 = .ok (.iload_n 2, 1) := by decide +kernel
theorem dX12_areJoinedAlike_30 : decode cX12_areJoinedAlike 30 = .ok (.imul, 1) := by decide +kernel
theorem dX12_areJoinedAlike_31 : decode cX12_areJoinedAlike 31 = .ok (.iload_n 3, 1) := by decide +kernel
theorem dX12_areJoinedAlike_32 : decode cX12_areJoinedAlike 32 = .ok (.iadd, 1) := by decide +kernel
theorem dX12_areJoinedAlike_33 : decode cX12_areJoinedAlike 33 = .ok (.iaload, 1) := by decide +kernel
theorem dX12_areJoinedAlike_34 : decode cX12_areJoinedAlike 34 = .ok (.if_icmp .eq 5, 3) := by decide +kernel
theorem dX12_areJoinedAlike_37 : decode cX12_areJoinedAlike 37 = .ok (.iconst 0, 1) := by decide +kernel
theorem dX12_areJoinedAlike_38 : decode cX12_areJoinedAlike 38 = .ok (.ireturn, 1) := by decide +kernel
theorem dX12_areJoinedAlike_39 : decode cX12_areJoinedAlike 39 = .ok (.iinc 3 1, 3) := by decide +kernel
theorem dX12_areJoinedAlike_42 : decode cX12_areJoinedAlike 42 = .ok (.goto (-40), 3) := by decide +kernel
theorem dX12_areJoinedAlike_45 : decode cX12_areJoinedAlike 45 = .ok (.iconst 1, 1) := by decide +kernel
theorem dX12_areJoinedAlike_46 : decode cX12_areJoinedAlike 46 = .ok (.ireturn, 1) := by decide +kernel
def f_X12_areJoinedAlike_u2 (Q : Int → ml_St → Prop) (K37 : ml_St → Prop) (K45 : ml_St → Prop) : Nat → ml_St → Int → Int → Int → Prop
| 0, _, _, _, _ => False
| N + 1, σ, x1, x2, x3 =>
∀ _ : I32 (σ 215 2),
I32 (2 * (σ 215 2)) ∧
((2 * (σ 215 2)) ≤ x3 →
K45 σ) ∧
(¬ ((2 * (σ 215 2)) ≤ x3) →
I32 (10 * x1) ∧
I32 ((10 * x1) + x3) ∧
(0 : Int) ≤ ((10 * x1) + x3) ∧ (((10 * x1) + x3) : Int) < 640 ∧
∀ _ : I32 (σ 227 ((10 * x1) + x3)),
I32 (10 * x2) ∧
I32 ((10 * x2) + x3) ∧
(0 : Int) ≤ ((10 * x2) + x3) ∧ (((10 * x2) + x3) : Int) < 640 ∧
∀ _ : I32 (σ 227 ((10 * x2) + x3)),
(((σ 227 ((10 * x1) + x3)) : Int) = (σ 227 ((10 * x2) + x3)) →
I32 (x3 + 1) ∧
∀ y11 : Int, y11 = x3 + 1 →
f_X12_areJoinedAlike_u2 Q K37 K45 N σ x1 x2 y11) ∧
((σ 227 ((10 * x1) + x3)) ≠ (σ 227 ((10 * x2) + x3)) →
K37 σ))
def f_X12_areJoinedAlike_u37 (Q : Int → ml_St → Prop) (σ : ml_St) : Prop :=
Q 0 σ
def f_X12_areJoinedAlike_u45 (Q : Int → ml_St → Prop) (σ : ml_St) : Prop :=
Q 1 σ
def f_X12_areJoinedAlike_u0 (Q : Int → ml_St → Prop) (σ : ml_St) (x1 : Int) (x2 : Int) : Prop :=
∃ N1, f_X12_areJoinedAlike_u2 Q (f_X12_areJoinedAlike_u37 Q) (f_X12_areJoinedAlike_u45 Q) N1 σ x1 x2 0
def f_X12_areJoinedAlike (σ : ml_St) (x1 : Int) (x2 : Int) (Q : Int → ml_St → Prop) : Prop := f_X12_areJoinedAlike_u0 Q σ x1 x2
def rm_X12_areJoinedAlike : Room := { frames := 0, cells := 0, slots := 0, locals := 0 }
set_option maxRecDepth 100000 in
set_option maxHeartbeats 4000000 in
theorem u_X12_areJoinedAlike_2 {p : Program} {e : Env} {s : State} {m : MethodId} {args : Array Value} {below : List Frame} {meth : Method} {c : Code} {base : Nat} {D : va_G} {cA : Nat → ClassId} {n : Nat} {l : Launch} {Q : Int → ml_St → Prop} {K37 : ml_St → Prop} {K45 : ml_St → Prop} (X : ml_X p s m c meth args D cA cX12_areJoinedAlike 4 RX12 (some .boolean)) (hn : 256 ≤ n) (hK37 : ∀ (σ : ml_St) (ls : Array Slot), lv_has ls 4 [] → K37 σ → ml_V p l e rm_X12_areJoinedAlike s m args below meth c (MQ below (ml_Qi ml_B base D cA n Q) args s 0 0 (ml_A base)) base D cA 0 0 n n σ (F0 m 37 ls [])) (hK45 : ∀ (σ : ml_St) (ls : Array Slot), lv_has ls 4 [] → K45 σ → ml_V p l e rm_X12_areJoinedAlike s m args below meth c (MQ below (ml_Qi ml_B base D cA n Q) args s 0 0 (ml_A base)) base D cA 0 0 n n σ (F0 m 45 ls [])) : ∀ (N : Nat) (σ : ml_St) (x1 : Int) (x2 : Int) (x3 : Int) (h_x1 : I32 x1) (h_x2 : I32 x2) (h_x3 : I32 x3) (ls : Array Slot), lv_has ls 4 [(0, .ref (base + (215 : Int).toNat)), (1, .int (Int32.ofInt x1)), (2, .int (Int32.ofInt x2)), (3, .int (Int32.ofInt x3))] → f_X12_areJoinedAlike_u2 Q K37 K45 N σ x1 x2 x3 → ml_V p l e rm_X12_areJoinedAlike s m args below meth c (MQ below (ml_Qi ml_B base D cA n Q) args s 0 0 (ml_A base)) base D cA 0 0 n n σ (F0 m 2 ls []) := by
  intro N
  induction N with
  | zero => intro σ x1 x2 x3 h_x1 h_x2 h_x3 ls hl hw; exact False.elim hw
  | succ N ih =>
    intro σ x1 x2 x3 h_x1 h_x2 h_x3 ls hl hw
    unfold f_X12_areJoinedAlike_u2 at hw
    refine ml_iload_n (pc := 2) X hl 3 rfl rfl dX12_areJoinedAlike_2 ?_
    refine ml_iconst (pc := 3) X dX12_areJoinedAlike_3 ?_
    refine ml_aload_n (pc := 4) X hl 0 rfl rfl dX12_areJoinedAlike_4 ?_
    refine gf_X12_13 (pc := 5) X (ml_c215 hn) dX12_areJoinedAlike_5 (fun r1 => ?_)
    have hw := hw r1
    obtain ⟨v2, hw⟩ := hw
    refine ml_imul (pc := 8) X dX12_areJoinedAlike_8 ?_
    refine ml_icmp_ge (pc := 9) (tgt := 45) X h_x3 v2 dX12_areJoinedAlike_9 (by decide) (fun c3 => ?_) (fun c3 => ?_)
    · have hw := hw.1 c3
      exact hK45 σ   _ (lv_sub hl [] rfl) hw
    · have hw := hw.2 c3
      refine ml_aload_n (pc := 12) X hl 0 rfl rfl dX12_areJoinedAlike_12 ?_
      refine gf_X12_49 (pc := 13) X (ml_c215 hn) dX12_areJoinedAlike_13 ?_
      refine ml_bipush (pc := 16) X dX12_areJoinedAlike_16 (by decide) ?_
      refine ml_iload_n (pc := 18) X hl 1 rfl rfl dX12_areJoinedAlike_18 ?_
      obtain ⟨v4, hw⟩ := hw
      refine ml_imul (pc := 19) X dX12_areJoinedAlike_19 ?_
      refine ml_iload_n (pc := 20) X hl 3 rfl rfl dX12_areJoinedAlike_20 ?_
      obtain ⟨v5, hw⟩ := hw
      refine ml_iadd (pc := 21) X dX12_areJoinedAlike_21 ?_
      obtain ⟨a6, b6, hw⟩ := hw
      refine ml_iald (pc := 22) (N := 640) X (ml_c227 hn) a6 b6 dX12_areJoinedAlike_22 (fun r6 => ?_)
      have hw := hw r6
      refine ml_aload_n (pc := 23) X hl 0 rfl rfl dX12_areJoinedAlike_23 ?_
      refine gf_X12_49 (pc := 24) X (ml_c215 hn) dX12_areJoinedAlike_24 ?_
      refine ml_bipush (pc := 27) X dX12_areJoinedAlike_27 (by decide) ?_
      refine ml_iload_n (pc := 29) X hl 2 rfl rfl dX12_areJoinedAlike_29 ?_
      obtain ⟨v7, hw⟩ := hw
      refine ml_imul (pc := 30) X dX12_areJoinedAlike_30 ?_
      refine ml_iload_n (pc := 31) X hl 3 rfl rfl dX12_areJoinedAlike_31 ?_
      obtain ⟨v8, hw⟩ := hw
      refine ml_iadd (pc := 32) X dX12_areJoinedAlike_32 ?_
      obtain ⟨a9, b9, hw⟩ := hw
      refine ml_iald (pc := 33) (N := 640) X (ml_c227 hn) a9 b9 dX12_areJoinedAlike_33 (fun r9 => ?_)
      have hw := hw r9
      refine ml_icmp_eq (pc := 34) (tgt := 39) X r6 r9 dX12_areJoinedAlike_34 (by decide) (fun c10 => ?_) (fun c10 => ?_)
      · have hw := hw.1 c10
        obtain ⟨v11, hw⟩ := hw
        obtain ⟨y11, e11⟩ : ∃ y : Int, y = x3 + 1 := ⟨_, rfl⟩
        have hw := hw y11 e11
        rw [← e11] at v11
        refine ml_iinc (pc := 39) X e11 hl 3 rfl (by decide) (lst' := [(3, .int (Int32.ofInt y11)), (0, .ref (base + (215 : Int).toNat)), (1, .int (Int32.ofInt x1)), (2, .int (Int32.ofInt x2))]) rfl dX12_areJoinedAlike_39 (fun ls hl => ?_)
        refine ml_goto (pc := 42) (tgt := 2) X dX12_areJoinedAlike_42 (by decide) ?_
        exact ih σ x1 x2 y11 h_x1 h_x2 v11 _ (lv_sub hl [1, 2, 3, 0] rfl) hw
      · have hw := hw.2 c10
        exact hK37 σ   _ (lv_sub hl [] rfl) hw
set_option maxRecDepth 100000 in
set_option maxHeartbeats 4000000 in
theorem u_X12_areJoinedAlike_37 {p : Program} {e : Env} {s : State} {m : MethodId} {args : Array Value} {below : List Frame} {meth : Method} {c : Code} {base : Nat} {D : va_G} {cA : Nat → ClassId} {n : Nat} {l : Launch} {Q : Int → ml_St → Prop} (X : ml_X p s m c meth args D cA cX12_areJoinedAlike 4 RX12 (some .boolean)) (hn : 256 ≤ n) (σ : ml_St) (ls : Array Slot) (hl : lv_has ls 4 []) (hw : f_X12_areJoinedAlike_u37 Q σ) : ml_V p l e rm_X12_areJoinedAlike s m args below meth c (MQ below (ml_Qi ml_B base D cA n Q) args s 0 0 (ml_A base)) base D cA 0 0 n n σ (F0 m 37 ls []) := by
  unfold f_X12_areJoinedAlike_u37 at hw
  refine ml_iconst (pc := 37) X dX12_areJoinedAlike_37 ?_
  exact ml_zret (pc := 38) X ⟨by decide, by decide⟩ hw dX12_areJoinedAlike_38
set_option maxRecDepth 100000 in
set_option maxHeartbeats 4000000 in
theorem u_X12_areJoinedAlike_45 {p : Program} {e : Env} {s : State} {m : MethodId} {args : Array Value} {below : List Frame} {meth : Method} {c : Code} {base : Nat} {D : va_G} {cA : Nat → ClassId} {n : Nat} {l : Launch} {Q : Int → ml_St → Prop} (X : ml_X p s m c meth args D cA cX12_areJoinedAlike 4 RX12 (some .boolean)) (hn : 256 ≤ n) (σ : ml_St) (ls : Array Slot) (hl : lv_has ls 4 []) (hw : f_X12_areJoinedAlike_u45 Q σ) : ml_V p l e rm_X12_areJoinedAlike s m args below meth c (MQ below (ml_Qi ml_B base D cA n Q) args s 0 0 (ml_A base)) base D cA 0 0 n n σ (F0 m 45 ls []) := by
  unfold f_X12_areJoinedAlike_u45 at hw
  refine ml_iconst (pc := 45) X dX12_areJoinedAlike_45 ?_
  exact ml_zret (pc := 46) X ⟨by decide, by decide⟩ hw dX12_areJoinedAlike_46
set_option maxRecDepth 100000 in
set_option maxHeartbeats 4000000 in
theorem u_X12_areJoinedAlike_0 {p : Program} {e : Env} {s : State} {m : MethodId} {args : Array Value} {below : List Frame} {meth : Method} {c : Code} {base : Nat} {D : va_G} {cA : Nat → ClassId} {n : Nat} {l : Launch} {Q : Int → ml_St → Prop} (X : ml_X p s m c meth args D cA cX12_areJoinedAlike 4 RX12 (some .boolean)) (hn : 256 ≤ n) (σ : ml_St) (x1 : Int) (x2 : Int) (h_x1 : I32 x1) (h_x2 : I32 x2) (ls : Array Slot) (hl : lv_has ls 4 [(0, .ref (base + (215 : Int).toNat)), (1, .int (Int32.ofInt x1)), (2, .int (Int32.ofInt x2))]) (hw : f_X12_areJoinedAlike_u0 Q σ x1 x2) : ml_V p l e rm_X12_areJoinedAlike s m args below meth c (MQ below (ml_Qi ml_B base D cA n Q) args s 0 0 (ml_A base)) base D cA 0 0 n n σ (F0 m 0 ls []) := by
  unfold f_X12_areJoinedAlike_u0 at hw
  refine ml_iconst (pc := 0) X dX12_areJoinedAlike_0 ?_
  refine ml_istore_n (pc := 1) X rfl hl (by decide) (lst' := [(3, .int (Int32.ofInt 0)), (0, .ref (base + (215 : Int).toNat)), (1, .int (Int32.ofInt x1)), (2, .int (Int32.ofInt x2))]) rfl dX12_areJoinedAlike_1 (fun ls hl => ?_)
  obtain ⟨N0, hw⟩ := hw
  exact u_X12_areJoinedAlike_2 X hn (fun σ   ls hl hw => u_X12_areJoinedAlike_37 X hn σ   ls hl hw) (fun σ   ls hl hw => u_X12_areJoinedAlike_45 X hn σ   ls hl hw) N0 σ x1 x2 0 h_x1 h_x2 ⟨by decide, by decide⟩ _ (lv_sub hl [1, 2, 3, 0] rfl) hw
set_option maxRecDepth 100000 in
theorem c_X12_areJoinedAlike (l : Launch) (base : Nat) (D : va_G) (cA : Nat → ClassId) (n : Nat) (hn : 256 ≤ n) (σ : ml_St) (x1 : Int) (x2 : Int) (h_x1 : I32 x1) (h_x2 : I32 x2) (Q : Int → ml_St → Prop) (hw : f_X12_areJoinedAlike σ x1 x2 Q) : Met l yX12_areJoinedAlike (Cond.code yX12_areJoinedAlike cX12_areJoinedAlike 4 (some .boolean) :: ml_T) rm_X12_areJoinedAlike (va_Pc [.ref (base + (215 : Int).toNat), .int (Int32.ofInt x1), .int (Int32.ofInt x2)] (ml_U base D cA n σ)) (ml_Qi ml_B base D cA n Q) 0 0 (ml_A base) := by
  refine Met.ofW (cc := cX12_areJoinedAlike) (maxL := 4) (ret := (some .boolean)) (by decide) rfl ?_
  intro p e s m args below meth c s₁ B hml hv
  obtain ⟨rfl, hP, hK, hok, hro⟩ := hv
  have X : ml_X p s m c meth _ D cA cX12_areJoinedAlike 4 RX12 (some .boolean) := ⟨B.exec, B.bytes, hml, findClass_of_methodNamed B.named, fun w hw => atoms_spec (ws := Cond.code yX12_areJoinedAlike cX12_areJoinedAlike 4 (some .boolean) :: ml_T) B.pre w (List.mem_cons_of_mem _ hw), hK, B.notSynchronized, B.returns⟩
  have hl := lv_entry [.ref (base + (215 : Int).toNat), .int (Int32.ofInt x1), .int (Int32.ofInt x2)] (n := 4) (Nat.le_of_ble_eq_true rfl)
  rw [lg_entry_eq]
  generalize (lg_sl [.ref (base + (215 : Int).toNat), .int (Int32.ofInt x1), .int (Int32.ofInt x2)] ++ List.replicate (4 - (lg_sl [.ref (base + (215 : Int).toNat), .int (Int32.ofInt x1), .int (Int32.ofInt x2)]).length) Slot.unset).toArray = ls at hl ⊢
  have hl : lv_has ls 4 [(0, .ref (base + (215 : Int).toNat)), (1, .int (Int32.ofInt x1)), (2, .int (Int32.ofInt x2))] := hl
  unfold f_X12_areJoinedAlike at hw
  exact u_X12_areJoinedAlike_0 X hn σ x1 x2 h_x1 h_x2 _ (lv_sub hl [0, 1, 2] rfl) hw s.heap [] hP va_S.rf hok hro
theorem dX12_areAlike_0 : decode cX12_areAlike 0 = .ok (.aload_n 0, 1) := by decide +kernel
theorem dX12_areAlike_1 : decode cX12_areAlike 1 = .ok (.getfield 55, 3) := by decide +kernel
theorem dX12_areAlike_4 : decode cX12_areAlike 4 = .ok (.iload_n 1, 1) := by decide +kernel
theorem dX12_areAlike_5 : decode cX12_areAlike 5 = .ok (.laload, 1) := by decide +kernel
theorem dX12_areAlike_6 : decode cX12_areAlike 6 = .ok (.aload_n 0, 1) := by decide +kernel
theorem dX12_areAlike_7 : decode cX12_areAlike 7 = .ok (.getfield 55, 3) := by decide +kernel
theorem dX12_areAlike_10 : decode cX12_areAlike 10 = .ok (.iload_n 2, 1) := by decide +kernel
theorem dX12_areAlike_11 : decode cX12_areAlike 11 = .ok (.laload, 1) := by decide +kernel
theorem dX12_areAlike_12 : decode cX12_areAlike 12 = .ok (.lcmp, 1) := by decide +kernel
theorem dX12_areAlike_13 : decode cX12_areAlike 13 = .ok (.ifCond .ne 16, 3) := by decide +kernel
theorem dX12_areAlike_16 : decode cX12_areAlike 16 = .ok (.aload_n 0, 1) := by decide +kernel
theorem dX12_areAlike_17 : decode cX12_areAlike 17 = .ok (.iload_n 1, 1) := by decide +kernel
theorem dX12_areAlike_18 : decode cX12_areAlike 18 = .ok (.iload_n 2, 1) := by decide +kernel
theorem dX12_areAlike_19 : decode cX12_areAlike 19 = .ok (.invokevirtual 350, 3) := by decide +kernel
theorem dX12_areAlike_22 : decode cX12_areAlike 22 = .ok (.ifCond .eq 7, 3) := by decide +kernel
theorem dX12_areAlike_25 : decode cX12_areAlike 25 = .ok (.iconst 1, 1) := by decide +kernel
theorem dX12_areAlike_26 : decode cX12_areAlike 26 = .ok (.goto 4, 3) := by decide +kernel
theorem dX12_areAlike_29 : decode cX12_areAlike 29 = .ok (.iconst 0, 1) := by decide +kernel
theorem dX12_areAlike_30 : decode cX12_areAlike 30 = .ok (.ireturn, 1) := by decide +kernel
def f_X12_areAlike_u30 (Q : Int → ml_St → Prop) (σ : ml_St) (s0 : Int) : Prop :=
Q s0 σ
def f_X12_areAlike_u29 (Q : Int → ml_St → Prop) (σ : ml_St) : Prop :=
f_X12_areAlike_u30 Q σ 0
def f_X12_areAlike_u0 (Q : Int → ml_St → Prop) (σ : ml_St) (x1 : Int) (x2 : Int) : Prop :=
(0 : Int) ≤ x1 ∧ (x1 : Int) < 64 ∧
∀ _ : I64 (σ 229 x1),
(0 : Int) ≤ x2 ∧ (x2 : Int) < 64 ∧
∀ _ : I64 (σ 229 x2),
(((σ 229 x1) : Int) ≠ (σ 229 x2) →
f_X12_areAlike_u29 Q σ) ∧
((σ 229 x1) = (σ 229 x2) →
f_X12_areJoinedAlike σ x1 x2 (fun r4 σ4 => ∀ _ : ml_B r4,
(r4 = 0 →
f_X12_areAlike_u29 Q σ4) ∧
(r4 ≠ 0 →
f_X12_areAlike_u30 Q σ4 1)))
def f_X12_areAlike (σ : ml_St) (x1 : Int) (x2 : Int) (Q : Int → ml_St → Prop) : Prop := f_X12_areAlike_u0 Q σ x1 x2
def rm_X12_areAlike : Room := { frames := 1, cells := 0, slots := 0, locals := 23 }
set_option maxRecDepth 100000 in
set_option maxHeartbeats 4000000 in
theorem u_X12_areAlike_30 {p : Program} {e : Env} {s : State} {m : MethodId} {args : Array Value} {below : List Frame} {meth : Method} {c : Code} {base : Nat} {D : va_G} {cA : Nat → ClassId} {n : Nat} {l : Launch} {Q : Int → ml_St → Prop} (X : ml_X p s m c meth args D cA cX12_areAlike 3 RX12 (some .boolean)) (hn : 256 ≤ n) (σ : ml_St) (s0 : Int) (h_s0 : ml_B s0) (ls : Array Slot) (hl : lv_has ls 3 []) (hw : f_X12_areAlike_u30 Q σ s0) : ml_V p l e rm_X12_areAlike s m args below meth c (MQ below (ml_Qi ml_B base D cA n Q) args s 0 0 (ml_A base)) base D cA 0 0 n n σ (F0 m 30 ls [.int (Int32.ofInt s0)]) := by
  unfold f_X12_areAlike_u30 at hw
  exact ml_zret (pc := 30) X h_s0 hw dX12_areAlike_30
set_option maxRecDepth 100000 in
set_option maxHeartbeats 4000000 in
theorem u_X12_areAlike_29 {p : Program} {e : Env} {s : State} {m : MethodId} {args : Array Value} {below : List Frame} {meth : Method} {c : Code} {base : Nat} {D : va_G} {cA : Nat → ClassId} {n : Nat} {l : Launch} {Q : Int → ml_St → Prop} (X : ml_X p s m c meth args D cA cX12_areAlike 3 RX12 (some .boolean)) (hn : 256 ≤ n) (σ : ml_St) (ls : Array Slot) (hl : lv_has ls 3 []) (hw : f_X12_areAlike_u29 Q σ) : ml_V p l e rm_X12_areAlike s m args below meth c (MQ below (ml_Qi ml_B base D cA n Q) args s 0 0 (ml_A base)) base D cA 0 0 n n σ (F0 m 29 ls []) := by
  unfold f_X12_areAlike_u29 at hw
  refine ml_iconst (pc := 29) X dX12_areAlike_29 ?_
  exact u_X12_areAlike_30 X hn σ 0 ⟨by decide, by decide⟩ _ (lv_sub hl [] rfl) hw
set_option maxRecDepth 100000 in
set_option maxHeartbeats 4000000 in
theorem u_X12_areAlike_0 {p : Program} {e : Env} {s : State} {m : MethodId} {args : Array Value} {below : List Frame} {meth : Method} {c : Code} {base : Nat} {D : va_G} {cA : Nat → ClassId} {n : Nat} {l : Launch} {Q : Int → ml_St → Prop} (X : ml_X p s m c meth args D cA cX12_areAlike 3 RX12 (some .boolean)) (hn : 256 ≤ n) (σ : ml_St) (x1 : Int) (x2 : Int) (h_x1 : I32 x1) (h_x2 : I32 x2) (ls : Array Slot) (hl : lv_has ls 3 [(0, .ref (base + (215 : Int).toNat)), (1, .int (Int32.ofInt x1)), (2, .int (Int32.ofInt x2))]) (hw : f_X12_areAlike_u0 Q σ x1 x2) : ml_V p l e rm_X12_areAlike s m args below meth c (MQ below (ml_Qi ml_B base D cA n Q) args s 0 0 (ml_A base)) base D cA 0 0 n n σ (F0 m 0 ls []) := by
  unfold f_X12_areAlike_u0 at hw
  refine ml_aload_n (pc := 0) X hl 0 rfl rfl dX12_areAlike_0 ?_
  refine gf_X12_55 (pc := 1) X (ml_c215 hn) dX12_areAlike_1 ?_
  refine ml_iload_n (pc := 4) X hl 1 rfl rfl dX12_areAlike_4 ?_
  obtain ⟨a1, b1, hw⟩ := hw
  refine ml_lald (pc := 5) (N := 64) X (ml_c229 hn) a1 b1 dX12_areAlike_5 (fun r1 => ?_)
  have hw := hw r1
  refine ml_aload_n (pc := 6) X hl 0 rfl rfl dX12_areAlike_6 ?_
  refine gf_X12_55 (pc := 7) X (ml_c215 hn) dX12_areAlike_7 ?_
  refine ml_iload_n (pc := 10) X hl 2 rfl rfl dX12_areAlike_10 ?_
  obtain ⟨a2, b2, hw⟩ := hw
  refine ml_lald (pc := 11) (N := 64) X (ml_c229 hn) a2 b2 dX12_areAlike_11 (fun r2 => ?_)
  have hw := hw r2
  refine ml_lcmp_ne (pc := 12) (tgt := 29) X r1 r2 dX12_areAlike_12 dX12_areAlike_13 (by decide) (fun c3 => ?_) (fun c3 => ?_)
  · have hw := hw.1 c3
    exact u_X12_areAlike_29 X hn σ   _ (lv_sub hl [] rfl) hw
  · have hw := hw.2 c3
    refine ml_aload_n (pc := 16) X hl 0 rfl rfl dX12_areAlike_16 ?_
    refine ml_iload_n (pc := 17) X hl 1 rfl rfl dX12_areAlike_17 ?_
    refine ml_iload_n (pc := 18) X hl 2 rfl rfl dX12_areAlike_18 ?_
    refine ml_callzV (pc := 19) (rest := []) X [.int (Int32.ofInt x1), .int (Int32.ofInt x2)] (by decide) rfl (ml_c215 hn) (c_X12_areJoinedAlike l base D cA n hn σ x1 x2 h_x1 h_x2 _ hw) cv_X12_350 ⟨rfl, rfl⟩ ⟨by decide, by decide⟩ rfl rfl hl (Nat.le_of_ble_eq_true rfl) ⟨Nat.zero_le _, Nat.zero_le _⟩ dX12_areAlike_19 (fun r4 σ4 t4 hw => ?_)
    have hw := hw t4
    refine ml_if_eq (pc := 22) (tgt := 29) X t4.i dX12_areAlike_22 (by decide) (fun c5 => ?_) (fun c5 => ?_)
    · have hw := hw.1 c5
      exact u_X12_areAlike_29 X hn σ4   _ (lv_sub hl [] rfl) hw
    · have hw := hw.2 c5
      refine ml_iconst (pc := 25) X dX12_areAlike_25 ?_
      refine ml_goto (pc := 26) (tgt := 30) X dX12_areAlike_26 (by decide) ?_
      exact u_X12_areAlike_30 X hn σ4 1 ⟨by decide, by decide⟩ _ (lv_sub hl [] rfl) hw
set_option maxRecDepth 100000 in
theorem c_X12_areAlike (l : Launch) (base : Nat) (D : va_G) (cA : Nat → ClassId) (n : Nat) (hn : 256 ≤ n) (σ : ml_St) (x1 : Int) (x2 : Int) (h_x1 : I32 x1) (h_x2 : I32 x2) (Q : Int → ml_St → Prop) (hw : f_X12_areAlike σ x1 x2 Q) : Met l yX12_areAlike (Cond.code yX12_areAlike cX12_areAlike 3 (some .boolean) :: ml_T) rm_X12_areAlike (va_Pc [.ref (base + (215 : Int).toNat), .int (Int32.ofInt x1), .int (Int32.ofInt x2)] (ml_U base D cA n σ)) (ml_Qi ml_B base D cA n Q) 0 0 (ml_A base) := by
  refine Met.ofW (cc := cX12_areAlike) (maxL := 3) (ret := (some .boolean)) (by decide) rfl ?_
  intro p e s m args below meth c s₁ B hml hv
  obtain ⟨rfl, hP, hK, hok, hro⟩ := hv
  have X : ml_X p s m c meth _ D cA cX12_areAlike 3 RX12 (some .boolean) := ⟨B.exec, B.bytes, hml, findClass_of_methodNamed B.named, fun w hw => atoms_spec (ws := Cond.code yX12_areAlike cX12_areAlike 3 (some .boolean) :: ml_T) B.pre w (List.mem_cons_of_mem _ hw), hK, B.notSynchronized, B.returns⟩
  have hl := lv_entry [.ref (base + (215 : Int).toNat), .int (Int32.ofInt x1), .int (Int32.ofInt x2)] (n := 3) (Nat.le_of_ble_eq_true rfl)
  rw [lg_entry_eq]
  generalize (lg_sl [.ref (base + (215 : Int).toNat), .int (Int32.ofInt x1), .int (Int32.ofInt x2)] ++ List.replicate (3 - (lg_sl [.ref (base + (215 : Int).toNat), .int (Int32.ofInt x1), .int (Int32.ofInt x2)]).length) Slot.unset).toArray = ls at hl ⊢
  have hl : lv_has ls 3 [(0, .ref (base + (215 : Int).toNat)), (1, .int (Int32.ofInt x1)), (2, .int (Int32.ofInt x2))] := hl
  unfold f_X12_areAlike at hw
  exact u_X12_areAlike_0 X hn σ x1 x2 h_x1 h_x2 _ (lv_sub hl [0, 1, 2] rfl) hw s.heap [] hP va_S.rf hok hro
theorem dX12_both_0 : decode cX12_both 0 = .ok (.aload_n 0, 1) := by decide +kernel
theorem dX12_both_1 : decode cX12_both 1 = .ok (.iload_n 1, 1) := by decide +kernel
theorem dX12_both_2 : decode cX12_both 2 = .ok (.invokevirtual 292, 3) := by decide +kernel
theorem dX12_both_5 : decode cX12_both 5 = .ok (.ifCond .eq 23, 3) := by decide +kernel
theorem dX12_both_8 : decode cX12_both 8 = .ok (.aload_n 0, 1) := by decide +kernel
theorem dX12_both_9 : decode cX12_both 9 = .ok (.iload_n 2, 1) := by decide +kernel
theorem dX12_both_10 : decode cX12_both 10 = .ok (.invokevirtual 292, 3) := by decide +kernel
theorem dX12_both_13 : decode cX12_both 13 = .ok (.ifCond .eq 15, 3) := by decide +kernel
theorem dX12_both_16 : decode cX12_both 16 = .ok (.iload_n 3, 1) := by decide +kernel
theorem dX12_both_17 : decode cX12_both 17 = .ok (.i2l, 1) := by decide +kernel
theorem dX12_both_18 : decode cX12_both 18 = .ok (.lconst 0, 1) := by decide +kernel
theorem dX12_both_19 : decode cX12_both 19 = .ok (.ldc2_w 353, 3) := by decide +kernel
theorem dX12_both_22 : decode cX12_both 22 = .ok (.invokestatic 143, 3) := by decide +kernel
theorem dX12_both_25 : decode cX12_both 25 = .ok (.ifCond .ne 5, 3) := by decide +kernel
theorem dX12_both_28 : decode cX12_both 28 = .ok (.iconst (-1), 1) := by decide +kernel
theorem dX12_both_29 : decode cX12_both 29 = .ok (.ireturn, 1) := by decide +kernel
theorem dX12_both_30 : decode cX12_both 30 = .ok (.iload_n 3, 1) := by decide +kernel
theorem dX12_both_31 : decode cX12_both 31 = .ok (.ifCond .ne 18, 3) := by decide +kernel
theorem dX12_both_34 : decode cX12_both 34 = .ok (.aload_n 0, 1) := by decide +kernel
theorem dX12_both_35 : decode cX12_both 35 = .ok (.iload_n 1, 1) := by decide +kernel
theorem dX12_both_36 : decode cX12_both 36 = .ok (.iload_n 2, 1) := by decide +kernel
theorem dX12_both_37 : decode cX12_both 37 = .ok (.invokevirtual 355, 3) := by decide +kernel
theorem dX12_both_40 : decode cX12_both 40 = .ok (.ifCond .eq 7, 3) := by decide +kernel
theorem dX12_both_43 : decode cX12_both 43 = .ok (.iconst 1, 1) := by decide +kernel
theorem dX12_both_44 : decode cX12_both 44 = .ok (.goto 4, 3) := by decide +kernel
theorem dX12_both_47 : decode cX12_both 47 = .ok (.iconst 0, 1) := by decide +kernel
theorem dX12_both_48 : decode cX12_both 48 = .ok (.ireturn, 1) := by decide +kernel
theorem dX12_both_49 : decode cX12_both 49 = .ok (.aload_n 0, 1) := by decide +kernel
theorem dX12_both_50 : decode cX12_both 50 = .ok (.iload_n 1, 1) := by decide +kernel
theorem dX12_both_51 : decode cX12_both 51 = .ok (.iload_n 2, 1) := by decide +kernel
theorem dX12_both_52 : decode cX12_both 52 = .ok (.bipush 61, 2) := by decide +kernel
theorem dX12_both_54 : decode cX12_both 54 = .ok (.invokevirtual 245, 3) := by decide +kernel
theorem dX12_both_57 : decode cX12_both 57 = .ok (.iload_n 3, 1) := by decide +kernel
theorem dX12_both_58 : decode cX12_both 58 = .ok (.iconst 1, 1) := by decide +kernel
theorem dX12_both_59 : decode cX12_both 59 = .ok (.if_icmp .ne 28, 3) := by decide +kernel
theorem dX12_both_62 : decode cX12_both 62 = .ok (.aload_n 0, 1) := by decide +kernel
theorem dX12_both_63 : decode cX12_both 63 = .ok (.iload_n 2, 1) := by decide +kernel
theorem dX12_both_64 : decode cX12_both 64 = .ok (.iload_n 1, 1) := by decide +kernel
theorem dX12_both_65 : decode cX12_both 65 = .ok (.bipush 62, 2) := by decide +kernel
theorem dX12_both_67 : decode cX12_both 67 = .ok (.invokevirtual 245, 3) := by decide +kernel
theorem dX12_both_70 : decode cX12_both 70 = .ok (.aload_n 0, 1) := by decide +kernel
theorem dX12_both_71 : decode cX12_both 71 = .ok (.bipush 61, 2) := by decide +kernel
theorem dX12_both_73 : decode cX12_both 73 = .ok (.bipush 62, 2) := by decide +kernel
theorem dX12_both_75 : decode cX12_both 75 = .ok (.invokevirtual 355, 3) := by decide +kernel
theorem dX12_both_78 : decode cX12_both 78 = .ok (.ifCond .eq 7, 3) := by decide +kernel
theorem dX12_both_81 : decode cX12_both 81 = .ok (.iconst 1, 1) := by decide +kernel
theorem dX12_both_82 : decode cX12_both 82 = .ok (.goto 4, 3) := by decide +kernel
theorem dX12_both_85 : decode cX12_both 85 = .ok (.iconst 0, 1) := by decide +kernel
theorem dX12_both_86 : decode cX12_both 86 = .ok (.ireturn, 1) := by decide +kernel
theorem dX12_both_87 : decode cX12_both 87 = .ok (.iload_n 3, 1) := by decide +kernel
theorem dX12_both_88 : decode cX12_both 88 = .ok (.iconst 2, 1) := by decide +kernel
theorem dX12_both_89 : decode cX12_both 89 = .ok (.if_icmp .ne 19, 3) := by decide +kernel
theorem dX12_both_92 : decode cX12_both 92 = .ok (.aload_n 0, 1) := by decide +kernel
theorem dX12_both_93 : decode cX12_both 93 = .ok (.bipush 61, 2) := by decide +kernel
theorem dX12_both_95 : decode cX12_both 95 = .ok (.iload_n 1, 1) := by decide +kernel
theorem dX12_both_96 : decode cX12_both 96 = .ok (.invokevirtual 355, 3) := by decide +kernel
theorem dX12_both_99 : decode cX12_both 99 = .ok (.ifCond .eq 7, 3) := by decide +kernel
theorem dX12_both_102 : decode cX12_both 102 = .ok (.iconst 1, 1) := by decide +kernel
theorem dX12_both_103 : decode cX12_both 103 = .ok (.goto 4, 3) := by decide +kernel
theorem dX12_both_106 : decode cX12_both 106 = .ok (.iconst 0, 1) := by decide +kernel
theorem dX12_both_107 : decode cX12_both 107 = .ok (.ireturn, 1) := by decide +kernel
theorem dX12_both_108 : decode cX12_both 108 = .ok (.aload_n 0, 1) := by decide +kernel
theorem dX12_both_109 : decode cX12_both 109 = .ok (.bipush 62, 2) := by decide +kernel
theorem dX12_both_111 : decode cX12_both 111 = .ok (.invokevirtual 227, 3) := by decide +kernel
theorem dX12_both_114 : decode cX12_both 114 = .ok (.aload_n 0, 1) := by decide +kernel
theorem dX12_both_115 : decode cX12_both 115 = .ok (.bipush 61, 2) := by decide +kernel
theorem dX12_both_117 : decode cX12_both 117 = .ok (.bipush 62, 2) := by decide +kernel
theorem dX12_both_119 : decode cX12_both 119 = .ok (.invokevirtual 355, 3) := by decide +kernel
theorem dX12_both_122 : decode cX12_both 122 = .ok (.ifCond .eq 7, 3) := by decide +kernel
theorem dX12_both_125 : decode cX12_both 125 = .ok (.iconst 1, 1) := by decide +kernel
theorem dX12_both_126 : decode cX12_both 126 = .ok (.goto 4, 3) := by decide +kernel
theorem dX12_both_129 : decode cX12_both 129 = .ok (.iconst 0, 1) := by decide +kernel
theorem dX12_both_130 : decode cX12_both 130 = .ok (.ireturn, 1) := by decide +kernel
def f_X12_both_u28 (Q : Int → ml_St → Prop) (σ : ml_St) : Prop :=
Q (-1) σ
def f_X12_both_u48 (Q : Int → ml_St → Prop) (σ : ml_St) (s0 : Int) : Prop :=
Q s0 σ
def f_X12_both_u86 (Q : Int → ml_St → Prop) (σ : ml_St) (s0 : Int) : Prop :=
Q s0 σ
def f_X12_both_u107 (Q : Int → ml_St → Prop) (σ : ml_St) (s0 : Int) : Prop :=
Q s0 σ
def f_X12_both_u130 (Q : Int → ml_St → Prop) (σ : ml_St) (s0 : Int) : Prop :=
Q s0 σ
def f_X12_both_u0 (Q : Int → ml_St → Prop) (σ : ml_St) (x1 : Int) (x2 : Int) (x3 : Int) : Prop :=
f_X12_isMade σ x1 (fun r1 σ1 => ∀ _ : ml_B r1,
(r1 = 0 →
f_X12_both_u28 Q σ1) ∧
(r1 ≠ 0 →
f_X12_isMade σ1 x2 (fun r3 σ3 => ∀ _ : ml_B r3,
(r3 = 0 →
f_X12_both_u28 Q σ3) ∧
(r3 ≠ 0 →
f_X12_lies σ3 x3 0 3 (fun r5 σ5 => ∀ _ : ml_B r5,
(r5 ≠ 0 →
(x3 ≠ 0 →
f_X12_lays σ5 x1 x2 61 (fun σ8 =>
(x3 ≠ 1 →
(x3 ≠ 2 →
f_X12_straight σ8 62 (fun σ11 =>
f_X12_areAlike σ11 61 62 (fun r12 σ12 => ∀ _ : ml_B r12,
(r12 = 0 →
f_X12_both_u130 Q σ12 0) ∧
(r12 ≠ 0 →
f_X12_both_u130 Q σ12 1)))) ∧
(x3 = 2 →
f_X12_areAlike σ8 61 x1 (fun r14 σ14 => ∀ _ : ml_B r14,
(r14 = 0 →
f_X12_both_u107 Q σ14 0) ∧
(r14 ≠ 0 →
f_X12_both_u107 Q σ14 1)))) ∧
(x3 = 1 →
f_X12_lays σ8 x2 x1 62 (fun σ16 =>
f_X12_areAlike σ16 61 62 (fun r17 σ17 => ∀ _ : ml_B r17,
(r17 = 0 →
f_X12_both_u86 Q σ17 0) ∧
(r17 ≠ 0 →
f_X12_both_u86 Q σ17 1)))))) ∧
(x3 = 0 →
f_X12_areAlike σ5 x1 x2 (fun r19 σ19 => ∀ _ : ml_B r19,
(r19 = 0 →
f_X12_both_u48 Q σ19 0) ∧
(r19 ≠ 0 →
f_X12_both_u48 Q σ19 1)))) ∧
(r5 = 0 →
f_X12_both_u28 Q σ5))))))
def f_X12_both (σ : ml_St) (x1 : Int) (x2 : Int) (x3 : Int) (Q : Int → ml_St → Prop) : Prop := f_X12_both_u0 Q σ x1 x2 x3
def rm_X12_both : Room := { frames := 4, cells := 0, slots := 0, locals := 86 }
set_option maxRecDepth 100000 in
set_option maxHeartbeats 4000000 in
theorem u_X12_both_28 {p : Program} {e : Env} {s : State} {m : MethodId} {args : Array Value} {below : List Frame} {meth : Method} {c : Code} {base : Nat} {D : va_G} {cA : Nat → ClassId} {n : Nat} {l : Launch} {Q : Int → ml_St → Prop} (X : ml_X p s m c meth args D cA cX12_both 4 RX12 (some .int)) (hn : 256 ≤ n) (σ : ml_St) (ls : Array Slot) (hl : lv_has ls 4 []) (hw : f_X12_both_u28 Q σ) : ml_V p l e rm_X12_both s m args below meth c (MQ below (ml_Qi I32 base D cA n Q) args s 0 0 (ml_A base)) base D cA 0 0 n n σ (F0 m 28 ls []) := by
  unfold f_X12_both_u28 at hw
  refine ml_iconst (pc := 28) X dX12_both_28 ?_
  exact ml_iret (pc := 29) X ⟨by decide, by decide⟩ hw dX12_both_29
set_option maxRecDepth 100000 in
set_option maxHeartbeats 4000000 in
theorem u_X12_both_48 {p : Program} {e : Env} {s : State} {m : MethodId} {args : Array Value} {below : List Frame} {meth : Method} {c : Code} {base : Nat} {D : va_G} {cA : Nat → ClassId} {n : Nat} {l : Launch} {Q : Int → ml_St → Prop} (X : ml_X p s m c meth args D cA cX12_both 4 RX12 (some .int)) (hn : 256 ≤ n) (σ : ml_St) (s0 : Int) (h_s0 : ml_B s0) (ls : Array Slot) (hl : lv_has ls 4 []) (hw : f_X12_both_u48 Q σ s0) : ml_V p l e rm_X12_both s m args below meth c (MQ below (ml_Qi I32 base D cA n Q) args s 0 0 (ml_A base)) base D cA 0 0 n n σ (F0 m 48 ls [.int (Int32.ofInt s0)]) := by
  unfold f_X12_both_u48 at hw
  exact ml_iret (pc := 48) X h_s0.i hw dX12_both_48
set_option maxRecDepth 100000 in
set_option maxHeartbeats 4000000 in
theorem u_X12_both_86 {p : Program} {e : Env} {s : State} {m : MethodId} {args : Array Value} {below : List Frame} {meth : Method} {c : Code} {base : Nat} {D : va_G} {cA : Nat → ClassId} {n : Nat} {l : Launch} {Q : Int → ml_St → Prop} (X : ml_X p s m c meth args D cA cX12_both 4 RX12 (some .int)) (hn : 256 ≤ n) (σ : ml_St) (s0 : Int) (h_s0 : ml_B s0) (ls : Array Slot) (hl : lv_has ls 4 []) (hw : f_X12_both_u86 Q σ s0) : ml_V p l e rm_X12_both s m args below meth c (MQ below (ml_Qi I32 base D cA n Q) args s 0 0 (ml_A base)) base D cA 0 0 n n σ (F0 m 86 ls [.int (Int32.ofInt s0)]) := by
  unfold f_X12_both_u86 at hw
  exact ml_iret (pc := 86) X h_s0.i hw dX12_both_86
set_option maxRecDepth 100000 in
set_option maxHeartbeats 4000000 in
theorem u_X12_both_107 {p : Program} {e : Env} {s : State} {m : MethodId} {args : Array Value} {below : List Frame} {meth : Method} {c : Code} {base : Nat} {D : va_G} {cA : Nat → ClassId} {n : Nat} {l : Launch} {Q : Int → ml_St → Prop} (X : ml_X p s m c meth args D cA cX12_both 4 RX12 (some .int)) (hn : 256 ≤ n) (σ : ml_St) (s0 : Int) (h_s0 : ml_B s0) (ls : Array Slot) (hl : lv_has ls 4 []) (hw : f_X12_both_u107 Q σ s0) : ml_V p l e rm_X12_both s m args below meth c (MQ below (ml_Qi I32 base D cA n Q) args s 0 0 (ml_A base)) base D cA 0 0 n n σ (F0 m 107 ls [.int (Int32.ofInt s0)]) := by
  unfold f_X12_both_u107 at hw
  exact ml_iret (pc := 107) X h_s0.i hw dX12_both_107
set_option maxRecDepth 100000 in
set_option maxHeartbeats 4000000 in
theorem u_X12_both_130 {p : Program} {e : Env} {s : State} {m : MethodId} {args : Array Value} {below : List Frame} {meth : Method} {c : Code} {base : Nat} {D : va_G} {cA : Nat → ClassId} {n : Nat} {l : Launch} {Q : Int → ml_St → Prop} (X : ml_X p s m c meth args D cA cX12_both 4 RX12 (some .int)) (hn : 256 ≤ n) (σ : ml_St) (s0 : Int) (h_s0 : ml_B s0) (ls : Array Slot) (hl : lv_has ls 4 []) (hw : f_X12_both_u130 Q σ s0) : ml_V p l e rm_X12_both s m args below meth c (MQ below (ml_Qi I32 base D cA n Q) args s 0 0 (ml_A base)) base D cA 0 0 n n σ (F0 m 130 ls [.int (Int32.ofInt s0)]) := by
  unfold f_X12_both_u130 at hw
  exact ml_iret (pc := 130) X h_s0.i hw dX12_both_130
set_option maxRecDepth 100000 in
set_option maxHeartbeats 4000000 in
theorem u_X12_both_0 {p : Program} {e : Env} {s : State} {m : MethodId} {args : Array Value} {below : List Frame} {meth : Method} {c : Code} {base : Nat} {D : va_G} {cA : Nat → ClassId} {n : Nat} {l : Launch} {Q : Int → ml_St → Prop} (X : ml_X p s m c meth args D cA cX12_both 4 RX12 (some .int)) (hn : 256 ≤ n) (σ : ml_St) (x1 : Int) (x2 : Int) (x3 : Int) (h_x1 : I32 x1) (h_x2 : I32 x2) (h_x3 : I32 x3) (ls : Array Slot) (hl : lv_has ls 4 [(0, .ref (base + (215 : Int).toNat)), (1, .int (Int32.ofInt x1)), (2, .int (Int32.ofInt x2)), (3, .int (Int32.ofInt x3))]) (hw : f_X12_both_u0 Q σ x1 x2 x3) : ml_V p l e rm_X12_both s m args below meth c (MQ below (ml_Qi I32 base D cA n Q) args s 0 0 (ml_A base)) base D cA 0 0 n n σ (F0 m 0 ls []) := by
  unfold f_X12_both_u0 at hw
  refine ml_aload_n (pc := 0) X hl 0 rfl rfl dX12_both_0 ?_
  refine ml_iload_n (pc := 1) X hl 1 rfl rfl dX12_both_1 ?_
  refine ml_callzV (pc := 2) (rest := []) X [.int (Int32.ofInt x1)] (by decide) rfl (ml_c215 hn) (c_X12_isMade l base D cA n hn σ x1 h_x1 _ hw) cv_X12_292 ⟨rfl, rfl⟩ ⟨by decide, by decide⟩ rfl rfl hl (Nat.le_of_ble_eq_true rfl) ⟨Nat.zero_le _, Nat.zero_le _⟩ dX12_both_2 (fun r1 σ1 t1 hw => ?_)
  have hw := hw t1
  refine ml_if_eq (pc := 5) (tgt := 28) X t1.i dX12_both_5 (by decide) (fun c2 => ?_) (fun c2 => ?_)
  · have hw := hw.1 c2
    exact u_X12_both_28 X hn σ1   _ (lv_sub hl [] rfl) hw
  · have hw := hw.2 c2
    refine ml_aload_n (pc := 8) X hl 0 rfl rfl dX12_both_8 ?_
    refine ml_iload_n (pc := 9) X hl 2 rfl rfl dX12_both_9 ?_
    refine ml_callzV (pc := 10) (rest := []) X [.int (Int32.ofInt x2)] (by decide) rfl (ml_c215 hn) (c_X12_isMade l base D cA n hn σ1 x2 h_x2 _ hw) cv_X12_292 ⟨rfl, rfl⟩ ⟨by decide, by decide⟩ rfl rfl hl (Nat.le_of_ble_eq_true rfl) ⟨Nat.zero_le _, Nat.zero_le _⟩ dX12_both_10 (fun r3 σ3 t3 hw => ?_)
    have hw := hw t3
    refine ml_if_eq (pc := 13) (tgt := 28) X t3.i dX12_both_13 (by decide) (fun c4 => ?_) (fun c4 => ?_)
    · have hw := hw.1 c4
      exact u_X12_both_28 X hn σ3   _ (lv_sub hl [] rfl) hw
    · have hw := hw.2 c4
      refine ml_iload_n (pc := 16) X hl 3 rfl rfl dX12_both_16 ?_
      refine ml_i2l (pc := 17) X h_x3 dX12_both_17 ?_
      refine ml_lconst0 (pc := 18) X dX12_both_18 ?_
      refine ml_ldc2 (pc := 19) (v := 3) X dX12_both_19 tc_6_133 ?_
      refine ml_callzS (pc := 22) (rest := []) X [.long (Int64.ofInt x3), .long (Int64.ofInt 0), .long (Int64.ofInt 3)] (c_X12_lies l base D cA n hn σ3 x3 0 3 (h_x3).l ⟨by decide, by decide⟩ ⟨by decide, by decide⟩ _ hw) cv_X12_143 ⟨rfl, rfl⟩ ⟨by decide, by decide⟩ rfl rfl hl (Nat.le_of_ble_eq_true rfl) ⟨Nat.zero_le _, Nat.zero_le _⟩ dX12_both_22 (fun r5 σ5 t5 hw => ?_)
      have hw := hw t5
      refine ml_if_ne (pc := 25) (tgt := 30) X t5.i dX12_both_25 (by decide) (fun c6 => ?_) (fun c6 => ?_)
      · have hw := hw.1 c6
        refine ml_iload_n (pc := 30) X hl 3 rfl rfl dX12_both_30 ?_
        refine ml_if_ne (pc := 31) (tgt := 49) X h_x3 dX12_both_31 (by decide) (fun c7 => ?_) (fun c7 => ?_)
        · have hw := hw.1 c7
          refine ml_aload_n (pc := 49) X hl 0 rfl rfl dX12_both_49 ?_
          refine ml_iload_n (pc := 50) X hl 1 rfl rfl dX12_both_50 ?_
          refine ml_iload_n (pc := 51) X hl 2 rfl rfl dX12_both_51 ?_
          refine ml_bipush (pc := 52) X dX12_both_52 (by decide) ?_
          refine ml_callvV (pc := 54) (rest := []) X [.int (Int32.ofInt x1), .int (Int32.ofInt x2), .int (Int32.ofInt 61)] (by decide) rfl (ml_c215 hn) (c_X12_lays l base D cA n hn σ5 x1 x2 61 h_x1 h_x2 ⟨by decide, by decide⟩ _ hw) cv_X12_245 ⟨rfl, rfl⟩ ⟨by decide, by decide⟩ rfl rfl hl (Nat.le_of_ble_eq_true rfl) ⟨Nat.zero_le _, Nat.zero_le _⟩ dX12_both_54 (fun σ8 hw => ?_)
          refine ml_iload_n (pc := 57) X hl 3 rfl rfl dX12_both_57 ?_
          refine ml_iconst (pc := 58) X dX12_both_58 ?_
          refine ml_icmp_ne (pc := 59) (tgt := 87) X h_x3 ⟨by decide, by decide⟩ dX12_both_59 (by decide) (fun c9 => ?_) (fun c9 => ?_)
          · have hw := hw.1 c9
            refine ml_iload_n (pc := 87) X hl 3 rfl rfl dX12_both_87 ?_
            refine ml_iconst (pc := 88) X dX12_both_88 ?_
            refine ml_icmp_ne (pc := 89) (tgt := 108) X h_x3 ⟨by decide, by decide⟩ dX12_both_89 (by decide) (fun c10 => ?_) (fun c10 => ?_)
            · have hw := hw.1 c10
              refine ml_aload_n (pc := 108) X hl 0 rfl rfl dX12_both_108 ?_
              refine ml_bipush (pc := 109) X dX12_both_109 (by decide) ?_
              refine ml_callvV (pc := 111) (rest := []) X [.int (Int32.ofInt 62)] (by decide) rfl (ml_c215 hn) (c_X12_straight l base D cA n hn σ8 62 ⟨by decide, by decide⟩ _ hw) cv_X12_227 ⟨rfl, rfl⟩ ⟨by decide, by decide⟩ rfl rfl hl (Nat.le_of_ble_eq_true rfl) ⟨Nat.zero_le _, Nat.zero_le _⟩ dX12_both_111 (fun σ11 hw => ?_)
              refine ml_aload_n (pc := 114) X hl 0 rfl rfl dX12_both_114 ?_
              refine ml_bipush (pc := 115) X dX12_both_115 (by decide) ?_
              refine ml_bipush (pc := 117) X dX12_both_117 (by decide) ?_
              refine ml_callzV (pc := 119) (rest := []) X [.int (Int32.ofInt 61), .int (Int32.ofInt 62)] (by decide) rfl (ml_c215 hn) (c_X12_areAlike l base D cA n hn σ11 61 62 ⟨by decide, by decide⟩ ⟨by decide, by decide⟩ _ hw) cv_X12_355 ⟨rfl, rfl⟩ ⟨by decide, by decide⟩ rfl rfl hl (Nat.le_of_ble_eq_true rfl) ⟨Nat.zero_le _, Nat.zero_le _⟩ dX12_both_119 (fun r12 σ12 t12 hw => ?_)
              have hw := hw t12
              refine ml_if_eq (pc := 122) (tgt := 129) X t12.i dX12_both_122 (by decide) (fun c13 => ?_) (fun c13 => ?_)
              · have hw := hw.1 c13
                refine ml_iconst (pc := 129) X dX12_both_129 ?_
                exact u_X12_both_130 X hn σ12 0 ⟨by decide, by decide⟩ _ (lv_sub hl [] rfl) hw
              · have hw := hw.2 c13
                refine ml_iconst (pc := 125) X dX12_both_125 ?_
                refine ml_goto (pc := 126) (tgt := 130) X dX12_both_126 (by decide) ?_
                exact u_X12_both_130 X hn σ12 1 ⟨by decide, by decide⟩ _ (lv_sub hl [] rfl) hw
            · have hw := hw.2 c10
              refine ml_aload_n (pc := 92) X hl 0 rfl rfl dX12_both_92 ?_
              refine ml_bipush (pc := 93) X dX12_both_93 (by decide) ?_
              refine ml_iload_n (pc := 95) X hl 1 rfl rfl dX12_both_95 ?_
              refine ml_callzV (pc := 96) (rest := []) X [.int (Int32.ofInt 61), .int (Int32.ofInt x1)] (by decide) rfl (ml_c215 hn) (c_X12_areAlike l base D cA n hn σ8 61 x1 ⟨by decide, by decide⟩ h_x1 _ hw) cv_X12_355 ⟨rfl, rfl⟩ ⟨by decide, by decide⟩ rfl rfl hl (Nat.le_of_ble_eq_true rfl) ⟨Nat.zero_le _, Nat.zero_le _⟩ dX12_both_96 (fun r14 σ14 t14 hw => ?_)
              have hw := hw t14
              refine ml_if_eq (pc := 99) (tgt := 106) X t14.i dX12_both_99 (by decide) (fun c15 => ?_) (fun c15 => ?_)
              · have hw := hw.1 c15
                refine ml_iconst (pc := 106) X dX12_both_106 ?_
                exact u_X12_both_107 X hn σ14 0 ⟨by decide, by decide⟩ _ (lv_sub hl [] rfl) hw
              · have hw := hw.2 c15
                refine ml_iconst (pc := 102) X dX12_both_102 ?_
                refine ml_goto (pc := 103) (tgt := 107) X dX12_both_103 (by decide) ?_
                exact u_X12_both_107 X hn σ14 1 ⟨by decide, by decide⟩ _ (lv_sub hl [] rfl) hw
          · have hw := hw.2 c9
            refine ml_aload_n (pc := 62) X hl 0 rfl rfl dX12_both_62 ?_
            refine ml_iload_n (pc := 63) X hl 2 rfl rfl dX12_both_63 ?_
            refine ml_iload_n (pc := 64) X hl 1 rfl rfl dX12_both_64 ?_
            refine ml_bipush (pc := 65) X dX12_both_65 (by decide) ?_
            refine ml_callvV (pc := 67) (rest := []) X [.int (Int32.ofInt x2), .int (Int32.ofInt x1), .int (Int32.ofInt 62)] (by decide) rfl (ml_c215 hn) (c_X12_lays l base D cA n hn σ8 x2 x1 62 h_x2 h_x1 ⟨by decide, by decide⟩ _ hw) cv_X12_245 ⟨rfl, rfl⟩ ⟨by decide, by decide⟩ rfl rfl hl (Nat.le_of_ble_eq_true rfl) ⟨Nat.zero_le _, Nat.zero_le _⟩ dX12_both_67 (fun σ16 hw => ?_)
            refine ml_aload_n (pc := 70) X hl 0 rfl rfl dX12_both_70 ?_
            refine ml_bipush (pc := 71) X dX12_both_71 (by decide) ?_
            refine ml_bipush (pc := 73) X dX12_both_73 (by decide) ?_
            refine ml_callzV (pc := 75) (rest := []) X [.int (Int32.ofInt 61), .int (Int32.ofInt 62)] (by decide) rfl (ml_c215 hn) (c_X12_areAlike l base D cA n hn σ16 61 62 ⟨by decide, by decide⟩ ⟨by decide, by decide⟩ _ hw) cv_X12_355 ⟨rfl, rfl⟩ ⟨by decide, by decide⟩ rfl rfl hl (Nat.le_of_ble_eq_true rfl) ⟨Nat.zero_le _, Nat.zero_le _⟩ dX12_both_75 (fun r17 σ17 t17 hw => ?_)
            have hw := hw t17
            refine ml_if_eq (pc := 78) (tgt := 85) X t17.i dX12_both_78 (by decide) (fun c18 => ?_) (fun c18 => ?_)
            · have hw := hw.1 c18
              refine ml_iconst (pc := 85) X dX12_both_85 ?_
              exact u_X12_both_86 X hn σ17 0 ⟨by decide, by decide⟩ _ (lv_sub hl [] rfl) hw
            · have hw := hw.2 c18
              refine ml_iconst (pc := 81) X dX12_both_81 ?_
              refine ml_goto (pc := 82) (tgt := 86) X dX12_both_82 (by decide) ?_
              exact u_X12_both_86 X hn σ17 1 ⟨by decide, by decide⟩ _ (lv_sub hl [] rfl) hw
        · have hw := hw.2 c7
          refine ml_aload_n (pc := 34) X hl 0 rfl rfl dX12_both_34 ?_
          refine ml_iload_n (pc := 35) X hl 1 rfl rfl dX12_both_35 ?_
          refine ml_iload_n (pc := 36) X hl 2 rfl rfl dX12_both_36 ?_
          refine ml_callzV (pc := 37) (rest := []) X [.int (Int32.ofInt x1), .int (Int32.ofInt x2)] (by decide) rfl (ml_c215 hn) (c_X12_areAlike l base D cA n hn σ5 x1 x2 h_x1 h_x2 _ hw) cv_X12_355 ⟨rfl, rfl⟩ ⟨by decide, by decide⟩ rfl rfl hl (Nat.le_of_ble_eq_true rfl) ⟨Nat.zero_le _, Nat.zero_le _⟩ dX12_both_37 (fun r19 σ19 t19 hw => ?_)
          have hw := hw t19
          refine ml_if_eq (pc := 40) (tgt := 47) X t19.i dX12_both_40 (by decide) (fun c20 => ?_) (fun c20 => ?_)
          · have hw := hw.1 c20
            refine ml_iconst (pc := 47) X dX12_both_47 ?_
            exact u_X12_both_48 X hn σ19 0 ⟨by decide, by decide⟩ _ (lv_sub hl [] rfl) hw
          · have hw := hw.2 c20
            refine ml_iconst (pc := 43) X dX12_both_43 ?_
            refine ml_goto (pc := 44) (tgt := 48) X dX12_both_44 (by decide) ?_
            exact u_X12_both_48 X hn σ19 1 ⟨by decide, by decide⟩ _ (lv_sub hl [] rfl) hw
      · have hw := hw.2 c6
        exact u_X12_both_28 X hn σ5   _ (lv_sub hl [] rfl) hw
set_option maxRecDepth 100000 in
theorem c_X12_both (l : Launch) (base : Nat) (D : va_G) (cA : Nat → ClassId) (n : Nat) (hn : 256 ≤ n) (σ : ml_St) (x1 : Int) (x2 : Int) (x3 : Int) (h_x1 : I32 x1) (h_x2 : I32 x2) (h_x3 : I32 x3) (Q : Int → ml_St → Prop) (hw : f_X12_both σ x1 x2 x3 Q) : Met l yX12_both (Cond.code yX12_both cX12_both 4 (some .int) :: ml_T) rm_X12_both (va_Pc [.ref (base + (215 : Int).toNat), .int (Int32.ofInt x1), .int (Int32.ofInt x2), .int (Int32.ofInt x3)] (ml_U base D cA n σ)) (ml_Qi I32 base D cA n Q) 0 0 (ml_A base) := by
  refine Met.ofW (cc := cX12_both) (maxL := 4) (ret := (some .int)) (by decide) rfl ?_
  intro p e s m args below meth c s₁ B hml hv
  obtain ⟨rfl, hP, hK, hok, hro⟩ := hv
  have X : ml_X p s m c meth _ D cA cX12_both 4 RX12 (some .int) := ⟨B.exec, B.bytes, hml, findClass_of_methodNamed B.named, fun w hw => atoms_spec (ws := Cond.code yX12_both cX12_both 4 (some .int) :: ml_T) B.pre w (List.mem_cons_of_mem _ hw), hK, B.notSynchronized, B.returns⟩
  have hl := lv_entry [.ref (base + (215 : Int).toNat), .int (Int32.ofInt x1), .int (Int32.ofInt x2), .int (Int32.ofInt x3)] (n := 4) (Nat.le_of_ble_eq_true rfl)
  rw [lg_entry_eq]
  generalize (lg_sl [.ref (base + (215 : Int).toNat), .int (Int32.ofInt x1), .int (Int32.ofInt x2), .int (Int32.ofInt x3)] ++ List.replicate (4 - (lg_sl [.ref (base + (215 : Int).toNat), .int (Int32.ofInt x1), .int (Int32.ofInt x2), .int (Int32.ofInt x3)]).length) Slot.unset).toArray = ls at hl ⊢
  have hl : lv_has ls 4 [(0, .ref (base + (215 : Int).toNat)), (1, .int (Int32.ofInt x1)), (2, .int (Int32.ofInt x2)), (3, .int (Int32.ofInt x3))] := hl
  unfold f_X12_both at hw
  exact u_X12_both_0 X hn σ x1 x2 x3 h_x1 h_x2 h_x3 _ (lv_sub hl [0, 1, 2, 3] rfl) hw s.heap [] hP va_S.rf hok hro
theorem dX12_isPlain_0 : decode cX12_isPlain 0 = .ok (.iconst 0, 1) := by decide +kernel
theorem dX12_isPlain_1 : decode cX12_isPlain 1 = .ok (.istore_n 2, 1) := by decide +kernel
theorem dX12_isPlain_2 : decode cX12_isPlain 2 = .ok (.iload_n 2, 1) := by decide +kernel
theorem dX12_isPlain_3 : decode cX12_isPlain 3 = .ok (.aload_n 0, 1) := by decide +kernel
theorem dX12_isPlain_4 : decode cX12_isPlain 4 = .ok (.getfield 24, 3) := by decide +kernel
theorem dX12_isPlain_7 : decode cX12_isPlain 7 = .ok (.iload_n 1, 1) := by decide +kernel
theorem dX12_isPlain_8 : decode cX12_isPlain 8 = .ok (.iaload, 1) := by decide +kernel
theorem dX12_isPlain_9 : decode cX12_isPlain 9 = .ok (.if_icmp .ge 42, 3) := by decide +kernel
theorem dX12_isPlain_12 : decode cX12_isPlain 12 = .ok (.aload_n 0, 1) := by decide +kernel
theorem dX12_isPlain_13 : decode cX12_isPlain 13 = .ok (.getfield 21, 3) := by decide +kernel
theorem dX12_isPlain_16 : decode cX12_isPlain 16 = .ok (.bipush 100, 2) := by decide +kernel
theorem dX12_isPlain_18 : decode cX12_isPlain 18 = .ok (.iload_n 1, 1) := by decide +kernel
theorem dX12_isPlain_19 : decode cX12_isPlain 19 = .ok (.imul, 1) := by decide +kernel
theorem dX12_isPlain_20 : decode cX12_isPlain 20 = .ok (.iload_n 2, 1) := by decide +kernel
theorem dX12_isPlain_21 : decode cX12_isPlain 21 = .ok (.iadd, 1) := by decide +kernel
theorem dX12_isPlain_22 : decode cX12_isPlain 22 = .ok (.baload, 1) := by decide +kernel
theorem dX12_isPlain_23 : decode cX12_isPlain 23 = .ok (.istore_n 3, 1) := by decide +kernel
theorem dX12_isPlain_24 : decode cX12_isPlain 24 = .ok (.iload_n 3, 1) := by decide +kernel
theorem dX12_isPlain_25 : decode cX12_isPlain 25 = .ok (.bipush 120, 2) := by decide +kernel
theorem dX12_isPlain_27 : decode cX12_isPlain 27 = .ok (.if_icmp .eq 18, 3) := by decide +kernel
theorem dX12_isPlain_30 : decode cX12_isPlain 30 = .ok (.iload_n 3, 1) := by decide +kernel
theorem dX12_isPlain_31 : decode cX12_isPlain 31 = .ok (.bipush 117, 2) := by decide +kernel
theorem dX12_isPlain_33 : decode cX12_isPlain 33 = .ok (.if_icmp .eq 12, 3) := by decide +kernel
theorem dX12_isPlain_36 : decode cX12_isPlain 36 = .ok (.iload_n 3, 1) := by decide +kernel
theorem dX12_isPlain_37 : decode cX12_isPlain 37 = .ok (.invokestatic 182, 3) := by decide +kernel
theorem dX12_isPlain_40 : decode cX12_isPlain 40 = .ok (.ifCond .ne 5, 3) := by decide +kernel
theorem dX12_isPlain_43 : decode cX12_isPlain 43 = .ok (.iconst 0, 1) := by decide +kernel
theorem dX12_isPlain_44 : decode cX12_isPlain 44 = .ok (.ireturn, 1) := by decide +kernel
theorem dX12_isPlain_45 : decode cX12_isPlain 45 = .ok (.iinc 2 1, 3) := by decide +kernel
theorem dX12_isPlain_48 : decode cX12_isPlain 48 = .ok (.goto (-46), 3) := by decide +kernel
theorem dX12_isPlain_51 : decode cX12_isPlain 51 = .ok (.iconst 1, 1) := by decide +kernel
theorem dX12_isPlain_52 : decode cX12_isPlain 52 = .ok (.ireturn, 1) := by decide +kernel
def f_X12_isPlain_u45 (Q : Int → ml_St → Prop) (K2 : ml_St → Int → Int → Prop) (σ : ml_St) (x1 : Int) (x2 : Int) : Prop :=
I32 (x2 + 1) ∧
∀ y1 : Int, y1 = x2 + 1 →
K2 σ x1 y1
def f_X12_isPlain_u2 (Q : Int → ml_St → Prop) (K43 : ml_St → Prop) (K51 : ml_St → Prop) : Nat → ml_St → Int → Int → Prop
| 0, _, _, _ => False
| N + 1, σ, x1, x2 =>
(0 : Int) ≤ x1 ∧ (x1 : Int) < 16 ∧
∀ _ : I32 (σ 219 x1),
((σ 219 x1) ≤ x2 →
K51 σ) ∧
(¬ ((σ 219 x1) ≤ x2) →
I32 (100 * x1) ∧
I32 ((100 * x1) + x2) ∧
(0 : Int) ≤ ((100 * x1) + x2) ∧ (((100 * x1) + x2) : Int) < 1600 ∧
∀ _ : ml_I8 (σ 218 ((100 * x1) + x2)),
∀ y6 : Int, y6 = σ 218 ((100 * x1) + x2) →
(y6 = 120 →
f_X12_isPlain_u45 Q (f_X12_isPlain_u2 Q K43 K51 N) σ x1 x2) ∧
(y6 ≠ 120 →
(y6 = 117 →
f_X12_isPlain_u45 Q (f_X12_isPlain_u2 Q K43 K51 N) σ x1 x2) ∧
(y6 ≠ 117 →
f_X12_isDigit σ y6 (fun r9 σ9 => ∀ _ : ml_B r9,
(r9 ≠ 0 →
f_X12_isPlain_u45 Q (f_X12_isPlain_u2 Q K43 K51 N) σ9 x1 x2) ∧
(r9 = 0 →
K43 σ9)))))
def f_X12_isPlain_u43 (Q : Int → ml_St → Prop) (σ : ml_St) : Prop :=
Q 0 σ
def f_X12_isPlain_u51 (Q : Int → ml_St → Prop) (σ : ml_St) : Prop :=
Q 1 σ
def f_X12_isPlain_u0 (Q : Int → ml_St → Prop) (σ : ml_St) (x1 : Int) : Prop :=
∃ N1, f_X12_isPlain_u2 Q (f_X12_isPlain_u43 Q) (f_X12_isPlain_u51 Q) N1 σ x1 0
def f_X12_isPlain (σ : ml_St) (x1 : Int) (Q : Int → ml_St → Prop) : Prop := f_X12_isPlain_u0 Q σ x1
def rm_X12_isPlain : Room := { frames := 1, cells := 0, slots := 0, locals := 20 }
set_option maxRecDepth 100000 in
set_option maxHeartbeats 4000000 in
theorem u_X12_isPlain_45 {p : Program} {e : Env} {s : State} {m : MethodId} {args : Array Value} {below : List Frame} {meth : Method} {c : Code} {base : Nat} {D : va_G} {cA : Nat → ClassId} {n : Nat} {l : Launch} {Q : Int → ml_St → Prop} {K2 : ml_St → Int → Int → Prop} (X : ml_X p s m c meth args D cA cX12_isPlain 4 RX12 (some .boolean)) (hn : 256 ≤ n) (hK2 : ∀ (σ : ml_St) (x1 : Int) (x2 : Int) (h_x1 : I32 x1) (h_x2 : I32 x2) (ls : Array Slot), lv_has ls 4 [(0, .ref (base + (215 : Int).toNat)), (1, .int (Int32.ofInt x1)), (2, .int (Int32.ofInt x2))] → K2 σ x1 x2 → ml_V p l e rm_X12_isPlain s m args below meth c (MQ below (ml_Qi ml_B base D cA n Q) args s 0 0 (ml_A base)) base D cA 0 0 n n σ (F0 m 2 ls [])) (σ : ml_St) (x1 : Int) (x2 : Int) (h_x1 : I32 x1) (h_x2 : I32 x2) (ls : Array Slot) (hl : lv_has ls 4 [(0, .ref (base + (215 : Int).toNat)), (1, .int (Int32.ofInt x1)), (2, .int (Int32.ofInt x2))]) (hw : f_X12_isPlain_u45 Q K2 σ x1 x2) : ml_V p l e rm_X12_isPlain s m args below meth c (MQ below (ml_Qi ml_B base D cA n Q) args s 0 0 (ml_A base)) base D cA 0 0 n n σ (F0 m 45 ls []) := by
  unfold f_X12_isPlain_u45 at hw
  obtain ⟨v1, hw⟩ := hw
  obtain ⟨y1, e1⟩ : ∃ y : Int, y = x2 + 1 := ⟨_, rfl⟩
  have hw := hw y1 e1
  rw [← e1] at v1
  refine ml_iinc (pc := 45) X e1 hl 2 rfl (by decide) (lst' := [(2, .int (Int32.ofInt y1)), (0, .ref (base + (215 : Int).toNat)), (1, .int (Int32.ofInt x1))]) rfl dX12_isPlain_45 (fun ls hl => ?_)
  refine ml_goto (pc := 48) (tgt := 2) X dX12_isPlain_48 (by decide) ?_
  exact hK2 σ x1 y1 h_x1 v1 _ (lv_sub hl [1, 2, 0] rfl) hw
set_option maxRecDepth 100000 in
set_option maxHeartbeats 4000000 in
theorem u_X12_isPlain_2 {p : Program} {e : Env} {s : State} {m : MethodId} {args : Array Value} {below : List Frame} {meth : Method} {c : Code} {base : Nat} {D : va_G} {cA : Nat → ClassId} {n : Nat} {l : Launch} {Q : Int → ml_St → Prop} {K43 : ml_St → Prop} {K51 : ml_St → Prop} (X : ml_X p s m c meth args D cA cX12_isPlain 4 RX12 (some .boolean)) (hn : 256 ≤ n) (hK43 : ∀ (σ : ml_St) (ls : Array Slot), lv_has ls 4 [] → K43 σ → ml_V p l e rm_X12_isPlain s m args below meth c (MQ below (ml_Qi ml_B base D cA n Q) args s 0 0 (ml_A base)) base D cA 0 0 n n σ (F0 m 43 ls [])) (hK51 : ∀ (σ : ml_St) (ls : Array Slot), lv_has ls 4 [] → K51 σ → ml_V p l e rm_X12_isPlain s m args below meth c (MQ below (ml_Qi ml_B base D cA n Q) args s 0 0 (ml_A base)) base D cA 0 0 n n σ (F0 m 51 ls [])) : ∀ (N : Nat) (σ : ml_St) (x1 : Int) (x2 : Int) (h_x1 : I32 x1) (h_x2 : I32 x2) (ls : Array Slot), lv_has ls 4 [(0, .ref (base + (215 : Int).toNat)), (1, .int (Int32.ofInt x1)), (2, .int (Int32.ofInt x2))] → f_X12_isPlain_u2 Q K43 K51 N σ x1 x2 → ml_V p l e rm_X12_isPlain s m args below meth c (MQ below (ml_Qi ml_B base D cA n Q) args s 0 0 (ml_A base)) base D cA 0 0 n n σ (F0 m 2 ls []) := by
  intro N
  induction N with
  | zero => intro σ x1 x2 h_x1 h_x2 ls hl hw; exact False.elim hw
  | succ N ih =>
    intro σ x1 x2 h_x1 h_x2 ls hl hw
    unfold f_X12_isPlain_u2 at hw
    refine ml_iload_n (pc := 2) X hl 2 rfl rfl dX12_isPlain_2 ?_
    refine ml_aload_n (pc := 3) X hl 0 rfl rfl dX12_isPlain_3 ?_
    refine gf_X12_24 (pc := 4) X (ml_c215 hn) dX12_isPlain_4 ?_
    refine ml_iload_n (pc := 7) X hl 1 rfl rfl dX12_isPlain_7 ?_
    obtain ⟨a1, b1, hw⟩ := hw
    refine ml_iald (pc := 8) (N := 16) X (ml_c219 hn) a1 b1 dX12_isPlain_8 (fun r1 => ?_)
    have hw := hw r1
    refine ml_icmp_ge (pc := 9) (tgt := 51) X h_x2 r1 dX12_isPlain_9 (by decide) (fun c2 => ?_) (fun c2 => ?_)
    · have hw := hw.1 c2
      exact hK51 σ   _ (lv_sub hl [] rfl) hw
    · have hw := hw.2 c2
      refine ml_aload_n (pc := 12) X hl 0 rfl rfl dX12_isPlain_12 ?_
      refine gf_X12_21 (pc := 13) X (ml_c215 hn) dX12_isPlain_13 ?_
      refine ml_bipush (pc := 16) X dX12_isPlain_16 (by decide) ?_
      refine ml_iload_n (pc := 18) X hl 1 rfl rfl dX12_isPlain_18 ?_
      obtain ⟨v3, hw⟩ := hw
      refine ml_imul (pc := 19) X dX12_isPlain_19 ?_
      refine ml_iload_n (pc := 20) X hl 2 rfl rfl dX12_isPlain_20 ?_
      obtain ⟨v4, hw⟩ := hw
      refine ml_iadd (pc := 21) X dX12_isPlain_21 ?_
      obtain ⟨a5, b5, hw⟩ := hw
      refine ml_bald (pc := 22) (N := 1600) X (ml_c218 hn) a5 b5 dX12_isPlain_22 (fun r5 => ?_)
      have hw := hw r5
      refine ml_topI (pc := 23) (fun y6 e6 => ?_)
      have hw := hw y6 e6
      have q6 : ml_I8 y6 := by rw [e6]; exact r5
      refine ml_istore_n (pc := 23) X rfl hl (by decide) (lst' := [(3, .int (Int32.ofInt y6)), (0, .ref (base + (215 : Int).toNat)), (1, .int (Int32.ofInt x1)), (2, .int (Int32.ofInt x2))]) rfl dX12_isPlain_23 (fun ls hl => ?_)
      refine ml_iload_n (pc := 24) X hl 0 rfl rfl dX12_isPlain_24 ?_
      refine ml_bipush (pc := 25) X dX12_isPlain_25 (by decide) ?_
      refine ml_icmp_eq (pc := 27) (tgt := 45) X q6.i ⟨by decide, by decide⟩ dX12_isPlain_27 (by decide) (fun c7 => ?_) (fun c7 => ?_)
      · have hw := hw.1 c7
        exact u_X12_isPlain_45 X hn ih σ x1 x2 h_x1 h_x2 _ (lv_sub hl [1, 2, 3] rfl) hw
      · have hw := hw.2 c7
        refine ml_iload_n (pc := 30) X hl 0 rfl rfl dX12_isPlain_30 ?_
        refine ml_bipush (pc := 31) X dX12_isPlain_31 (by decide) ?_
        refine ml_icmp_eq (pc := 33) (tgt := 45) X q6.i ⟨by decide, by decide⟩ dX12_isPlain_33 (by decide) (fun c8 => ?_) (fun c8 => ?_)
        · have hw := hw.1 c8
          exact u_X12_isPlain_45 X hn ih σ x1 x2 h_x1 h_x2 _ (lv_sub hl [1, 2, 3] rfl) hw
        · have hw := hw.2 c8
          refine ml_iload_n (pc := 36) X hl 0 rfl rfl dX12_isPlain_36 ?_
          refine ml_callzS (pc := 37) (rest := []) X [.int (Int32.ofInt y6)] (c_X12_isDigit l base D cA n hn σ y6 q6.i _ hw) cv_X12_182 ⟨rfl, rfl⟩ ⟨by decide, by decide⟩ rfl rfl hl (Nat.le_of_ble_eq_true rfl) ⟨Nat.zero_le _, Nat.zero_le _⟩ dX12_isPlain_37 (fun r9 σ9 t9 hw => ?_)
          have hw := hw t9
          refine ml_if_ne (pc := 40) (tgt := 45) X t9.i dX12_isPlain_40 (by decide) (fun c10 => ?_) (fun c10 => ?_)
          · have hw := hw.1 c10
            exact u_X12_isPlain_45 X hn ih σ9 x1 x2 h_x1 h_x2 _ (lv_sub hl [1, 2, 3] rfl) hw
          · have hw := hw.2 c10
            exact hK43 σ9   _ (lv_sub hl [] rfl) hw
set_option maxRecDepth 100000 in
set_option maxHeartbeats 4000000 in
theorem u_X12_isPlain_43 {p : Program} {e : Env} {s : State} {m : MethodId} {args : Array Value} {below : List Frame} {meth : Method} {c : Code} {base : Nat} {D : va_G} {cA : Nat → ClassId} {n : Nat} {l : Launch} {Q : Int → ml_St → Prop} (X : ml_X p s m c meth args D cA cX12_isPlain 4 RX12 (some .boolean)) (hn : 256 ≤ n) (σ : ml_St) (ls : Array Slot) (hl : lv_has ls 4 []) (hw : f_X12_isPlain_u43 Q σ) : ml_V p l e rm_X12_isPlain s m args below meth c (MQ below (ml_Qi ml_B base D cA n Q) args s 0 0 (ml_A base)) base D cA 0 0 n n σ (F0 m 43 ls []) := by
  unfold f_X12_isPlain_u43 at hw
  refine ml_iconst (pc := 43) X dX12_isPlain_43 ?_
  exact ml_zret (pc := 44) X ⟨by decide, by decide⟩ hw dX12_isPlain_44
set_option maxRecDepth 100000 in
set_option maxHeartbeats 4000000 in
theorem u_X12_isPlain_51 {p : Program} {e : Env} {s : State} {m : MethodId} {args : Array Value} {below : List Frame} {meth : Method} {c : Code} {base : Nat} {D : va_G} {cA : Nat → ClassId} {n : Nat} {l : Launch} {Q : Int → ml_St → Prop} (X : ml_X p s m c meth args D cA cX12_isPlain 4 RX12 (some .boolean)) (hn : 256 ≤ n) (σ : ml_St) (ls : Array Slot) (hl : lv_has ls 4 []) (hw : f_X12_isPlain_u51 Q σ) : ml_V p l e rm_X12_isPlain s m args below meth c (MQ below (ml_Qi ml_B base D cA n Q) args s 0 0 (ml_A base)) base D cA 0 0 n n σ (F0 m 51 ls []) := by
  unfold f_X12_isPlain_u51 at hw
  refine ml_iconst (pc := 51) X dX12_isPlain_51 ?_
  exact ml_zret (pc := 52) X ⟨by decide, by decide⟩ hw dX12_isPlain_52
set_option maxRecDepth 100000 in
set_option maxHeartbeats 4000000 in
theorem u_X12_isPlain_0 {p : Program} {e : Env} {s : State} {m : MethodId} {args : Array Value} {below : List Frame} {meth : Method} {c : Code} {base : Nat} {D : va_G} {cA : Nat → ClassId} {n : Nat} {l : Launch} {Q : Int → ml_St → Prop} (X : ml_X p s m c meth args D cA cX12_isPlain 4 RX12 (some .boolean)) (hn : 256 ≤ n) (σ : ml_St) (x1 : Int) (h_x1 : I32 x1) (ls : Array Slot) (hl : lv_has ls 4 [(0, .ref (base + (215 : Int).toNat)), (1, .int (Int32.ofInt x1))]) (hw : f_X12_isPlain_u0 Q σ x1) : ml_V p l e rm_X12_isPlain s m args below meth c (MQ below (ml_Qi ml_B base D cA n Q) args s 0 0 (ml_A base)) base D cA 0 0 n n σ (F0 m 0 ls []) := by
  unfold f_X12_isPlain_u0 at hw
  refine ml_iconst (pc := 0) X dX12_isPlain_0 ?_
  refine ml_istore_n (pc := 1) X rfl hl (by decide) (lst' := [(2, .int (Int32.ofInt 0)), (0, .ref (base + (215 : Int).toNat)), (1, .int (Int32.ofInt x1))]) rfl dX12_isPlain_1 (fun ls hl => ?_)
  obtain ⟨N0, hw⟩ := hw
  exact u_X12_isPlain_2 X hn (fun σ   ls hl hw => u_X12_isPlain_43 X hn σ   ls hl hw) (fun σ   ls hl hw => u_X12_isPlain_51 X hn σ   ls hl hw) N0 σ x1 0 h_x1 ⟨by decide, by decide⟩ _ (lv_sub hl [1, 2, 0] rfl) hw
set_option maxRecDepth 100000 in
theorem c_X12_isPlain (l : Launch) (base : Nat) (D : va_G) (cA : Nat → ClassId) (n : Nat) (hn : 256 ≤ n) (σ : ml_St) (x1 : Int) (h_x1 : I32 x1) (Q : Int → ml_St → Prop) (hw : f_X12_isPlain σ x1 Q) : Met l yX12_isPlain (Cond.code yX12_isPlain cX12_isPlain 4 (some .boolean) :: ml_T) rm_X12_isPlain (va_Pc [.ref (base + (215 : Int).toNat), .int (Int32.ofInt x1)] (ml_U base D cA n σ)) (ml_Qi ml_B base D cA n Q) 0 0 (ml_A base) := by
  refine Met.ofW (cc := cX12_isPlain) (maxL := 4) (ret := (some .boolean)) (by decide) rfl ?_
  intro p e s m args below meth c s₁ B hml hv
  obtain ⟨rfl, hP, hK, hok, hro⟩ := hv
  have X : ml_X p s m c meth _ D cA cX12_isPlain 4 RX12 (some .boolean) := ⟨B.exec, B.bytes, hml, findClass_of_methodNamed B.named, fun w hw => atoms_spec (ws := Cond.code yX12_isPlain cX12_isPlain 4 (some .boolean) :: ml_T) B.pre w (List.mem_cons_of_mem _ hw), hK, B.notSynchronized, B.returns⟩
  have hl := lv_entry [.ref (base + (215 : Int).toNat), .int (Int32.ofInt x1)] (n := 4) (Nat.le_of_ble_eq_true rfl)
  rw [lg_entry_eq]
  generalize (lg_sl [.ref (base + (215 : Int).toNat), .int (Int32.ofInt x1)] ++ List.replicate (4 - (lg_sl [.ref (base + (215 : Int).toNat), .int (Int32.ofInt x1)]).length) Slot.unset).toArray = ls at hl ⊢
  have hl : lv_has ls 4 [(0, .ref (base + (215 : Int).toNat)), (1, .int (Int32.ofInt x1))] := hl
  unfold f_X12_isPlain at hw
  exact u_X12_isPlain_0 X hn σ x1 h_x1 _ (lv_sub hl [0, 1] rfl) hw s.heap [] hP va_S.rf hok hro
theorem dX12_is_0 : decode cX12_is 0 = .ok (.aload_n 0, 1) := by decide +kernel
theorem dX12_is_1 : decode cX12_is 1 = .ok (.iload_n 1, 1) := by decide +kernel
theorem dX12_is_2 : decode cX12_is 2 = .ok (.invokevirtual 287, 3) := by decide +kernel
theorem dX12_is_5 : decode cX12_is 5 = .ok (.ifCond .eq 15, 3) := by decide +kernel
theorem dX12_is_8 : decode cX12_is 8 = .ok (.iload_n 2, 1) := by decide +kernel
theorem dX12_is_9 : decode cX12_is 9 = .ok (.i2l, 1) := by decide +kernel
theorem dX12_is_10 : decode cX12_is 10 = .ok (.lconst 0, 1) := by decide +kernel
theorem dX12_is_11 : decode cX12_is 11 = .ok (.ldc2_w 353, 3) := by decide +kernel
theorem dX12_is_14 : decode cX12_is 14 = .ok (.invokestatic 143, 3) := by decide +kernel
theorem dX12_is_17 : decode cX12_is 17 = .ok (.ifCond .ne 5, 3) := by decide +kernel
theorem dX12_is_20 : decode cX12_is 20 = .ok (.iconst (-1), 1) := by decide +kernel
theorem dX12_is_21 : decode cX12_is 21 = .ok (.ireturn, 1) := by decide +kernel
theorem dX12_is_22 : decode cX12_is 22 = .ok (.iload_n 2, 1) := by decide +kernel
theorem dX12_is_23 : decode cX12_is 23 = .ok (.ifCond .ne 22, 3) := by decide +kernel
theorem dX12_is_26 : decode cX12_is 26 = .ok (.aload_n 0, 1) := by decide +kernel
theorem dX12_is_27 : decode cX12_is 27 = .ok (.getfield 30, 3) := by decide +kernel
theorem dX12_is_30 : decode cX12_is 30 = .ok (.iload_n 1, 1) := by decide +kernel
theorem dX12_is_31 : decode cX12_is 31 = .ok (.laload, 1) := by decide +kernel
theorem dX12_is_32 : decode cX12_is 32 = .ok (.lconst 0, 1) := by decide +kernel
theorem dX12_is_33 : decode cX12_is 33 = .ok (.lcmp, 1) := by decide +kernel
theorem dX12_is_34 : decode cX12_is 34 = .ok (.ifCond .ne 7, 3) := by decide +kernel
theorem dX12_is_37 : decode cX12_is 37 = .ok (.iconst 1, 1) := by decide +kernel
theorem dX12_is_38 : decode cX12_is 38 = .ok (.goto 49, 3) := by decide +kernel
theorem dX12_is_41 : decode cX12_is 41 = .ok (.iconst 0, 1) := by decide +kernel
theorem dX12_is_42 : decode cX12_is 42 = .ok (.goto 45, 3) := by decide +kernel
theorem dX12_is_45 : decode cX12_is 45 = .ok (.iload_n 2, 1) := by decide +kernel
theorem dX12_is_46 : decode cX12_is 46 = .ok (.iconst 1, 1) := by decide +kernel
theorem dX12_is_47 : decode cX12_is 47 = .ok (.if_icmp .ne 22, 3) := by decide +kernel
theorem dX12_is_50 : decode cX12_is 50 = .ok (.aload_n 0, 1) := by decide +kernel
theorem dX12_is_51 : decode cX12_is 51 = .ok (.getfield 34, 3) := by decide +kernel
theorem dX12_is_54 : decode cX12_is 54 = .ok (.iload_n 1, 1) := by decide +kernel
theorem dX12_is_55 : decode cX12_is 55 = .ok (.laload, 1) := by decide +kernel
theorem dX12_is_56 : decode cX12_is 56 = .ok (.lconst 0, 1) := by decide +kernel
theorem dX12_is_57 : decode cX12_is 57 = .ok (.lcmp, 1) := by decide +kernel
theorem dX12_is_58 : decode cX12_is 58 = .ok (.ifCond .ne 7, 3) := by decide +kernel
theorem dX12_is_61 : decode cX12_is 61 = .ok (.iconst 1, 1) := by decide +kernel
theorem dX12_is_62 : decode cX12_is 62 = .ok (.goto 25, 3) := by decide +kernel
theorem dX12_is_65 : decode cX12_is 65 = .ok (.iconst 0, 1) := by decide +kernel
theorem dX12_is_66 : decode cX12_is 66 = .ok (.goto 21, 3) := by decide +kernel
theorem dX12_is_69 : decode cX12_is 69 = .ok (.iload_n 2, 1) := by decide +kernel
theorem dX12_is_70 : decode cX12_is 70 = .ok (.iconst 2, 1) := by decide +kernel
theorem dX12_is_71 : decode cX12_is 71 = .ok (.if_icmp .ne 11, 3) := by decide +kernel
theorem dX12_is_74 : decode cX12_is 74 = .ok (.aload_n 0, 1) := by decide +kernel
theorem dX12_is_75 : decode cX12_is 75 = .ok (.iload_n 1, 1) := by decide +kernel
theorem dX12_is_76 : decode cX12_is 76 = .ok (.invokevirtual 358, 3) := by decide +kernel
theorem dX12_is_79 : decode cX12_is 79 = .ok (.goto 8, 3) := by decide +kernel
theorem dX12_is_82 : decode cX12_is 82 = .ok (.aload_n 0, 1) := by decide +kernel
theorem dX12_is_83 : decode cX12_is 83 = .ok (.iload_n 1, 1) := by decide +kernel
theorem dX12_is_84 : decode cX12_is 84 = .ok (.invokevirtual 262, 3) := by decide +kernel
theorem dX12_is_87 : decode cX12_is 87 = .ok (.istore_n 3, 1) := by decide +kernel
theorem dX12_is_88 : decode cX12_is 88 = .ok (.iload_n 3, 1) := by decide +kernel
theorem dX12_is_89 : decode cX12_is 89 = .ok (.ifCond .eq 7, 3) := by decide +kernel
theorem dX12_is_92 : decode cX12_is 92 = .ok (.iconst 1, 1) := by decide +kernel
theorem dX12_is_93 : decode cX12_is 93 = .ok (.goto 4, 3) := by decide +kernel
theorem dX12_is_96 : decode cX12_is 96 = .ok (.iconst 0, 1) := by decide +kernel
theorem dX12_is_97 : decode cX12_is 97 = .ok (.ireturn, 1) := by decide +kernel
def f_X12_is_u20 (Q : Int → ml_St → Prop) (σ : ml_St) : Prop :=
Q (-1) σ
def f_X12_is_u97 (Q : Int → ml_St → Prop) (σ : ml_St) (s0 : Int) : Prop :=
Q s0 σ
def f_X12_is_u87 (Q : Int → ml_St → Prop) (σ : ml_St) (s0 : Int) : Prop :=
(s0 = 0 →
f_X12_is_u97 Q σ 0) ∧
(s0 ≠ 0 →
f_X12_is_u97 Q σ 1)
def f_X12_is_u0 (Q : Int → ml_St → Prop) (σ : ml_St) (x1 : Int) (x2 : Int) : Prop :=
f_X12_isWord σ x1 (fun r1 σ1 => ∀ _ : ml_B r1,
(r1 = 0 →
f_X12_is_u20 Q σ1) ∧
(r1 ≠ 0 →
f_X12_lies σ1 x2 0 3 (fun r3 σ3 => ∀ _ : ml_B r3,
(r3 ≠ 0 →
(x2 ≠ 0 →
(x2 ≠ 1 →
(x2 ≠ 2 →
f_X12_isTooLong σ3 x1 (fun r8 σ8 => ∀ _ : ml_B r8,
f_X12_is_u87 Q σ8 r8)) ∧
(x2 = 2 →
f_X12_isPlain σ3 x1 (fun r9 σ9 => ∀ _ : ml_B r9,
f_X12_is_u87 Q σ9 r9))) ∧
(x2 = 1 →
(0 : Int) ≤ x1 ∧ (x1 : Int) < 16 ∧
∀ _ : I64 (σ3 222 x1),
(((σ3 222 x1) : Int) ≠ 0 →
f_X12_is_u87 Q σ3 0) ∧
((σ3 222 x1) = 0 →
f_X12_is_u87 Q σ3 1))) ∧
(x2 = 0 →
(0 : Int) ≤ x1 ∧ (x1 : Int) < 16 ∧
∀ _ : I64 (σ3 221 x1),
(((σ3 221 x1) : Int) ≠ 0 →
f_X12_is_u87 Q σ3 0) ∧
((σ3 221 x1) = 0 →
f_X12_is_u87 Q σ3 1))) ∧
(r3 = 0 →
f_X12_is_u20 Q σ3))))
def f_X12_is (σ : ml_St) (x1 : Int) (x2 : Int) (Q : Int → ml_St → Prop) : Prop := f_X12_is_u0 Q σ x1 x2
def rm_X12_is : Room := { frames := 3, cells := 0, slots := 0, locals := 65 }
set_option maxRecDepth 100000 in
set_option maxHeartbeats 4000000 in
theorem u_X12_is_20 {p : Program} {e : Env} {s : State} {m : MethodId} {args : Array Value} {below : List Frame} {meth : Method} {c : Code} {base : Nat} {D : va_G} {cA : Nat → ClassId} {n : Nat} {l : Launch} {Q : Int → ml_St → Prop} (X : ml_X p s m c meth args D cA cX12_is 4 RX12 (some .int)) (hn : 256 ≤ n) (σ : ml_St) (ls : Array Slot) (hl : lv_has ls 4 []) (hw : f_X12_is_u20 Q σ) : ml_V p l e rm_X12_is s m args below meth c (MQ below (ml_Qi I32 base D cA n Q) args s 0 0 (ml_A base)) base D cA 0 0 n n σ (F0 m 20 ls []) := by
  unfold f_X12_is_u20 at hw
  refine ml_iconst (pc := 20) X dX12_is_20 ?_
  exact ml_iret (pc := 21) X ⟨by decide, by decide⟩ hw dX12_is_21
set_option maxRecDepth 100000 in
set_option maxHeartbeats 4000000 in
theorem u_X12_is_97 {p : Program} {e : Env} {s : State} {m : MethodId} {args : Array Value} {below : List Frame} {meth : Method} {c : Code} {base : Nat} {D : va_G} {cA : Nat → ClassId} {n : Nat} {l : Launch} {Q : Int → ml_St → Prop} (X : ml_X p s m c meth args D cA cX12_is 4 RX12 (some .int)) (hn : 256 ≤ n) (σ : ml_St) (s0 : Int) (h_s0 : ml_B s0) (ls : Array Slot) (hl : lv_has ls 4 []) (hw : f_X12_is_u97 Q σ s0) : ml_V p l e rm_X12_is s m args below meth c (MQ below (ml_Qi I32 base D cA n Q) args s 0 0 (ml_A base)) base D cA 0 0 n n σ (F0 m 97 ls [.int (Int32.ofInt s0)]) := by
  unfold f_X12_is_u97 at hw
  exact ml_iret (pc := 97) X h_s0.i hw dX12_is_97
set_option maxRecDepth 100000 in
set_option maxHeartbeats 4000000 in
theorem u_X12_is_87 {p : Program} {e : Env} {s : State} {m : MethodId} {args : Array Value} {below : List Frame} {meth : Method} {c : Code} {base : Nat} {D : va_G} {cA : Nat → ClassId} {n : Nat} {l : Launch} {Q : Int → ml_St → Prop} (X : ml_X p s m c meth args D cA cX12_is 4 RX12 (some .int)) (hn : 256 ≤ n) (σ : ml_St) (s0 : Int) (h_s0 : ml_B s0) (ls : Array Slot) (hl : lv_has ls 4 []) (hw : f_X12_is_u87 Q σ s0) : ml_V p l e rm_X12_is s m args below meth c (MQ below (ml_Qi I32 base D cA n Q) args s 0 0 (ml_A base)) base D cA 0 0 n n σ (F0 m 87 ls [.int (Int32.ofInt s0)]) := by
  unfold f_X12_is_u87 at hw
  refine ml_istore_n (pc := 87) X rfl hl (by decide) (lst' := [(3, .int (Int32.ofInt s0))]) rfl dX12_is_87 (fun ls hl => ?_)
  refine ml_iload_n (pc := 88) X hl 0 rfl rfl dX12_is_88 ?_
  refine ml_if_eq (pc := 89) (tgt := 96) X h_s0.i dX12_is_89 (by decide) (fun c1 => ?_) (fun c1 => ?_)
  · have hw := hw.1 c1
    refine ml_iconst (pc := 96) X dX12_is_96 ?_
    exact u_X12_is_97 X hn σ 0 ⟨by decide, by decide⟩ _ (lv_sub hl [] rfl) hw
  · have hw := hw.2 c1
    refine ml_iconst (pc := 92) X dX12_is_92 ?_
    refine ml_goto (pc := 93) (tgt := 97) X dX12_is_93 (by decide) ?_
    exact u_X12_is_97 X hn σ 1 ⟨by decide, by decide⟩ _ (lv_sub hl [] rfl) hw
set_option maxRecDepth 100000 in
set_option maxHeartbeats 4000000 in
theorem u_X12_is_0 {p : Program} {e : Env} {s : State} {m : MethodId} {args : Array Value} {below : List Frame} {meth : Method} {c : Code} {base : Nat} {D : va_G} {cA : Nat → ClassId} {n : Nat} {l : Launch} {Q : Int → ml_St → Prop} (X : ml_X p s m c meth args D cA cX12_is 4 RX12 (some .int)) (hn : 256 ≤ n) (σ : ml_St) (x1 : Int) (x2 : Int) (h_x1 : I32 x1) (h_x2 : I32 x2) (ls : Array Slot) (hl : lv_has ls 4 [(0, .ref (base + (215 : Int).toNat)), (1, .int (Int32.ofInt x1)), (2, .int (Int32.ofInt x2))]) (hw : f_X12_is_u0 Q σ x1 x2) : ml_V p l e rm_X12_is s m args below meth c (MQ below (ml_Qi I32 base D cA n Q) args s 0 0 (ml_A base)) base D cA 0 0 n n σ (F0 m 0 ls []) := by
  unfold f_X12_is_u0 at hw
  refine ml_aload_n (pc := 0) X hl 0 rfl rfl dX12_is_0 ?_
  refine ml_iload_n (pc := 1) X hl 1 rfl rfl dX12_is_1 ?_
  refine ml_callzV (pc := 2) (rest := []) X [.int (Int32.ofInt x1)] (by decide) rfl (ml_c215 hn) (c_X12_isWord l base D cA n hn σ x1 h_x1 _ hw) cv_X12_287 ⟨rfl, rfl⟩ ⟨by decide, by decide⟩ rfl rfl hl (Nat.le_of_ble_eq_true rfl) ⟨Nat.zero_le _, Nat.zero_le _⟩ dX12_is_2 (fun r1 σ1 t1 hw => ?_)
  have hw := hw t1
  refine ml_if_eq (pc := 5) (tgt := 20) X t1.i dX12_is_5 (by decide) (fun c2 => ?_) (fun c2 => ?_)
  · have hw := hw.1 c2
    exact u_X12_is_20 X hn σ1   _ (lv_sub hl [] rfl) hw
  · have hw := hw.2 c2
    refine ml_iload_n (pc := 8) X hl 2 rfl rfl dX12_is_8 ?_
    refine ml_i2l (pc := 9) X h_x2 dX12_is_9 ?_
    refine ml_lconst0 (pc := 10) X dX12_is_10 ?_
    refine ml_ldc2 (pc := 11) (v := 3) X dX12_is_11 tc_6_133 ?_
    refine ml_callzS (pc := 14) (rest := []) X [.long (Int64.ofInt x2), .long (Int64.ofInt 0), .long (Int64.ofInt 3)] (c_X12_lies l base D cA n hn σ1 x2 0 3 (h_x2).l ⟨by decide, by decide⟩ ⟨by decide, by decide⟩ _ hw) cv_X12_143 ⟨rfl, rfl⟩ ⟨by decide, by decide⟩ rfl rfl hl (Nat.le_of_ble_eq_true rfl) ⟨Nat.zero_le _, Nat.zero_le _⟩ dX12_is_14 (fun r3 σ3 t3 hw => ?_)
    have hw := hw t3
    refine ml_if_ne (pc := 17) (tgt := 22) X t3.i dX12_is_17 (by decide) (fun c4 => ?_) (fun c4 => ?_)
    · have hw := hw.1 c4
      refine ml_iload_n (pc := 22) X hl 2 rfl rfl dX12_is_22 ?_
      refine ml_if_ne (pc := 23) (tgt := 45) X h_x2 dX12_is_23 (by decide) (fun c5 => ?_) (fun c5 => ?_)
      · have hw := hw.1 c5
        refine ml_iload_n (pc := 45) X hl 2 rfl rfl dX12_is_45 ?_
        refine ml_iconst (pc := 46) X dX12_is_46 ?_
        refine ml_icmp_ne (pc := 47) (tgt := 69) X h_x2 ⟨by decide, by decide⟩ dX12_is_47 (by decide) (fun c6 => ?_) (fun c6 => ?_)
        · have hw := hw.1 c6
          refine ml_iload_n (pc := 69) X hl 2 rfl rfl dX12_is_69 ?_
          refine ml_iconst (pc := 70) X dX12_is_70 ?_
          refine ml_icmp_ne (pc := 71) (tgt := 82) X h_x2 ⟨by decide, by decide⟩ dX12_is_71 (by decide) (fun c7 => ?_) (fun c7 => ?_)
          · have hw := hw.1 c7
            refine ml_aload_n (pc := 82) X hl 0 rfl rfl dX12_is_82 ?_
            refine ml_iload_n (pc := 83) X hl 1 rfl rfl dX12_is_83 ?_
            refine ml_callzV (pc := 84) (rest := []) X [.int (Int32.ofInt x1)] (by decide) rfl (ml_c215 hn) (c_X12_isTooLong l base D cA n hn σ3 x1 h_x1 _ hw) cv_X12_262 ⟨rfl, rfl⟩ ⟨by decide, by decide⟩ rfl rfl hl (Nat.le_of_ble_eq_true rfl) ⟨Nat.zero_le _, Nat.zero_le _⟩ dX12_is_84 (fun r8 σ8 t8 hw => ?_)
            have hw := hw t8
            exact u_X12_is_87 X hn σ8 r8 t8 _ (lv_sub hl [] rfl) hw
          · have hw := hw.2 c7
            refine ml_aload_n (pc := 74) X hl 0 rfl rfl dX12_is_74 ?_
            refine ml_iload_n (pc := 75) X hl 1 rfl rfl dX12_is_75 ?_
            refine ml_callzV (pc := 76) (rest := []) X [.int (Int32.ofInt x1)] (by decide) rfl (ml_c215 hn) (c_X12_isPlain l base D cA n hn σ3 x1 h_x1 _ hw) cv_X12_358 ⟨rfl, rfl⟩ ⟨by decide, by decide⟩ rfl rfl hl (Nat.le_of_ble_eq_true rfl) ⟨Nat.zero_le _, Nat.zero_le _⟩ dX12_is_76 (fun r9 σ9 t9 hw => ?_)
            have hw := hw t9
            refine ml_goto (pc := 79) (tgt := 87) X dX12_is_79 (by decide) ?_
            exact u_X12_is_87 X hn σ9 r9 t9 _ (lv_sub hl [] rfl) hw
        · have hw := hw.2 c6
          refine ml_aload_n (pc := 50) X hl 0 rfl rfl dX12_is_50 ?_
          refine gf_X12_34 (pc := 51) X (ml_c215 hn) dX12_is_51 ?_
          refine ml_iload_n (pc := 54) X hl 1 rfl rfl dX12_is_54 ?_
          obtain ⟨a10, b10, hw⟩ := hw
          refine ml_lald (pc := 55) (N := 16) X (ml_c222 hn) a10 b10 dX12_is_55 (fun r10 => ?_)
          have hw := hw r10
          refine ml_lconst0 (pc := 56) X dX12_is_56 ?_
          refine ml_lcmp_ne (pc := 57) (tgt := 65) X r10 ⟨by decide, by decide⟩ dX12_is_57 dX12_is_58 (by decide) (fun c11 => ?_) (fun c11 => ?_)
          · have hw := hw.1 c11
            refine ml_iconst (pc := 65) X dX12_is_65 ?_
            refine ml_goto (pc := 66) (tgt := 87) X dX12_is_66 (by decide) ?_
            exact u_X12_is_87 X hn σ3 0 ⟨by decide, by decide⟩ _ (lv_sub hl [] rfl) hw
          · have hw := hw.2 c11
            refine ml_iconst (pc := 61) X dX12_is_61 ?_
            refine ml_goto (pc := 62) (tgt := 87) X dX12_is_62 (by decide) ?_
            exact u_X12_is_87 X hn σ3 1 ⟨by decide, by decide⟩ _ (lv_sub hl [] rfl) hw
      · have hw := hw.2 c5
        refine ml_aload_n (pc := 26) X hl 0 rfl rfl dX12_is_26 ?_
        refine gf_X12_30 (pc := 27) X (ml_c215 hn) dX12_is_27 ?_
        refine ml_iload_n (pc := 30) X hl 1 rfl rfl dX12_is_30 ?_
        obtain ⟨a12, b12, hw⟩ := hw
        refine ml_lald (pc := 31) (N := 16) X (ml_c221 hn) a12 b12 dX12_is_31 (fun r12 => ?_)
        have hw := hw r12
        refine ml_lconst0 (pc := 32) X dX12_is_32 ?_
        refine ml_lcmp_ne (pc := 33) (tgt := 41) X r12 ⟨by decide, by decide⟩ dX12_is_33 dX12_is_34 (by decide) (fun c13 => ?_) (fun c13 => ?_)
        · have hw := hw.1 c13
          refine ml_iconst (pc := 41) X dX12_is_41 ?_
          refine ml_goto (pc := 42) (tgt := 87) X dX12_is_42 (by decide) ?_
          exact u_X12_is_87 X hn σ3 0 ⟨by decide, by decide⟩ _ (lv_sub hl [] rfl) hw
        · have hw := hw.2 c13
          refine ml_iconst (pc := 37) X dX12_is_37 ?_
          refine ml_goto (pc := 38) (tgt := 87) X dX12_is_38 (by decide) ?_
          exact u_X12_is_87 X hn σ3 1 ⟨by decide, by decide⟩ _ (lv_sub hl [] rfl) hw
    · have hw := hw.2 c4
      exact u_X12_is_20 X hn σ3   _ (lv_sub hl [] rfl) hw
set_option maxRecDepth 100000 in
theorem c_X12_is (l : Launch) (base : Nat) (D : va_G) (cA : Nat → ClassId) (n : Nat) (hn : 256 ≤ n) (σ : ml_St) (x1 : Int) (x2 : Int) (h_x1 : I32 x1) (h_x2 : I32 x2) (Q : Int → ml_St → Prop) (hw : f_X12_is σ x1 x2 Q) : Met l yX12_is (Cond.code yX12_is cX12_is 4 (some .int) :: ml_T) rm_X12_is (va_Pc [.ref (base + (215 : Int).toNat), .int (Int32.ofInt x1), .int (Int32.ofInt x2)] (ml_U base D cA n σ)) (ml_Qi I32 base D cA n Q) 0 0 (ml_A base) := by
  refine Met.ofW (cc := cX12_is) (maxL := 4) (ret := (some .int)) (by decide) rfl ?_
  intro p e s m args below meth c s₁ B hml hv
  obtain ⟨rfl, hP, hK, hok, hro⟩ := hv
  have X : ml_X p s m c meth _ D cA cX12_is 4 RX12 (some .int) := ⟨B.exec, B.bytes, hml, findClass_of_methodNamed B.named, fun w hw => atoms_spec (ws := Cond.code yX12_is cX12_is 4 (some .int) :: ml_T) B.pre w (List.mem_cons_of_mem _ hw), hK, B.notSynchronized, B.returns⟩
  have hl := lv_entry [.ref (base + (215 : Int).toNat), .int (Int32.ofInt x1), .int (Int32.ofInt x2)] (n := 4) (Nat.le_of_ble_eq_true rfl)
  rw [lg_entry_eq]
  generalize (lg_sl [.ref (base + (215 : Int).toNat), .int (Int32.ofInt x1), .int (Int32.ofInt x2)] ++ List.replicate (4 - (lg_sl [.ref (base + (215 : Int).toNat), .int (Int32.ofInt x1), .int (Int32.ofInt x2)]).length) Slot.unset).toArray = ls at hl ⊢
  have hl : lv_has ls 4 [(0, .ref (base + (215 : Int).toNat)), (1, .int (Int32.ofInt x1)), (2, .int (Int32.ofInt x2))] := hl
  unfold f_X12_is at hw
  exact u_X12_is_0 X hn σ x1 x2 h_x1 h_x2 _ (lv_sub hl [0, 1, 2] rfl) hw s.heap [] hP va_S.rf hok hro
theorem dX12_has_0 : decode cX12_has 0 = .ok (.iload_n 0, 1) := by decide +kernel
theorem dX12_has_1 : decode cX12_has 1 = .ok (.iload_n 1, 1) := by decide +kernel
theorem dX12_has_2 : decode cX12_has 2 = .ok (.ishr, 1) := by decide +kernel
theorem dX12_has_3 : decode cX12_has 3 = .ok (.iconst 1, 1) := by decide +kernel
theorem dX12_has_4 : decode cX12_has 4 = .ok (.iand, 1) := by decide +kernel
theorem dX12_has_5 : decode cX12_has 5 = .ok (.iconst 1, 1) := by decide +kernel
theorem dX12_has_6 : decode cX12_has 6 = .ok (.if_icmp .ne 7, 3) := by decide +kernel
theorem dX12_has_9 : decode cX12_has 9 = .ok (.iconst 1, 1) := by decide +kernel
theorem dX12_has_10 : decode cX12_has 10 = .ok (.goto 4, 3) := by decide +kernel
theorem dX12_has_13 : decode cX12_has 13 = .ok (.iconst 0, 1) := by decide +kernel
theorem dX12_has_14 : decode cX12_has 14 = .ok (.ireturn, 1) := by decide +kernel
def f_X12_has_u14 (Q : Int → ml_St → Prop) (σ : ml_St) (s0 : Int) : Prop :=
Q s0 σ
def f_X12_has_u0 (Q : Int → ml_St → Prop) (σ : ml_St) (x0 : Int) (x1 : Int) : Prop :=
(((b_and (b_shr x0 x1) 1) : Int) ≠ 1 →
f_X12_has_u14 Q σ 0) ∧
((b_and (b_shr x0 x1) 1) = 1 →
f_X12_has_u14 Q σ 1)
def f_X12_has (σ : ml_St) (x0 : Int) (x1 : Int) (Q : Int → ml_St → Prop) : Prop := f_X12_has_u0 Q σ x0 x1
def rm_X12_has : Room := { frames := 0, cells := 0, slots := 0, locals := 0 }
set_option maxRecDepth 100000 in
set_option maxHeartbeats 4000000 in
theorem u_X12_has_14 {p : Program} {e : Env} {s : State} {m : MethodId} {args : Array Value} {below : List Frame} {meth : Method} {c : Code} {base : Nat} {D : va_G} {cA : Nat → ClassId} {n : Nat} {l : Launch} {Q : Int → ml_St → Prop} (X : ml_X p s m c meth args D cA cX12_has 2 RX12 (some .boolean)) (hn : 256 ≤ n) (σ : ml_St) (s0 : Int) (h_s0 : ml_B s0) (ls : Array Slot) (hl : lv_has ls 2 []) (hw : f_X12_has_u14 Q σ s0) : ml_V p l e rm_X12_has s m args below meth c (MQ below (ml_Qi ml_B base D cA n Q) args s 0 0 (ml_A base)) base D cA 0 0 n n σ (F0 m 14 ls [.int (Int32.ofInt s0)]) := by
  unfold f_X12_has_u14 at hw
  exact ml_zret (pc := 14) X h_s0 hw dX12_has_14
set_option maxRecDepth 100000 in
set_option maxHeartbeats 4000000 in
theorem u_X12_has_0 {p : Program} {e : Env} {s : State} {m : MethodId} {args : Array Value} {below : List Frame} {meth : Method} {c : Code} {base : Nat} {D : va_G} {cA : Nat → ClassId} {n : Nat} {l : Launch} {Q : Int → ml_St → Prop} (X : ml_X p s m c meth args D cA cX12_has 2 RX12 (some .boolean)) (hn : 256 ≤ n) (σ : ml_St) (x0 : Int) (x1 : Int) (h_x0 : I32 x0) (h_x1 : I32 x1) (ls : Array Slot) (hl : lv_has ls 2 [(0, .int (Int32.ofInt x0)), (1, .int (Int32.ofInt x1))]) (hw : f_X12_has_u0 Q σ x0 x1) : ml_V p l e rm_X12_has s m args below meth c (MQ below (ml_Qi ml_B base D cA n Q) args s 0 0 (ml_A base)) base D cA 0 0 n n σ (F0 m 0 ls []) := by
  unfold f_X12_has_u0 at hw
  refine ml_iload_n (pc := 0) X hl 0 rfl rfl dX12_has_0 ?_
  refine ml_iload_n (pc := 1) X hl 1 rfl rfl dX12_has_1 ?_
  refine ml_ishr (pc := 2) X dX12_has_2 ?_
  refine ml_iconst (pc := 3) X dX12_has_3 ?_
  refine ml_iand (pc := 4) X dX12_has_4 ?_
  refine ml_iconst (pc := 5) X dX12_has_5 ?_
  refine ml_icmp_ne (pc := 6) (tgt := 13) X (b_and_r _ _) ⟨by decide, by decide⟩ dX12_has_6 (by decide) (fun c1 => ?_) (fun c1 => ?_)
  · have hw := hw.1 c1
    refine ml_iconst (pc := 13) X dX12_has_13 ?_
    exact u_X12_has_14 X hn σ 0 ⟨by decide, by decide⟩ _ (lv_sub hl [] rfl) hw
  · have hw := hw.2 c1
    refine ml_iconst (pc := 9) X dX12_has_9 ?_
    refine ml_goto (pc := 10) (tgt := 14) X dX12_has_10 (by decide) ?_
    exact u_X12_has_14 X hn σ 1 ⟨by decide, by decide⟩ _ (lv_sub hl [] rfl) hw
set_option maxRecDepth 100000 in
theorem c_X12_has (l : Launch) (base : Nat) (D : va_G) (cA : Nat → ClassId) (n : Nat) (hn : 256 ≤ n) (σ : ml_St) (x0 : Int) (x1 : Int) (h_x0 : I32 x0) (h_x1 : I32 x1) (Q : Int → ml_St → Prop) (hw : f_X12_has σ x0 x1 Q) : Met l yX12_has (Cond.code yX12_has cX12_has 2 (some .boolean) :: ml_T) rm_X12_has (va_Pc [.int (Int32.ofInt x0), .int (Int32.ofInt x1)] (ml_U base D cA n σ)) (ml_Qi ml_B base D cA n Q) 0 0 (ml_A base) := by
  refine Met.ofW (cc := cX12_has) (maxL := 2) (ret := (some .boolean)) (by decide) rfl ?_
  intro p e s m args below meth c s₁ B hml hv
  obtain ⟨rfl, hP, hK, hok, hro⟩ := hv
  have X : ml_X p s m c meth _ D cA cX12_has 2 RX12 (some .boolean) := ⟨B.exec, B.bytes, hml, findClass_of_methodNamed B.named, fun w hw => atoms_spec (ws := Cond.code yX12_has cX12_has 2 (some .boolean) :: ml_T) B.pre w (List.mem_cons_of_mem _ hw), hK, B.notSynchronized, B.returns⟩
  have hl := lv_entry [.int (Int32.ofInt x0), .int (Int32.ofInt x1)] (n := 2) (Nat.le_of_ble_eq_true rfl)
  rw [lg_entry_eq]
  generalize (lg_sl [.int (Int32.ofInt x0), .int (Int32.ofInt x1)] ++ List.replicate (2 - (lg_sl [.int (Int32.ofInt x0), .int (Int32.ofInt x1)]).length) Slot.unset).toArray = ls at hl ⊢
  have hl : lv_has ls 2 [(0, .int (Int32.ofInt x0)), (1, .int (Int32.ofInt x1))] := hl
  unfold f_X12_has at hw
  exact u_X12_has_0 X hn σ x0 x1 h_x0 h_x1 _ (lv_sub hl [0, 1] rfl) hw s.heap [] hP va_S.rf hok hro
theorem dX12_isLetters_0 : decode cX12_isLetters 0 = .ok (.iconst 0, 1) := by decide +kernel
theorem dX12_isLetters_1 : decode cX12_isLetters 1 = .ok (.istore_n 2, 1) := by decide +kernel
theorem dX12_isLetters_2 : decode cX12_isLetters 2 = .ok (.iload_n 1, 1) := by decide +kernel
theorem dX12_isLetters_3 : decode cX12_isLetters 3 = .ok (.i2l, 1) := by decide +kernel
theorem dX12_isLetters_4 : decode cX12_isLetters 4 = .ok (.lconst 1, 1) := by decide +kernel
theorem dX12_isLetters_5 : decode cX12_isLetters 5 = .ok (.iconst 1, 1) := by decide +kernel
theorem dX12_isLetters_6 : decode cX12_isLetters 6 = .ok (.aload_n 0, 1) := by decide +kernel
theorem dX12_isLetters_7 : decode cX12_isLetters 7 = .ok (.getfield 140, 3) := by decide +kernel
theorem dX12_isLetters_10 : decode cX12_isLetters 10 = .ok (.ishl, 1) := by decide +kernel
theorem dX12_isLetters_11 : decode cX12_isLetters 11 = .ok (.iconst 1, 1) := by decide +kernel
theorem dX12_isLetters_12 : decode cX12_isLetters 12 = .ok (.isub, 1) := by decide +kernel
theorem dX12_isLetters_13 : decode cX12_isLetters 13 = .ok (.i2l, 1) := by decide +kernel
theorem dX12_isLetters_14 : decode cX12_isLetters 14 = .ok (.invokestatic 143, 3) := by decide +kernel
theorem dX12_isLetters_17 : decode cX12_isLetters 17 = .ok (.ifCond .ne 5, 3) := by decide +kernel
theorem dX12_isLetters_20 : decode cX12_isLetters 20 = .ok (.iconst 0, 1) := by decide +kernel
theorem dX12_isLetters_21 : decode cX12_isLetters 21 = .ok (.ireturn, 1) := by decide +kernel
theorem dX12_isLetters_22 : decode cX12_isLetters 22 = .ok (.iconst 0, 1) := by decide +kernel
theorem dX12_isLetters_23 : decode cX12_isLetters 23 = .ok (.istore_n 3, 1) := by decide +kernel
theorem dX12_isLetters_24 : decode cX12_isLetters 24 = .ok (.iload_n 3, 1) := by decide +kernel
theorem dX12_isLetters_25 : decode cX12_isLetters 25 = .ok (.aload_n 0, 1) := by decide +kernel
theorem dX12_isLetters_26 : decode cX12_isLetters 26 = .ok (.getfield 140, 3) := by decide +kernel
theorem dX12_isLetters_29 : decode cX12_isLetters 29 = .ok (.if_icmp .ge 46, 3) := by decide +kernel
theorem dX12_isLetters_32 : decode cX12_isLetters 32 = .ok (.iload_n 1, 1) := by decide +kernel
theorem dX12_isLetters_33 : decode cX12_isLetters 33 = .ok (.iload_n 3, 1) := by decide +kernel
theorem dX12_isLetters_34 : decode cX12_isLetters 34 = .ok (.invokestatic 361, 3) := by decide +kernel
theorem dX12_isLetters_37 : decode cX12_isLetters 37 = .ok (.ifCond .ne 6, 3) := by decide +kernel
theorem dX12_isLetters_40 : decode cX12_isLetters 40 = .ok (.goto 29, 3) := by decide +kernel
theorem dX12_isLetters_43 : decode cX12_isLetters 43 = .ok (.aload_n 0, 1) := by decide +kernel
theorem dX12_isLetters_44 : decode cX12_isLetters 44 = .ok (.iload_n 3, 1) := by decide +kernel
theorem dX12_isLetters_45 : decode cX12_isLetters 45 = .ok (.invokevirtual 262, 3) := by decide +kernel
theorem dX12_isLetters_48 : decode cX12_isLetters 48 = .ok (.ifCond .ne 9, 3) := by decide +kernel
theorem dX12_isLetters_51 : decode cX12_isLetters 51 = .ok (.iload_n 2, 1) := by decide +kernel
theorem dX12_isLetters_52 : decode cX12_isLetters 52 = .ok (.bipush 6, 2) := by decide +kernel
theorem dX12_isLetters_54 : decode cX12_isLetters 54 = .ok (.if_icmp .ne 5, 3) := by decide +kernel
theorem dX12_isLetters_57 : decode cX12_isLetters 57 = .ok (.iconst 0, 1) := by decide +kernel
theorem dX12_isLetters_58 : decode cX12_isLetters 58 = .ok (.ireturn, 1) := by decide +kernel
theorem dX12_isLetters_59 : decode cX12_isLetters 59 = .ok (.aload_n 0, 1) := by decide +kernel
theorem dX12_isLetters_60 : decode cX12_isLetters 60 = .ok (.getfield 80, 3) := by decide +kernel
theorem dX12_isLetters_63 : decode cX12_isLetters 63 = .ok (.iload_n 2, 1) := by decide +kernel
theorem dX12_isLetters_64 : decode cX12_isLetters 64 = .ok (.iload_n 3, 1) := by decide +kernel
theorem dX12_isLetters_65 : decode cX12_isLetters 65 = .ok (.iastore, 1) := by decide +kernel
theorem dX12_isLetters_66 : decode cX12_isLetters 66 = .ok (.iinc 2 1, 3) := by decide +kernel
theorem dX12_isLetters_69 : decode cX12_isLetters 69 = .ok (.iinc 3 1, 3) := by decide +kernel
theorem dX12_isLetters_72 : decode cX12_isLetters 72 = .ok (.goto (-48), 3) := by decide +kernel
theorem dX12_isLetters_75 : decode cX12_isLetters 75 = .ok (.aload_n 0, 1) := by decide +kernel
theorem dX12_isLetters_76 : decode cX12_isLetters 76 = .ok (.iload_n 2, 1) := by decide +kernel
theorem dX12_isLetters_77 : decode cX12_isLetters 77 = .ok (.putfield 364, 3) := by decide +kernel
theorem dX12_isLetters_80 : decode cX12_isLetters 80 = .ok (.iconst 1, 1) := by decide +kernel
theorem dX12_isLetters_81 : decode cX12_isLetters 81 = .ok (.ireturn, 1) := by decide +kernel
def f_X12_isLetters_u69 (Q : Int → ml_St → Prop) (K24 : ml_St → Int → Int → Int → Prop) (σ : ml_St) (x1 : Int) (x2 : Int) (x3 : Int) : Prop :=
I32 (x3 + 1) ∧
∀ y1 : Int, y1 = x3 + 1 →
K24 σ x1 x2 y1
def f_X12_isLetters_u24 (Q : Int → ml_St → Prop) (K57 : ml_St → Prop) (K75 : ml_St → Int → Prop) : Nat → ml_St → Int → Int → Int → Prop
| 0, _, _, _, _ => False
| N + 1, σ, x1, x2, x3 =>
∀ _ : I32 (σ 215 3),
((σ 215 3) ≤ x3 →
K75 σ x2) ∧
(¬ ((σ 215 3) ≤ x3) →
f_X12_has σ x1 x3 (fun r3 σ3 => ∀ _ : ml_B r3,
(r3 ≠ 0 →
f_X12_isTooLong σ3 x3 (fun r5 σ5 => ∀ _ : ml_B r5,
(r5 ≠ 0 →
K57 σ5) ∧
(r5 = 0 →
(x2 ≠ 6 →
(0 : Int) ≤ x2 ∧ (x2 : Int) < 6 ∧
∀ σ8, σ8 = ml_up σ5 237 x2 x3 →
I32 (x2 + 1) ∧
∀ y9 : Int, y9 = x2 + 1 →
f_X12_isLetters_u69 Q (f_X12_isLetters_u24 Q K57 K75 N) σ8 x1 y9 x3) ∧
(x2 = 6 →
K57 σ5)))) ∧
(r3 = 0 →
f_X12_isLetters_u69 Q (f_X12_isLetters_u24 Q K57 K75 N) σ3 x1 x2 x3)))
def f_X12_isLetters_u57 (Q : Int → ml_St → Prop) (σ : ml_St) : Prop :=
Q 0 σ
def f_X12_isLetters_u75 (Q : Int → ml_St → Prop) (σ : ml_St) (x2 : Int) : Prop :=
∀ σ1, σ1 = ml_up σ 215 38 x2 →
Q 1 σ1
def f_X12_isLetters_u0 (Q : Int → ml_St → Prop) (σ : ml_St) (x1 : Int) : Prop :=
∀ _ : I32 (σ 215 3),
I32 ((b_shl 1 (σ 215 3)) - 1) ∧
f_X12_lies σ x1 1 ((b_shl 1 (σ 215 3)) - 1) (fun r3 σ3 => ∀ _ : ml_B r3,
(r3 ≠ 0 →
∃ N1, f_X12_isLetters_u24 Q (f_X12_isLetters_u57 Q) (f_X12_isLetters_u75 Q) N1 σ3 x1 0 0) ∧
(r3 = 0 →
Q 0 σ3))
def f_X12_isLetters (σ : ml_St) (x1 : Int) (Q : Int → ml_St → Prop) : Prop := f_X12_isLetters_u0 Q σ x1
def rm_X12_isLetters : Room := { frames := 3, cells := 0, slots := 0, locals := 65 }
set_option maxRecDepth 100000 in
set_option maxHeartbeats 4000000 in
theorem u_X12_isLetters_69 {p : Program} {e : Env} {s : State} {m : MethodId} {args : Array Value} {below : List Frame} {meth : Method} {c : Code} {base : Nat} {D : va_G} {cA : Nat → ClassId} {n : Nat} {l : Launch} {Q : Int → ml_St → Prop} {K24 : ml_St → Int → Int → Int → Prop} (X : ml_X p s m c meth args D cA cX12_isLetters 4 RX12 (some .boolean)) (hn : 256 ≤ n) (hK24 : ∀ (σ : ml_St) (x1 : Int) (x2 : Int) (x3 : Int) (h_x1 : I32 x1) (h_x2 : I32 x2) (h_x3 : I32 x3) (ls : Array Slot), lv_has ls 4 [(0, .ref (base + (215 : Int).toNat)), (1, .int (Int32.ofInt x1)), (2, .int (Int32.ofInt x2)), (3, .int (Int32.ofInt x3))] → K24 σ x1 x2 x3 → ml_V p l e rm_X12_isLetters s m args below meth c (MQ below (ml_Qi ml_B base D cA n Q) args s 0 0 (ml_A base)) base D cA 0 0 n n σ (F0 m 24 ls [])) (σ : ml_St) (x1 : Int) (x2 : Int) (x3 : Int) (h_x1 : I32 x1) (h_x2 : I32 x2) (h_x3 : I32 x3) (ls : Array Slot) (hl : lv_has ls 4 [(0, .ref (base + (215 : Int).toNat)), (1, .int (Int32.ofInt x1)), (2, .int (Int32.ofInt x2)), (3, .int (Int32.ofInt x3))]) (hw : f_X12_isLetters_u69 Q K24 σ x1 x2 x3) : ml_V p l e rm_X12_isLetters s m args below meth c (MQ below (ml_Qi ml_B base D cA n Q) args s 0 0 (ml_A base)) base D cA 0 0 n n σ (F0 m 69 ls []) := by
  unfold f_X12_isLetters_u69 at hw
  obtain ⟨v1, hw⟩ := hw
  obtain ⟨y1, e1⟩ : ∃ y : Int, y = x3 + 1 := ⟨_, rfl⟩
  have hw := hw y1 e1
  rw [← e1] at v1
  refine ml_iinc (pc := 69) X e1 hl 3 rfl (by decide) (lst' := [(3, .int (Int32.ofInt y1)), (0, .ref (base + (215 : Int).toNat)), (1, .int (Int32.ofInt x1)), (2, .int (Int32.ofInt x2))]) rfl dX12_isLetters_69 (fun ls hl => ?_)
  refine ml_goto (pc := 72) (tgt := 24) X dX12_isLetters_72 (by decide) ?_
  exact hK24 σ x1 x2 y1 h_x1 h_x2 v1 _ (lv_sub hl [1, 2, 3, 0] rfl) hw
set_option maxRecDepth 100000 in
set_option maxHeartbeats 4000000 in
theorem u_X12_isLetters_24 {p : Program} {e : Env} {s : State} {m : MethodId} {args : Array Value} {below : List Frame} {meth : Method} {c : Code} {base : Nat} {D : va_G} {cA : Nat → ClassId} {n : Nat} {l : Launch} {Q : Int → ml_St → Prop} {K57 : ml_St → Prop} {K75 : ml_St → Int → Prop} (X : ml_X p s m c meth args D cA cX12_isLetters 4 RX12 (some .boolean)) (hn : 256 ≤ n) (hK57 : ∀ (σ : ml_St) (ls : Array Slot), lv_has ls 4 [] → K57 σ → ml_V p l e rm_X12_isLetters s m args below meth c (MQ below (ml_Qi ml_B base D cA n Q) args s 0 0 (ml_A base)) base D cA 0 0 n n σ (F0 m 57 ls [])) (hK75 : ∀ (σ : ml_St) (x2 : Int) (h_x2 : I32 x2) (ls : Array Slot), lv_has ls 4 [(0, .ref (base + (215 : Int).toNat)), (2, .int (Int32.ofInt x2))] → K75 σ x2 → ml_V p l e rm_X12_isLetters s m args below meth c (MQ below (ml_Qi ml_B base D cA n Q) args s 0 0 (ml_A base)) base D cA 0 0 n n σ (F0 m 75 ls [])) : ∀ (N : Nat) (σ : ml_St) (x1 : Int) (x2 : Int) (x3 : Int) (h_x1 : I32 x1) (h_x2 : I32 x2) (h_x3 : I32 x3) (ls : Array Slot), lv_has ls 4 [(0, .ref (base + (215 : Int).toNat)), (1, .int (Int32.ofInt x1)), (2, .int (Int32.ofInt x2)), (3, .int (Int32.ofInt x3))] → f_X12_isLetters_u24 Q K57 K75 N σ x1 x2 x3 → ml_V p l e rm_X12_isLetters s m args below meth c (MQ below (ml_Qi ml_B base D cA n Q) args s 0 0 (ml_A base)) base D cA 0 0 n n σ (F0 m 24 ls []) := by
  intro N
  induction N with
  | zero => intro σ x1 x2 x3 h_x1 h_x2 h_x3 ls hl hw; exact False.elim hw
  | succ N ih =>
    intro σ x1 x2 x3 h_x1 h_x2 h_x3 ls hl hw
    unfold f_X12_isLetters_u24 at hw
    refine ml_iload_n (pc := 24) X hl 3 rfl rfl dX12_isLetters_24 ?_
    refine ml_aload_n (pc := 25) X hl 0 rfl rfl dX12_isLetters_25 ?_
    refine gf_X12_140 (pc := 26) X (ml_c215 hn) dX12_isLetters_26 (fun r1 => ?_)
    have hw := hw r1
    refine ml_icmp_ge (pc := 29) (tgt := 75) X h_x3 r1 dX12_isLetters_29 (by decide) (fun c2 => ?_) (fun c2 => ?_)
    · have hw := hw.1 c2
      exact hK75 σ x2 h_x2 _ (lv_sub hl [0, 2] rfl) hw
    · have hw := hw.2 c2
      refine ml_iload_n (pc := 32) X hl 1 rfl rfl dX12_isLetters_32 ?_
      refine ml_iload_n (pc := 33) X hl 3 rfl rfl dX12_isLetters_33 ?_
      refine ml_callzS (pc := 34) (rest := []) X [.int (Int32.ofInt x1), .int (Int32.ofInt x3)] (c_X12_has l base D cA n hn σ x1 x3 h_x1 h_x3 _ hw) cv_X12_361 ⟨rfl, rfl⟩ ⟨by decide, by decide⟩ rfl rfl hl (Nat.le_of_ble_eq_true rfl) ⟨Nat.zero_le _, Nat.zero_le _⟩ dX12_isLetters_34 (fun r3 σ3 t3 hw => ?_)
      have hw := hw t3
      refine ml_if_ne (pc := 37) (tgt := 43) X t3.i dX12_isLetters_37 (by decide) (fun c4 => ?_) (fun c4 => ?_)
      · have hw := hw.1 c4
        refine ml_aload_n (pc := 43) X hl 0 rfl rfl dX12_isLetters_43 ?_
        refine ml_iload_n (pc := 44) X hl 3 rfl rfl dX12_isLetters_44 ?_
        refine ml_callzV (pc := 45) (rest := []) X [.int (Int32.ofInt x3)] (by decide) rfl (ml_c215 hn) (c_X12_isTooLong l base D cA n hn σ3 x3 h_x3 _ hw) cv_X12_262 ⟨rfl, rfl⟩ ⟨by decide, by decide⟩ rfl rfl hl (Nat.le_of_ble_eq_true rfl) ⟨Nat.zero_le _, Nat.zero_le _⟩ dX12_isLetters_45 (fun r5 σ5 t5 hw => ?_)
        have hw := hw t5
        refine ml_if_ne (pc := 48) (tgt := 57) X t5.i dX12_isLetters_48 (by decide) (fun c6 => ?_) (fun c6 => ?_)
        · have hw := hw.1 c6
          exact hK57 σ5   _ (lv_sub hl [] rfl) hw
        · have hw := hw.2 c6
          refine ml_iload_n (pc := 51) X hl 2 rfl rfl dX12_isLetters_51 ?_
          refine ml_bipush (pc := 52) X dX12_isLetters_52 (by decide) ?_
          refine ml_icmp_ne (pc := 54) (tgt := 59) X h_x2 ⟨by decide, by decide⟩ dX12_isLetters_54 (by decide) (fun c7 => ?_) (fun c7 => ?_)
          · have hw := hw.1 c7
            refine ml_aload_n (pc := 59) X hl 0 rfl rfl dX12_isLetters_59 ?_
            refine gf_X12_80 (pc := 60) X (ml_c215 hn) dX12_isLetters_60 ?_
            refine ml_iload_n (pc := 63) X hl 2 rfl rfl dX12_isLetters_63 ?_
            refine ml_iload_n (pc := 64) X hl 3 rfl rfl dX12_isLetters_64 ?_
            obtain ⟨a8, b8, hw⟩ := hw
            refine ml_iast (pc := 65) (N := 6) X (ml_c237 hn) a8 b8 h_x3 dX12_isLetters_65 (fun σ8 g8 => ?_)
            have hw := hw σ8 g8
            obtain ⟨v9, hw⟩ := hw
            obtain ⟨y9, e9⟩ : ∃ y : Int, y = x2 + 1 := ⟨_, rfl⟩
            have hw := hw y9 e9
            rw [← e9] at v9
            refine ml_iinc (pc := 66) X e9 hl 2 rfl (by decide) (lst' := [(2, .int (Int32.ofInt y9)), (0, .ref (base + (215 : Int).toNat)), (1, .int (Int32.ofInt x1)), (3, .int (Int32.ofInt x3))]) rfl dX12_isLetters_66 (fun ls hl => ?_)
            exact u_X12_isLetters_69 X hn ih σ8 x1 y9 x3 h_x1 v9 h_x3 _ (lv_sub hl [1, 2, 0, 3] rfl) hw
          · have hw := hw.2 c7
            exact hK57 σ5   _ (lv_sub hl [] rfl) hw
      · have hw := hw.2 c4
        refine ml_goto (pc := 40) (tgt := 69) X dX12_isLetters_40 (by decide) ?_
        exact u_X12_isLetters_69 X hn ih σ3 x1 x2 x3 h_x1 h_x2 h_x3 _ (lv_sub hl [0, 1, 2, 3] rfl) hw
set_option maxRecDepth 100000 in
set_option maxHeartbeats 4000000 in
theorem u_X12_isLetters_57 {p : Program} {e : Env} {s : State} {m : MethodId} {args : Array Value} {below : List Frame} {meth : Method} {c : Code} {base : Nat} {D : va_G} {cA : Nat → ClassId} {n : Nat} {l : Launch} {Q : Int → ml_St → Prop} (X : ml_X p s m c meth args D cA cX12_isLetters 4 RX12 (some .boolean)) (hn : 256 ≤ n) (σ : ml_St) (ls : Array Slot) (hl : lv_has ls 4 []) (hw : f_X12_isLetters_u57 Q σ) : ml_V p l e rm_X12_isLetters s m args below meth c (MQ below (ml_Qi ml_B base D cA n Q) args s 0 0 (ml_A base)) base D cA 0 0 n n σ (F0 m 57 ls []) := by
  unfold f_X12_isLetters_u57 at hw
  refine ml_iconst (pc := 57) X dX12_isLetters_57 ?_
  exact ml_zret (pc := 58) X ⟨by decide, by decide⟩ hw dX12_isLetters_58
set_option maxRecDepth 100000 in
set_option maxHeartbeats 4000000 in
theorem u_X12_isLetters_75 {p : Program} {e : Env} {s : State} {m : MethodId} {args : Array Value} {below : List Frame} {meth : Method} {c : Code} {base : Nat} {D : va_G} {cA : Nat → ClassId} {n : Nat} {l : Launch} {Q : Int → ml_St → Prop} (X : ml_X p s m c meth args D cA cX12_isLetters 4 RX12 (some .boolean)) (hn : 256 ≤ n) (σ : ml_St) (x2 : Int) (h_x2 : I32 x2) (ls : Array Slot) (hl : lv_has ls 4 [(0, .ref (base + (215 : Int).toNat)), (2, .int (Int32.ofInt x2))]) (hw : f_X12_isLetters_u75 Q σ x2) : ml_V p l e rm_X12_isLetters s m args below meth c (MQ below (ml_Qi ml_B base D cA n Q) args s 0 0 (ml_A base)) base D cA 0 0 n n σ (F0 m 75 ls []) := by
  unfold f_X12_isLetters_u75 at hw
  refine ml_aload_n (pc := 75) X hl 0 rfl rfl dX12_isLetters_75 ?_
  refine ml_iload_n (pc := 76) X hl 1 rfl rfl dX12_isLetters_76 ?_
  refine pf_X12_364 (pc := 77) X (ml_c215 hn) h_x2 dX12_isLetters_77 (fun σ1 g1 => ?_)
  have hw := hw σ1 g1
  refine ml_iconst (pc := 80) X dX12_isLetters_80 ?_
  exact ml_zret (pc := 81) X ⟨by decide, by decide⟩ hw dX12_isLetters_81
set_option maxRecDepth 100000 in
set_option maxHeartbeats 4000000 in
theorem u_X12_isLetters_0 {p : Program} {e : Env} {s : State} {m : MethodId} {args : Array Value} {below : List Frame} {meth : Method} {c : Code} {base : Nat} {D : va_G} {cA : Nat → ClassId} {n : Nat} {l : Launch} {Q : Int → ml_St → Prop} (X : ml_X p s m c meth args D cA cX12_isLetters 4 RX12 (some .boolean)) (hn : 256 ≤ n) (σ : ml_St) (x1 : Int) (h_x1 : I32 x1) (ls : Array Slot) (hl : lv_has ls 4 [(0, .ref (base + (215 : Int).toNat)), (1, .int (Int32.ofInt x1))]) (hw : f_X12_isLetters_u0 Q σ x1) : ml_V p l e rm_X12_isLetters s m args below meth c (MQ below (ml_Qi ml_B base D cA n Q) args s 0 0 (ml_A base)) base D cA 0 0 n n σ (F0 m 0 ls []) := by
  unfold f_X12_isLetters_u0 at hw
  refine ml_iconst (pc := 0) X dX12_isLetters_0 ?_
  refine ml_istore_n (pc := 1) X rfl hl (by decide) (lst' := [(2, .int (Int32.ofInt 0)), (0, .ref (base + (215 : Int).toNat)), (1, .int (Int32.ofInt x1))]) rfl dX12_isLetters_1 (fun ls hl => ?_)
  refine ml_iload_n (pc := 2) X hl 2 rfl rfl dX12_isLetters_2 ?_
  refine ml_i2l (pc := 3) X h_x1 dX12_isLetters_3 ?_
  refine ml_lconst1 (pc := 4) X dX12_isLetters_4 ?_
  refine ml_iconst (pc := 5) X dX12_isLetters_5 ?_
  refine ml_aload_n (pc := 6) X hl 1 rfl rfl dX12_isLetters_6 ?_
  refine gf_X12_140 (pc := 7) X (ml_c215 hn) dX12_isLetters_7 (fun r1 => ?_)
  have hw := hw r1
  refine ml_ishl (pc := 10) X dX12_isLetters_10 ?_
  refine ml_iconst (pc := 11) X dX12_isLetters_11 ?_
  obtain ⟨v2, hw⟩ := hw
  refine ml_isub (pc := 12) X dX12_isLetters_12 ?_
  refine ml_i2l (pc := 13) X v2 dX12_isLetters_13 ?_
  refine ml_callzS (pc := 14) (rest := []) X [.long (Int64.ofInt x1), .long (Int64.ofInt 1), .long (Int64.ofInt ((b_shl 1 (σ 215 3)) - 1))] (c_X12_lies l base D cA n hn σ x1 1 ((b_shl 1 (σ 215 3)) - 1) (h_x1).l ⟨by decide, by decide⟩ (v2).l _ hw) cv_X12_143 ⟨rfl, rfl⟩ ⟨by decide, by decide⟩ rfl rfl hl (Nat.le_of_ble_eq_true rfl) ⟨Nat.zero_le _, Nat.zero_le _⟩ dX12_isLetters_14 (fun r3 σ3 t3 hw => ?_)
  have hw := hw t3
  refine ml_if_ne (pc := 17) (tgt := 22) X t3.i dX12_isLetters_17 (by decide) (fun c4 => ?_) (fun c4 => ?_)
  · have hw := hw.1 c4
    refine ml_iconst (pc := 22) X dX12_isLetters_22 ?_
    refine ml_istore_n (pc := 23) X rfl hl (by decide) (lst' := [(3, .int (Int32.ofInt 0)), (2, .int (Int32.ofInt 0)), (0, .ref (base + (215 : Int).toNat)), (1, .int (Int32.ofInt x1))]) rfl dX12_isLetters_23 (fun ls hl => ?_)
    obtain ⟨N0, hw⟩ := hw
    exact u_X12_isLetters_24 X hn (fun σ   ls hl hw => u_X12_isLetters_57 X hn σ   ls hl hw) (fun σ x2 h_x2 ls hl hw => u_X12_isLetters_75 X hn σ x2 h_x2 ls hl hw) N0 σ3 x1 0 0 h_x1 ⟨by decide, by decide⟩ ⟨by decide, by decide⟩ _ (lv_sub hl [2, 3, 1, 0] rfl) hw
  · have hw := hw.2 c4
    refine ml_iconst (pc := 20) X dX12_isLetters_20 ?_
    exact ml_zret (pc := 21) X ⟨by decide, by decide⟩ hw dX12_isLetters_21
set_option maxRecDepth 100000 in
theorem c_X12_isLetters (l : Launch) (base : Nat) (D : va_G) (cA : Nat → ClassId) (n : Nat) (hn : 256 ≤ n) (σ : ml_St) (x1 : Int) (h_x1 : I32 x1) (Q : Int → ml_St → Prop) (hw : f_X12_isLetters σ x1 Q) : Met l yX12_isLetters (Cond.code yX12_isLetters cX12_isLetters 4 (some .boolean) :: ml_T) rm_X12_isLetters (va_Pc [.ref (base + (215 : Int).toNat), .int (Int32.ofInt x1)] (ml_U base D cA n σ)) (ml_Qi ml_B base D cA n Q) 0 0 (ml_A base) := by
  refine Met.ofW (cc := cX12_isLetters) (maxL := 4) (ret := (some .boolean)) (by decide) rfl ?_
  intro p e s m args below meth c s₁ B hml hv
  obtain ⟨rfl, hP, hK, hok, hro⟩ := hv
  have X : ml_X p s m c meth _ D cA cX12_isLetters 4 RX12 (some .boolean) := ⟨B.exec, B.bytes, hml, findClass_of_methodNamed B.named, fun w hw => atoms_spec (ws := Cond.code yX12_isLetters cX12_isLetters 4 (some .boolean) :: ml_T) B.pre w (List.mem_cons_of_mem _ hw), hK, B.notSynchronized, B.returns⟩
  have hl := lv_entry [.ref (base + (215 : Int).toNat), .int (Int32.ofInt x1)] (n := 4) (Nat.le_of_ble_eq_true rfl)
  rw [lg_entry_eq]
  generalize (lg_sl [.ref (base + (215 : Int).toNat), .int (Int32.ofInt x1)] ++ List.replicate (4 - (lg_sl [.ref (base + (215 : Int).toNat), .int (Int32.ofInt x1)]).length) Slot.unset).toArray = ls at hl ⊢
  have hl : lv_has ls 4 [(0, .ref (base + (215 : Int).toNat)), (1, .int (Int32.ofInt x1))] := hl
  unfold f_X12_isLetters at hw
  exact u_X12_isLetters_0 X hn σ x1 h_x1 _ (lv_sub hl [0, 1] rfl) hw s.heap [] hP va_S.rf hok hro
theorem dX12_few_0 : decode cX12_few 0 = .ok (.lload_n 0, 1) := by decide +kernel
theorem dX12_few_1 : decode cX12_few 1 = .ok (.ldc2_w 370, 3) := by decide +kernel
theorem dX12_few_4 : decode cX12_few 4 = .ok (.lcmp, 1) := by decide +kernel
theorem dX12_few_5 : decode cX12_few 5 = .ok (.ifCond .le 7, 3) := by decide +kernel
theorem dX12_few_8 : decode cX12_few 8 = .ok (.iconst 4, 1) := by decide +kernel
theorem dX12_few_9 : decode cX12_few 9 = .ok (.goto 5, 3) := by decide +kernel
theorem dX12_few_12 : decode cX12_few 12 = .ok (.lload_n 0, 1) := by decide +kernel
theorem dX12_few_13 : decode cX12_few 13 = .ok (.l2i, 1) := by decide +kernel
theorem dX12_few_14 : decode cX12_few 14 = .ok (.ireturn, 1) := by decide +kernel
def f_X12_few_u14 (Q : Int → ml_St → Prop) (σ : ml_St) (s0 : Int) : Prop :=
Q s0 σ
def f_X12_few_u0 (Q : Int → ml_St → Prop) (σ : ml_St) (x0 : Int) : Prop :=
(x0 ≤ 4 →
f_X12_few_u14 Q σ (b_l2i x0)) ∧
(¬ (x0 ≤ 4) →
f_X12_few_u14 Q σ 4)
def f_X12_few (σ : ml_St) (x0 : Int) (Q : Int → ml_St → Prop) : Prop := f_X12_few_u0 Q σ x0
def rm_X12_few : Room := { frames := 0, cells := 0, slots := 0, locals := 0 }
set_option maxRecDepth 100000 in
set_option maxHeartbeats 4000000 in
theorem u_X12_few_14 {p : Program} {e : Env} {s : State} {m : MethodId} {args : Array Value} {below : List Frame} {meth : Method} {c : Code} {base : Nat} {D : va_G} {cA : Nat → ClassId} {n : Nat} {l : Launch} {Q : Int → ml_St → Prop} (X : ml_X p s m c meth args D cA cX12_few 2 RX12 (some .int)) (hn : 256 ≤ n) (σ : ml_St) (s0 : Int) (h_s0 : I32 s0) (ls : Array Slot) (hl : lv_has ls 2 []) (hw : f_X12_few_u14 Q σ s0) : ml_V p l e rm_X12_few s m args below meth c (MQ below (ml_Qi I32 base D cA n Q) args s 0 0 (ml_A base)) base D cA 0 0 n n σ (F0 m 14 ls [.int (Int32.ofInt s0)]) := by
  unfold f_X12_few_u14 at hw
  exact ml_iret (pc := 14) X h_s0 hw dX12_few_14
set_option maxRecDepth 100000 in
set_option maxHeartbeats 4000000 in
theorem u_X12_few_0 {p : Program} {e : Env} {s : State} {m : MethodId} {args : Array Value} {below : List Frame} {meth : Method} {c : Code} {base : Nat} {D : va_G} {cA : Nat → ClassId} {n : Nat} {l : Launch} {Q : Int → ml_St → Prop} (X : ml_X p s m c meth args D cA cX12_few 2 RX12 (some .int)) (hn : 256 ≤ n) (σ : ml_St) (x0 : Int) (h_x0 : I64 x0) (ls : Array Slot) (hl : lv_has ls 2 [(0, .long (Int64.ofInt x0))]) (hw : f_X12_few_u0 Q σ x0) : ml_V p l e rm_X12_few s m args below meth c (MQ below (ml_Qi I32 base D cA n Q) args s 0 0 (ml_A base)) base D cA 0 0 n n σ (F0 m 0 ls []) := by
  unfold f_X12_few_u0 at hw
  refine ml_lload_n (pc := 0) X hl 0 rfl rfl dX12_few_0 ?_
  refine ml_ldc2 (pc := 1) (v := 4) X dX12_few_1 tc_6_173 ?_
  refine ml_lcmp_le (pc := 4) (tgt := 12) X h_x0 ⟨by decide, by decide⟩ dX12_few_4 dX12_few_5 (by decide) (fun c1 => ?_) (fun c1 => ?_)
  · have hw := hw.1 c1
    refine ml_lload_n (pc := 12) X hl 0 rfl rfl dX12_few_12 ?_
    refine ml_l2i (pc := 13) X dX12_few_13 ?_
    exact u_X12_few_14 X hn σ (b_l2i x0) (b_l2i_r _) _ (lv_sub hl [] rfl) hw
  · have hw := hw.2 c1
    refine ml_iconst (pc := 8) X dX12_few_8 ?_
    refine ml_goto (pc := 9) (tgt := 14) X dX12_few_9 (by decide) ?_
    exact u_X12_few_14 X hn σ 4 ⟨by decide, by decide⟩ _ (lv_sub hl [] rfl) hw
set_option maxRecDepth 100000 in
theorem c_X12_few (l : Launch) (base : Nat) (D : va_G) (cA : Nat → ClassId) (n : Nat) (hn : 256 ≤ n) (σ : ml_St) (x0 : Int) (h_x0 : I64 x0) (Q : Int → ml_St → Prop) (hw : f_X12_few σ x0 Q) : Met l yX12_few (Cond.code yX12_few cX12_few 2 (some .int) :: ml_T) rm_X12_few (va_Pc [.long (Int64.ofInt x0)] (ml_U base D cA n σ)) (ml_Qi I32 base D cA n Q) 0 0 (ml_A base) := by
  refine Met.ofW (cc := cX12_few) (maxL := 2) (ret := (some .int)) (by decide) rfl ?_
  intro p e s m args below meth c s₁ B hml hv
  obtain ⟨rfl, hP, hK, hok, hro⟩ := hv
  have X : ml_X p s m c meth _ D cA cX12_few 2 RX12 (some .int) := ⟨B.exec, B.bytes, hml, findClass_of_methodNamed B.named, fun w hw => atoms_spec (ws := Cond.code yX12_few cX12_few 2 (some .int) :: ml_T) B.pre w (List.mem_cons_of_mem _ hw), hK, B.notSynchronized, B.returns⟩
  have hl := lv_entry [.long (Int64.ofInt x0)] (n := 2) (Nat.le_of_ble_eq_true rfl)
  rw [lg_entry_eq]
  generalize (lg_sl [.long (Int64.ofInt x0)] ++ List.replicate (2 - (lg_sl [.long (Int64.ofInt x0)]).length) Slot.unset).toArray = ls at hl ⊢
  have hl : lv_has ls 2 [(0, .long (Int64.ofInt x0))] := hl
  unfold f_X12_few at hw
  exact u_X12_few_0 X hn σ x0 h_x0 _ (lv_sub hl [0] rfl) hw s.heap [] hP va_S.rf hok hro
theorem dX12_stateOf_0 : decode cX12_stateOf 0 = .ok (.aload_n 0, 1) := by decide +kernel
theorem dX12_stateOf_1 : decode cX12_stateOf 1 = .ok (.iload_n 1, 1) := by decide +kernel
theorem dX12_stateOf_2 : decode cX12_stateOf 2 = .ok (.invokevirtual 310, 3) := by decide +kernel
theorem dX12_stateOf_5 : decode cX12_stateOf 5 = .ok (.lstore_n 2, 1) := by decide +kernel
theorem dX12_stateOf_6 : decode cX12_stateOf 6 = .ok (.iconst 0, 1) := by decide +kernel
theorem dX12_stateOf_7 : decode cX12_stateOf 7 = .ok (.istore 4, 2) := by decide +kernel
theorem dX12_stateOf_9 : decode cX12_stateOf 9 = .ok (.iload 4, 2) := by decide +kernel
theorem dX12_stateOf_11 : decode cX12_stateOf 11 = .ok (.aload_n 0, 1) := by decide +kernel
theorem dX12_stateOf_12 : decode cX12_stateOf 12 = .ok (.getfield 367, 3) := by decide +kernel
theorem dX12_stateOf_15 : decode cX12_stateOf 15 = .ok (.if_icmp .ge 24, 3) := by decide +kernel
theorem dX12_stateOf_18 : decode cX12_stateOf 18 = .ok (.aload_n 0, 1) := by decide +kernel
theorem dX12_stateOf_19 : decode cX12_stateOf 19 = .ok (.getfield 83, 3) := by decide +kernel
theorem dX12_stateOf_22 : decode cX12_stateOf 22 = .ok (.iload 4, 2) := by decide +kernel
theorem dX12_stateOf_24 : decode cX12_stateOf 24 = .ok (.laload, 1) := by decide +kernel
theorem dX12_stateOf_25 : decode cX12_stateOf 25 = .ok (.lload_n 2, 1) := by decide +kernel
theorem dX12_stateOf_26 : decode cX12_stateOf 26 = .ok (.lcmp, 1) := by decide +kernel
theorem dX12_stateOf_27 : decode cX12_stateOf 27 = .ok (.ifCond .ne 6, 3) := by decide +kernel
theorem dX12_stateOf_30 : decode cX12_stateOf 30 = .ok (.iload 4, 2) := by decide +kernel
theorem dX12_stateOf_32 : decode cX12_stateOf 32 = .ok (.ireturn, 1) := by decide +kernel
theorem dX12_stateOf_33 : decode cX12_stateOf 33 = .ok (.iinc 4 1, 3) := by decide +kernel
theorem dX12_stateOf_36 : decode cX12_stateOf 36 = .ok (.goto (-27), 3) := by decide +kernel
theorem dX12_stateOf_39 : decode cX12_stateOf 39 = .ok (.aload_n 0, 1) := by decide +kernel
theorem dX12_stateOf_40 : decode cX12_stateOf 40 = .ok (.getfield 83, 3) := by decide +kernel
theorem dX12_stateOf_43 : decode cX12_stateOf 43 = .ok (.aload_n 0, 1) := by decide +kernel
theorem dX12_stateOf_44 : decode cX12_stateOf 44 = .ok (.getfield 367, 3) := by decide +kernel
theorem dX12_stateOf_47 : decode cX12_stateOf 47 = .ok (.lload_n 2, 1) := by decide +kernel
theorem dX12_stateOf_48 : decode cX12_stateOf 48 = .ok (.lastore, 1) := by decide +kernel
theorem dX12_stateOf_49 : decode cX12_stateOf 49 = .ok (.iconst 0, 1) := by decide +kernel
theorem dX12_stateOf_50 : decode cX12_stateOf 50 = .ok (.istore 4, 2) := by decide +kernel
theorem dX12_stateOf_52 : decode cX12_stateOf 52 = .ok (.iload 4, 2) := by decide +kernel
theorem dX12_stateOf_54 : decode cX12_stateOf 54 = .ok (.iconst 2, 1) := by decide +kernel
theorem dX12_stateOf_55 : decode cX12_stateOf 55 = .ok (.aload_n 0, 1) := by decide +kernel
theorem dX12_stateOf_56 : decode cX12_stateOf 56 = .ok (.getfield 13, 3) := by decide +kernel
theorem dX12_stateOf_59 : decode cX12_stateOf 59 = .ok (.imul, 1) := by decide +kernel
theorem dX12_stateOf_60 : decode cX12_stateOf 60 = .ok (.if_icmp .ge 37, 3) := by decide +kernel
theorem dX12_stateOf_63 : decode cX12_stateOf 63 = .ok (.aload_n 0, 1) := by decide +kernel
theorem dX12_stateOf_64 : decode cX12_stateOf 64 = .ok (.getfield 86, 3) := by decide +kernel
theorem dX12_stateOf_67 : decode cX12_stateOf 67 = .ok (.bipush 10, 2) := by decide +kernel
theorem dX12_stateOf_69 : decode cX12_stateOf 69 = .ok (.aload_n 0, 1) := by decide +kernel
theorem dX12_stateOf_70 : decode cX12_stateOf 70 = .ok (.getfield 367, 3) := by decide +kernel
theorem dX12_stateOf_73 : decode cX12_stateOf 73 = .ok (.imul, 1) := by decide +kernel
theorem dX12_stateOf_74 : decode cX12_stateOf 74 = .ok (.iload 4, 2) := by decide +kernel
theorem dX12_stateOf_76 : decode cX12_stateOf 76 = .ok (.iadd, 1) := by decide +kernel
theorem dX12_stateOf_77 : decode cX12_stateOf 77 = .ok (.aload_n 0, 1) := by decide +kernel
theorem dX12_stateOf_78 : decode cX12_stateOf 78 = .ok (.getfield 49, 3) := by decide +kernel
theorem dX12_stateOf_81 : decode cX12_stateOf 81 = .ok (.bipush 10, 2) := by decide +kernel
theorem dX12_stateOf_83 : decode cX12_stateOf 83 = .ok (.iload_n 1, 1) := by decide +kernel
theorem dX12_stateOf_84 : decode cX12_stateOf 84 = .ok (.imul, 1) := by decide +kernel
theorem dX12_stateOf_85 : decode cX12_stateOf 85 = .ok (.iload 4, 2) := by decide +kernel
theorem dX12_stateOf_87 : decode cX12_stateOf 87 = .ok (.iadd, 1) := by decide +kernel
theorem dX12_stateOf_88 : decode cX12_stateOf 88 = .ok (.iaload, 1) := by decide +kernel
theorem dX12_stateOf_89 : decode cX12_stateOf 89 = .ok (.i2b, 1) := by decide +kernel
theorem dX12_stateOf_90 : decode cX12_stateOf 90 = .ok (.bastore, 1) := by decide +kernel
theorem dX12_stateOf_91 : decode cX12_stateOf 91 = .ok (.iinc 4 1, 3) := by decide +kernel
theorem dX12_stateOf_94 : decode cX12_stateOf 94 = .ok (.goto (-42), 3) := by decide +kernel
theorem dX12_stateOf_97 : decode cX12_stateOf 97 = .ok (.aload_n 0, 1) := by decide +kernel
theorem dX12_stateOf_98 : decode cX12_stateOf 98 = .ok (.getfield 98, 3) := by decide +kernel
theorem dX12_stateOf_101 : decode cX12_stateOf 101 = .ok (.aload_n 0, 1) := by decide +kernel
theorem dX12_stateOf_102 : decode cX12_stateOf 102 = .ok (.getfield 367, 3) := by decide +kernel
theorem dX12_stateOf_105 : decode cX12_stateOf 105 = .ok (.aload_n 0, 1) := by decide +kernel
theorem dX12_stateOf_106 : decode cX12_stateOf 106 = .ok (.iload_n 1, 1) := by decide +kernel
theorem dX12_stateOf_107 : decode cX12_stateOf 107 = .ok (.invokevirtual 302, 3) := by decide +kernel
theorem dX12_stateOf_110 : decode cX12_stateOf 110 = .ok (.iastore, 1) := by decide +kernel
theorem dX12_stateOf_111 : decode cX12_stateOf 111 = .ok (.aload_n 0, 1) := by decide +kernel
theorem dX12_stateOf_112 : decode cX12_stateOf 112 = .ok (.dup, 1) := by decide +kernel
theorem dX12_stateOf_113 : decode cX12_stateOf 113 = .ok (.getfield 367, 3) := by decide +kernel
theorem dX12_stateOf_116 : decode cX12_stateOf 116 = .ok (.iconst 1, 1) := by decide +kernel
theorem dX12_stateOf_117 : decode cX12_stateOf 117 = .ok (.iadd, 1) := by decide +kernel
theorem dX12_stateOf_118 : decode cX12_stateOf 118 = .ok (.putfield 367, 3) := by decide +kernel
theorem dX12_stateOf_121 : decode cX12_stateOf 121 = .ok (.aload_n 0, 1) := by decide +kernel
theorem dX12_stateOf_122 : decode cX12_stateOf 122 = .ok (.getfield 367, 3) := by decide +kernel
theorem dX12_stateOf_125 : decode cX12_stateOf 125 = .ok (.iconst 1, 1) := by decide +kernel
theorem dX12_stateOf_126 : decode cX12_stateOf 126 = .ok (.isub, 1) := by decide +kernel
theorem dX12_stateOf_127 : decode cX12_stateOf 127 = .ok (.ireturn, 1) := by decide +kernel
def f_X12_stateOf_u9 (Q : Int → ml_St → Prop) (K30 : ml_St → Int → Prop) (K39 : ml_St → Int → Int → Prop) : Nat → ml_St → Int → Int → Int → Prop
| 0, _, _, _, _ => False
| N + 1, σ, x1, x2, x4 =>
∀ _ : I32 (σ 215 39),
((σ 215 39) ≤ x4 →
K39 σ x1 x2) ∧
(¬ ((σ 215 39) ≤ x4) →
(0 : Int) ≤ x4 ∧ (x4 : Int) < 950 ∧
∀ _ : I64 (σ 238 x4),
((σ 238 x4) ≠ x2 →
I32 (x4 + 1) ∧
∀ y5 : Int, y5 = x4 + 1 →
f_X12_stateOf_u9 Q K30 K39 N σ x1 x2 y5) ∧
((σ 238 x4) = x2 →
K30 σ x4))
def f_X12_stateOf_u30 (Q : Int → ml_St → Prop) (σ : ml_St) (x4 : Int) : Prop :=
Q x4 σ
def f_X12_stateOf_u52 (Q : Int → ml_St → Prop) (K97 : ml_St → Int → Prop) : Nat → ml_St → Int → Int → Prop
| 0, _, _, _ => False
| N + 1, σ, x1, x4 =>
∀ _ : I32 (σ 215 2),
I32 (2 * (σ 215 2)) ∧
((2 * (σ 215 2)) ≤ x4 →
K97 σ x1) ∧
(¬ ((2 * (σ 215 2)) ≤ x4) →
∀ _ : I32 (σ 215 39),
I32 (10 * (σ 215 39)) ∧
I32 ((10 * (σ 215 39)) + x4) ∧
I32 (10 * x1) ∧
I32 ((10 * x1) + x4) ∧
(0 : Int) ≤ ((10 * x1) + x4) ∧ (((10 * x1) + x4) : Int) < 640 ∧
∀ _ : I32 (σ 227 ((10 * x1) + x4)),
(0 : Int) ≤ ((10 * (σ 215 39)) + x4) ∧ (((10 * (σ 215 39)) + x4) : Int) < 9500 ∧
∀ σ10, σ10 = ml_up σ 239 ((10 * (σ 215 39)) + x4) (b_i2b (σ 227 ((10 * x1) + x4))) →
I32 (x4 + 1) ∧
∀ y11 : Int, y11 = x4 + 1 →
f_X12_stateOf_u52 Q K97 N σ10 x1 y11)
def f_X12_stateOf_u97 (Q : Int → ml_St → Prop) (σ : ml_St) (x1 : Int) : Prop :=
∀ _ : I32 (σ 215 39),
f_X12_closing σ x1 (fun r2 σ2 => ∀ _ : I32 r2,
(0 : Int) ≤ (σ 215 39) ∧ ((σ 215 39) : Int) < 950 ∧
∀ σ3, σ3 = ml_up σ2 243 (σ 215 39) r2 →
∀ _ : I32 (σ3 215 39),
I32 ((σ3 215 39) + 1) ∧
∀ σ6, σ6 = ml_up σ3 215 39 ((σ3 215 39) + 1) →
∀ _ : I32 (σ6 215 39),
I32 ((σ6 215 39) - 1) ∧
Q ((σ6 215 39) - 1) σ6)
def f_X12_stateOf_u39 (Q : Int → ml_St → Prop) (σ : ml_St) (x1 : Int) (x2 : Int) : Prop :=
∀ _ : I32 (σ 215 39),
(0 : Int) ≤ (σ 215 39) ∧ ((σ 215 39) : Int) < 950 ∧
∀ σ2, σ2 = ml_up σ 238 (σ 215 39) x2 →
∃ N1, f_X12_stateOf_u52 Q (f_X12_stateOf_u97 Q) N1 σ2 x1 0
def f_X12_stateOf_u0 (Q : Int → ml_St → Prop) (σ : ml_St) (x1 : Int) : Prop :=
f_X12_codeOf σ x1 (fun r1 σ1 => ∀ _ : I64 r1,
∃ N1, f_X12_stateOf_u9 Q (f_X12_stateOf_u30 Q) (f_X12_stateOf_u39 Q) N1 σ1 x1 r1 0)
def f_X12_stateOf (σ : ml_St) (x1 : Int) (Q : Int → ml_St → Prop) : Prop := f_X12_stateOf_u0 Q σ x1
def rm_X12_stateOf : Room := { frames := 2, cells := 0, slots := 0, locals := 45 }
set_option maxRecDepth 100000 in
set_option maxHeartbeats 4000000 in
theorem u_X12_stateOf_9 {p : Program} {e : Env} {s : State} {m : MethodId} {args : Array Value} {below : List Frame} {meth : Method} {c : Code} {base : Nat} {D : va_G} {cA : Nat → ClassId} {n : Nat} {l : Launch} {Q : Int → ml_St → Prop} {K30 : ml_St → Int → Prop} {K39 : ml_St → Int → Int → Prop} (X : ml_X p s m c meth args D cA cX12_stateOf 5 RX12 (some .int)) (hn : 256 ≤ n) (hK30 : ∀ (σ : ml_St) (x4 : Int) (h_x4 : I32 x4) (ls : Array Slot), lv_has ls 5 [(4, .int (Int32.ofInt x4))] → K30 σ x4 → ml_V p l e rm_X12_stateOf s m args below meth c (MQ below (ml_Qi I32 base D cA n Q) args s 0 0 (ml_A base)) base D cA 0 0 n n σ (F0 m 30 ls [])) (hK39 : ∀ (σ : ml_St) (x1 : Int) (x2 : Int) (h_x1 : I32 x1) (h_x2 : I64 x2) (ls : Array Slot), lv_has ls 5 [(0, .ref (base + (215 : Int).toNat)), (1, .int (Int32.ofInt x1)), (2, .long (Int64.ofInt x2))] → K39 σ x1 x2 → ml_V p l e rm_X12_stateOf s m args below meth c (MQ below (ml_Qi I32 base D cA n Q) args s 0 0 (ml_A base)) base D cA 0 0 n n σ (F0 m 39 ls [])) : ∀ (N : Nat) (σ : ml_St) (x1 : Int) (x2 : Int) (x4 : Int) (h_x1 : I32 x1) (h_x2 : I64 x2) (h_x4 : I32 x4) (ls : Array Slot), lv_has ls 5 [(0, .ref (base + (215 : Int).toNat)), (1, .int (Int32.ofInt x1)), (2, .long (Int64.ofInt x2)), (4, .int (Int32.ofInt x4))] → f_X12_stateOf_u9 Q K30 K39 N σ x1 x2 x4 → ml_V p l e rm_X12_stateOf s m args below meth c (MQ below (ml_Qi I32 base D cA n Q) args s 0 0 (ml_A base)) base D cA 0 0 n n σ (F0 m 9 ls []) := by
  intro N
  induction N with
  | zero => intro σ x1 x2 x4 h_x1 h_x2 h_x4 ls hl hw; exact False.elim hw
  | succ N ih =>
    intro σ x1 x2 x4 h_x1 h_x2 h_x4 ls hl hw
    unfold f_X12_stateOf_u9 at hw
    refine ml_iload (pc := 9) X hl 3 rfl dX12_stateOf_9 ?_
    refine ml_aload_n (pc := 11) X hl 0 rfl rfl dX12_stateOf_11 ?_
    refine gf_X12_367 (pc := 12) X (ml_c215 hn) dX12_stateOf_12 (fun r1 => ?_)
    have hw := hw r1
    refine ml_icmp_ge (pc := 15) (tgt := 39) X h_x4 r1 dX12_stateOf_15 (by decide) (fun c2 => ?_) (fun c2 => ?_)
    · have hw := hw.1 c2
      exact hK39 σ x1 x2 h_x1 h_x2 _ (lv_sub hl [0, 1, 2] rfl) hw
    · have hw := hw.2 c2
      refine ml_aload_n (pc := 18) X hl 0 rfl rfl dX12_stateOf_18 ?_
      refine gf_X12_83 (pc := 19) X (ml_c215 hn) dX12_stateOf_19 ?_
      refine ml_iload (pc := 22) X hl 3 rfl dX12_stateOf_22 ?_
      obtain ⟨a3, b3, hw⟩ := hw
      refine ml_lald (pc := 24) (N := 950) X (ml_c238 hn) a3 b3 dX12_stateOf_24 (fun r3 => ?_)
      have hw := hw r3
      refine ml_lload_n (pc := 25) X hl 2 rfl rfl dX12_stateOf_25 ?_
      refine ml_lcmp_ne (pc := 26) (tgt := 33) X r3 h_x2 dX12_stateOf_26 dX12_stateOf_27 (by decide) (fun c4 => ?_) (fun c4 => ?_)
      · have hw := hw.1 c4
        obtain ⟨v5, hw⟩ := hw
        obtain ⟨y5, e5⟩ : ∃ y : Int, y = x4 + 1 := ⟨_, rfl⟩
        have hw := hw y5 e5
        rw [← e5] at v5
        refine ml_iinc (pc := 33) X e5 hl 3 rfl (by decide) (lst' := [(4, .int (Int32.ofInt y5)), (0, .ref (base + (215 : Int).toNat)), (1, .int (Int32.ofInt x1)), (2, .long (Int64.ofInt x2))]) rfl dX12_stateOf_33 (fun ls hl => ?_)
        refine ml_goto (pc := 36) (tgt := 9) X dX12_stateOf_36 (by decide) ?_
        exact ih σ x1 x2 y5 h_x1 h_x2 v5 _ (lv_sub hl [1, 2, 3, 0] rfl) hw
      · have hw := hw.2 c4
        exact hK30 σ x4 h_x4 _ (lv_sub hl [3] rfl) hw
set_option maxRecDepth 100000 in
set_option maxHeartbeats 4000000 in
theorem u_X12_stateOf_30 {p : Program} {e : Env} {s : State} {m : MethodId} {args : Array Value} {below : List Frame} {meth : Method} {c : Code} {base : Nat} {D : va_G} {cA : Nat → ClassId} {n : Nat} {l : Launch} {Q : Int → ml_St → Prop} (X : ml_X p s m c meth args D cA cX12_stateOf 5 RX12 (some .int)) (hn : 256 ≤ n) (σ : ml_St) (x4 : Int) (h_x4 : I32 x4) (ls : Array Slot) (hl : lv_has ls 5 [(4, .int (Int32.ofInt x4))]) (hw : f_X12_stateOf_u30 Q σ x4) : ml_V p l e rm_X12_stateOf s m args below meth c (MQ below (ml_Qi I32 base D cA n Q) args s 0 0 (ml_A base)) base D cA 0 0 n n σ (F0 m 30 ls []) := by
  unfold f_X12_stateOf_u30 at hw
  refine ml_iload (pc := 30) X hl 0 rfl dX12_stateOf_30 ?_
  exact ml_iret (pc := 32) X h_x4 hw dX12_stateOf_32
set_option maxRecDepth 100000 in
set_option maxHeartbeats 4000000 in
theorem u_X12_stateOf_52 {p : Program} {e : Env} {s : State} {m : MethodId} {args : Array Value} {below : List Frame} {meth : Method} {c : Code} {base : Nat} {D : va_G} {cA : Nat → ClassId} {n : Nat} {l : Launch} {Q : Int → ml_St → Prop} {K97 : ml_St → Int → Prop} (X : ml_X p s m c meth args D cA cX12_stateOf 5 RX12 (some .int)) (hn : 256 ≤ n) (hK97 : ∀ (σ : ml_St) (x1 : Int) (h_x1 : I32 x1) (ls : Array Slot), lv_has ls 5 [(0, .ref (base + (215 : Int).toNat)), (1, .int (Int32.ofInt x1))] → K97 σ x1 → ml_V p l e rm_X12_stateOf s m args below meth c (MQ below (ml_Qi I32 base D cA n Q) args s 0 0 (ml_A base)) base D cA 0 0 n n σ (F0 m 97 ls [])) : ∀ (N : Nat) (σ : ml_St) (x1 : Int) (x4 : Int) (h_x1 : I32 x1) (h_x4 : I32 x4) (ls : Array Slot), lv_has ls 5 [(0, .ref (base + (215 : Int).toNat)), (1, .int (Int32.ofInt x1)), (4, .int (Int32.ofInt x4))] → f_X12_stateOf_u52 Q K97 N σ x1 x4 → ml_V p l e rm_X12_stateOf s m args below meth c (MQ below (ml_Qi I32 base D cA n Q) args s 0 0 (ml_A base)) base D cA 0 0 n n σ (F0 m 52 ls []) := by
  intro N
  induction N with
  | zero => intro σ x1 x4 h_x1 h_x4 ls hl hw; exact False.elim hw
  | succ N ih =>
    intro σ x1 x4 h_x1 h_x4 ls hl hw
    unfold f_X12_stateOf_u52 at hw
    refine ml_iload (pc := 52) X hl 2 rfl dX12_stateOf_52 ?_
    refine ml_iconst (pc := 54) X dX12_stateOf_54 ?_
    refine ml_aload_n (pc := 55) X hl 0 rfl rfl dX12_stateOf_55 ?_
    refine gf_X12_13 (pc := 56) X (ml_c215 hn) dX12_stateOf_56 (fun r1 => ?_)
    have hw := hw r1
    obtain ⟨v2, hw⟩ := hw
    refine ml_imul (pc := 59) X dX12_stateOf_59 ?_
    refine ml_icmp_ge (pc := 60) (tgt := 97) X h_x4 v2 dX12_stateOf_60 (by decide) (fun c3 => ?_) (fun c3 => ?_)
    · have hw := hw.1 c3
      exact hK97 σ x1 h_x1 _ (lv_sub hl [0, 1] rfl) hw
    · have hw := hw.2 c3
      refine ml_aload_n (pc := 63) X hl 0 rfl rfl dX12_stateOf_63 ?_
      refine gf_X12_86 (pc := 64) X (ml_c215 hn) dX12_stateOf_64 ?_
      refine ml_bipush (pc := 67) X dX12_stateOf_67 (by decide) ?_
      refine ml_aload_n (pc := 69) X hl 0 rfl rfl dX12_stateOf_69 ?_
      refine gf_X12_367 (pc := 70) X (ml_c215 hn) dX12_stateOf_70 (fun r4 => ?_)
      have hw := hw r4
      obtain ⟨v5, hw⟩ := hw
      refine ml_imul (pc := 73) X dX12_stateOf_73 ?_
      refine ml_iload (pc := 74) X hl 2 rfl dX12_stateOf_74 ?_
      obtain ⟨v6, hw⟩ := hw
      refine ml_iadd (pc := 76) X dX12_stateOf_76 ?_
      refine ml_aload_n (pc := 77) X hl 0 rfl rfl dX12_stateOf_77 ?_
      refine gf_X12_49 (pc := 78) X (ml_c215 hn) dX12_stateOf_78 ?_
      refine ml_bipush (pc := 81) X dX12_stateOf_81 (by decide) ?_
      refine ml_iload_n (pc := 83) X hl 1 rfl rfl dX12_stateOf_83 ?_
      obtain ⟨v7, hw⟩ := hw
      refine ml_imul (pc := 84) X dX12_stateOf_84 ?_
      refine ml_iload (pc := 85) X hl 2 rfl dX12_stateOf_85 ?_
      obtain ⟨v8, hw⟩ := hw
      refine ml_iadd (pc := 87) X dX12_stateOf_87 ?_
      obtain ⟨a9, b9, hw⟩ := hw
      refine ml_iald (pc := 88) (N := 640) X (ml_c227 hn) a9 b9 dX12_stateOf_88 (fun r9 => ?_)
      have hw := hw r9
      refine ml_i2b (pc := 89) X dX12_stateOf_89 ?_
      obtain ⟨a10, b10, hw⟩ := hw
      refine ml_bast (pc := 90) (N := 9500) X (ml_c239 hn) a10 b10 (b_i2b_r _) dX12_stateOf_90 (fun σ10 g10 => ?_)
      have hw := hw σ10 g10
      obtain ⟨v11, hw⟩ := hw
      obtain ⟨y11, e11⟩ : ∃ y : Int, y = x4 + 1 := ⟨_, rfl⟩
      have hw := hw y11 e11
      rw [← e11] at v11
      refine ml_iinc (pc := 91) X e11 hl 2 rfl (by decide) (lst' := [(4, .int (Int32.ofInt y11)), (0, .ref (base + (215 : Int).toNat)), (1, .int (Int32.ofInt x1))]) rfl dX12_stateOf_91 (fun ls hl => ?_)
      refine ml_goto (pc := 94) (tgt := 52) X dX12_stateOf_94 (by decide) ?_
      exact ih σ10 x1 y11 h_x1 v11 _ (lv_sub hl [1, 2, 0] rfl) hw
set_option maxRecDepth 100000 in
set_option maxHeartbeats 4000000 in
theorem u_X12_stateOf_97 {p : Program} {e : Env} {s : State} {m : MethodId} {args : Array Value} {below : List Frame} {meth : Method} {c : Code} {base : Nat} {D : va_G} {cA : Nat → ClassId} {n : Nat} {l : Launch} {Q : Int → ml_St → Prop} (X : ml_X p s m c meth args D cA cX12_stateOf 5 RX12 (some .int)) (hn : 256 ≤ n) (σ : ml_St) (x1 : Int) (h_x1 : I32 x1) (ls : Array Slot) (hl : lv_has ls 5 [(0, .ref (base + (215 : Int).toNat)), (1, .int (Int32.ofInt x1))]) (hw : f_X12_stateOf_u97 Q σ x1) : ml_V p l e rm_X12_stateOf s m args below meth c (MQ below (ml_Qi I32 base D cA n Q) args s 0 0 (ml_A base)) base D cA 0 0 n n σ (F0 m 97 ls []) := by
  unfold f_X12_stateOf_u97 at hw
  refine ml_aload_n (pc := 97) X hl 0 rfl rfl dX12_stateOf_97 ?_
  refine gf_X12_98 (pc := 98) X (ml_c215 hn) dX12_stateOf_98 ?_
  refine ml_aload_n (pc := 101) X hl 0 rfl rfl dX12_stateOf_101 ?_
  refine gf_X12_367 (pc := 102) X (ml_c215 hn) dX12_stateOf_102 (fun r1 => ?_)
  have hw := hw r1
  refine ml_aload_n (pc := 105) X hl 0 rfl rfl dX12_stateOf_105 ?_
  refine ml_iload_n (pc := 106) X hl 1 rfl rfl dX12_stateOf_106 ?_
  refine ml_calliV (pc := 107) (rest := [.int (Int32.ofInt (σ 215 39)), .ref (base + (243 : Int).toNat)]) X [.int (Int32.ofInt x1)] (by decide) rfl (ml_c215 hn) (c_X12_closing l base D cA n hn σ x1 h_x1 _ hw) cv_X12_302 ⟨rfl, rfl⟩ ⟨by decide, by decide⟩ rfl rfl hl (Nat.le_of_ble_eq_true rfl) ⟨Nat.zero_le _, Nat.zero_le _⟩ dX12_stateOf_107 (fun r2 σ2 t2 hw => ?_)
  have hw := hw t2
  obtain ⟨a3, b3, hw⟩ := hw
  refine ml_iast (pc := 110) (N := 950) X (ml_c243 hn) a3 b3 t2 dX12_stateOf_110 (fun σ3 g3 => ?_)
  have hw := hw σ3 g3
  refine ml_aload_n (pc := 111) X hl 0 rfl rfl dX12_stateOf_111 ?_
  refine ml_dup (pc := 112) X dX12_stateOf_112 rfl ?_
  refine gf_X12_367 (pc := 113) X (ml_c215 hn) dX12_stateOf_113 (fun r4 => ?_)
  have hw := hw r4
  refine ml_iconst (pc := 116) X dX12_stateOf_116 ?_
  obtain ⟨v5, hw⟩ := hw
  refine ml_iadd (pc := 117) X dX12_stateOf_117 ?_
  refine pf_X12_367 (pc := 118) X (ml_c215 hn) v5 dX12_stateOf_118 (fun σ6 g6 => ?_)
  have hw := hw σ6 g6
  refine ml_aload_n (pc := 121) X hl 0 rfl rfl dX12_stateOf_121 ?_
  refine gf_X12_367 (pc := 122) X (ml_c215 hn) dX12_stateOf_122 (fun r7 => ?_)
  have hw := hw r7
  refine ml_iconst (pc := 125) X dX12_stateOf_125 ?_
  obtain ⟨v8, hw⟩ := hw
  refine ml_isub (pc := 126) X dX12_stateOf_126 ?_
  exact ml_iret (pc := 127) X v8 hw dX12_stateOf_127
set_option maxRecDepth 100000 in
set_option maxHeartbeats 4000000 in
theorem u_X12_stateOf_39 {p : Program} {e : Env} {s : State} {m : MethodId} {args : Array Value} {below : List Frame} {meth : Method} {c : Code} {base : Nat} {D : va_G} {cA : Nat → ClassId} {n : Nat} {l : Launch} {Q : Int → ml_St → Prop} (X : ml_X p s m c meth args D cA cX12_stateOf 5 RX12 (some .int)) (hn : 256 ≤ n) (σ : ml_St) (x1 : Int) (x2 : Int) (h_x1 : I32 x1) (h_x2 : I64 x2) (ls : Array Slot) (hl : lv_has ls 5 [(0, .ref (base + (215 : Int).toNat)), (1, .int (Int32.ofInt x1)), (2, .long (Int64.ofInt x2))]) (hw : f_X12_stateOf_u39 Q σ x1 x2) : ml_V p l e rm_X12_stateOf s m args below meth c (MQ below (ml_Qi I32 base D cA n Q) args s 0 0 (ml_A base)) base D cA 0 0 n n σ (F0 m 39 ls []) := by
  unfold f_X12_stateOf_u39 at hw
  refine ml_aload_n (pc := 39) X hl 0 rfl rfl dX12_stateOf_39 ?_
  refine gf_X12_83 (pc := 40) X (ml_c215 hn) dX12_stateOf_40 ?_
  refine ml_aload_n (pc := 43) X hl 0 rfl rfl dX12_stateOf_43 ?_
  refine gf_X12_367 (pc := 44) X (ml_c215 hn) dX12_stateOf_44 (fun r1 => ?_)
  have hw := hw r1
  refine ml_lload_n (pc := 47) X hl 2 rfl rfl dX12_stateOf_47 ?_
  obtain ⟨a2, b2, hw⟩ := hw
  refine ml_last (pc := 48) (N := 950) X (ml_c238 hn) a2 b2 h_x2 dX12_stateOf_48 (fun σ2 g2 => ?_)
  have hw := hw σ2 g2
  refine ml_iconst (pc := 49) X dX12_stateOf_49 ?_
  refine ml_istore (pc := 50) X hl (by decide) (lst' := [(4, .int (Int32.ofInt 0)), (0, .ref (base + (215 : Int).toNat)), (1, .int (Int32.ofInt x1)), (2, .long (Int64.ofInt x2))]) rfl dX12_stateOf_50 (fun ls hl => ?_)
  obtain ⟨N0, hw⟩ := hw
  exact u_X12_stateOf_52 X hn (fun σ x1 h_x1 ls hl hw => u_X12_stateOf_97 X hn σ x1 h_x1 ls hl hw) N0 σ2 x1 0 h_x1 ⟨by decide, by decide⟩ _ (lv_sub hl [1, 2, 0] rfl) hw
set_option maxRecDepth 100000 in
set_option maxHeartbeats 4000000 in
theorem u_X12_stateOf_0 {p : Program} {e : Env} {s : State} {m : MethodId} {args : Array Value} {below : List Frame} {meth : Method} {c : Code} {base : Nat} {D : va_G} {cA : Nat → ClassId} {n : Nat} {l : Launch} {Q : Int → ml_St → Prop} (X : ml_X p s m c meth args D cA cX12_stateOf 5 RX12 (some .int)) (hn : 256 ≤ n) (σ : ml_St) (x1 : Int) (h_x1 : I32 x1) (ls : Array Slot) (hl : lv_has ls 5 [(0, .ref (base + (215 : Int).toNat)), (1, .int (Int32.ofInt x1))]) (hw : f_X12_stateOf_u0 Q σ x1) : ml_V p l e rm_X12_stateOf s m args below meth c (MQ below (ml_Qi I32 base D cA n Q) args s 0 0 (ml_A base)) base D cA 0 0 n n σ (F0 m 0 ls []) := by
  unfold f_X12_stateOf_u0 at hw
  refine ml_aload_n (pc := 0) X hl 0 rfl rfl dX12_stateOf_0 ?_
  refine ml_iload_n (pc := 1) X hl 1 rfl rfl dX12_stateOf_1 ?_
  refine ml_calllV (pc := 2) (rest := []) X [.int (Int32.ofInt x1)] (by decide) rfl (ml_c215 hn) (c_X12_codeOf l base D cA n hn σ x1 h_x1 _ hw) cv_X12_310 ⟨rfl, rfl⟩ ⟨by decide, by decide⟩ rfl rfl hl (Nat.le_of_ble_eq_true rfl) ⟨Nat.zero_le _, Nat.zero_le _⟩ dX12_stateOf_2 (fun r1 σ1 t1 hw => ?_)
  have hw := hw t1
  refine ml_lstore_n (pc := 5) X rfl hl (by decide) (lst' := [(2, .long (Int64.ofInt r1)), (0, .ref (base + (215 : Int).toNat)), (1, .int (Int32.ofInt x1))]) rfl dX12_stateOf_5 (fun ls hl => ?_)
  refine ml_iconst (pc := 6) X dX12_stateOf_6 ?_
  refine ml_istore (pc := 7) X hl (by decide) (lst' := [(4, .int (Int32.ofInt 0)), (2, .long (Int64.ofInt r1)), (0, .ref (base + (215 : Int).toNat)), (1, .int (Int32.ofInt x1))]) rfl dX12_stateOf_7 (fun ls hl => ?_)
  obtain ⟨N0, hw⟩ := hw
  exact u_X12_stateOf_9 X hn (fun σ x4 h_x4 ls hl hw => u_X12_stateOf_30 X hn σ x4 h_x4 ls hl hw) (fun σ x1 x2 h_x1 h_x2 ls hl hw => u_X12_stateOf_39 X hn σ x1 x2 h_x1 h_x2 ls hl hw) N0 σ1 x1 r1 0 h_x1 t1 ⟨by decide, by decide⟩ _ (lv_sub hl [2, 3, 1, 0] rfl) hw
set_option maxRecDepth 100000 in
theorem c_X12_stateOf (l : Launch) (base : Nat) (D : va_G) (cA : Nat → ClassId) (n : Nat) (hn : 256 ≤ n) (σ : ml_St) (x1 : Int) (h_x1 : I32 x1) (Q : Int → ml_St → Prop) (hw : f_X12_stateOf σ x1 Q) : Met l yX12_stateOf (Cond.code yX12_stateOf cX12_stateOf 5 (some .int) :: ml_T) rm_X12_stateOf (va_Pc [.ref (base + (215 : Int).toNat), .int (Int32.ofInt x1)] (ml_U base D cA n σ)) (ml_Qi I32 base D cA n Q) 0 0 (ml_A base) := by
  refine Met.ofW (cc := cX12_stateOf) (maxL := 5) (ret := (some .int)) (by decide) rfl ?_
  intro p e s m args below meth c s₁ B hml hv
  obtain ⟨rfl, hP, hK, hok, hro⟩ := hv
  have X : ml_X p s m c meth _ D cA cX12_stateOf 5 RX12 (some .int) := ⟨B.exec, B.bytes, hml, findClass_of_methodNamed B.named, fun w hw => atoms_spec (ws := Cond.code yX12_stateOf cX12_stateOf 5 (some .int) :: ml_T) B.pre w (List.mem_cons_of_mem _ hw), hK, B.notSynchronized, B.returns⟩
  have hl := lv_entry [.ref (base + (215 : Int).toNat), .int (Int32.ofInt x1)] (n := 5) (Nat.le_of_ble_eq_true rfl)
  rw [lg_entry_eq]
  generalize (lg_sl [.ref (base + (215 : Int).toNat), .int (Int32.ofInt x1)] ++ List.replicate (5 - (lg_sl [.ref (base + (215 : Int).toNat), .int (Int32.ofInt x1)]).length) Slot.unset).toArray = ls at hl ⊢
  have hl : lv_has ls 5 [(0, .ref (base + (215 : Int).toNat)), (1, .int (Int32.ofInt x1))] := hl
  unfold f_X12_stateOf at hw
  exact u_X12_stateOf_0 X hn σ x1 h_x1 _ (lv_sub hl [0, 1] rfl) hw s.heap [] hP va_S.rf hok hro
theorem dX12_joinsAll_0 : decode cX12_joinsAll 0 = .ok (.aload_n 0, 1) := by decide +kernel
theorem dX12_joinsAll_1 : decode cX12_joinsAll 1 = .ok (.iconst 0, 1) := by decide +kernel
theorem dX12_joinsAll_2 : decode cX12_joinsAll 2 = .ok (.putfield 367, 3) := by decide +kernel
theorem dX12_joinsAll_5 : decode cX12_joinsAll 5 = .ok (.iconst 0, 1) := by decide +kernel
theorem dX12_joinsAll_6 : decode cX12_joinsAll 6 = .ok (.istore_n 1, 1) := by decide +kernel
theorem dX12_joinsAll_7 : decode cX12_joinsAll 7 = .ok (.iload_n 1, 1) := by decide +kernel
theorem dX12_joinsAll_8 : decode cX12_joinsAll 8 = .ok (.aload_n 0, 1) := by decide +kernel
theorem dX12_joinsAll_9 : decode cX12_joinsAll 9 = .ok (.getfield 364, 3) := by decide +kernel
theorem dX12_joinsAll_12 : decode cX12_joinsAll 12 = .ok (.if_icmp .ge 25, 3) := by decide +kernel
theorem dX12_joinsAll_15 : decode cX12_joinsAll 15 = .ok (.aload_n 0, 1) := by decide +kernel
theorem dX12_joinsAll_16 : decode cX12_joinsAll 16 = .ok (.getfield 95, 3) := by decide +kernel
theorem dX12_joinsAll_19 : decode cX12_joinsAll 19 = .ok (.iload_n 1, 1) := by decide +kernel
theorem dX12_joinsAll_20 : decode cX12_joinsAll 20 = .ok (.aload_n 0, 1) := by decide +kernel
theorem dX12_joinsAll_21 : decode cX12_joinsAll 21 = .ok (.aload_n 0, 1) := by decide +kernel
theorem dX12_joinsAll_22 : decode cX12_joinsAll 22 = .ok (.getfield 80, 3) := by decide +kernel
theorem dX12_joinsAll_25 : decode cX12_joinsAll 25 = .ok (.iload_n 1, 1) := by decide +kernel
theorem dX12_joinsAll_26 : decode cX12_joinsAll 26 = .ok (.iaload, 1) := by decide +kernel
theorem dX12_joinsAll_27 : decode cX12_joinsAll 27 = .ok (.invokevirtual 372, 3) := by decide +kernel
theorem dX12_joinsAll_30 : decode cX12_joinsAll 30 = .ok (.iastore, 1) := by decide +kernel
theorem dX12_joinsAll_31 : decode cX12_joinsAll 31 = .ok (.iinc 1 1, 3) := by decide +kernel
theorem dX12_joinsAll_34 : decode cX12_joinsAll 34 = .ok (.goto (-27), 3) := by decide +kernel
theorem dX12_joinsAll_37 : decode cX12_joinsAll 37 = .ok (.iconst 0, 1) := by decide +kernel
theorem dX12_joinsAll_38 : decode cX12_joinsAll 38 = .ok (.istore_n 1, 1) := by decide +kernel
theorem dX12_joinsAll_39 : decode cX12_joinsAll 39 = .ok (.iload_n 1, 1) := by decide +kernel
theorem dX12_joinsAll_40 : decode cX12_joinsAll 40 = .ok (.aload_n 0, 1) := by decide +kernel
theorem dX12_joinsAll_41 : decode cX12_joinsAll 41 = .ok (.getfield 367, 3) := by decide +kernel
theorem dX12_joinsAll_44 : decode cX12_joinsAll 44 = .ok (.if_icmp .ge 122, 3) := by decide +kernel
theorem dX12_joinsAll_47 : decode cX12_joinsAll 47 = .ok (.iconst 0, 1) := by decide +kernel
theorem dX12_joinsAll_48 : decode cX12_joinsAll 48 = .ok (.istore_n 2, 1) := by decide +kernel
theorem dX12_joinsAll_49 : decode cX12_joinsAll 49 = .ok (.iload_n 2, 1) := by decide +kernel
theorem dX12_joinsAll_50 : decode cX12_joinsAll 50 = .ok (.aload_n 0, 1) := by decide +kernel
theorem dX12_joinsAll_51 : decode cX12_joinsAll 51 = .ok (.getfield 364, 3) := by decide +kernel
theorem dX12_joinsAll_54 : decode cX12_joinsAll 54 = .ok (.if_icmp .ge 106, 3) := by decide +kernel
theorem dX12_joinsAll_57 : decode cX12_joinsAll 57 = .ok (.aload_n 0, 1) := by decide +kernel
theorem dX12_joinsAll_58 : decode cX12_joinsAll 58 = .ok (.bipush 61, 2) := by decide +kernel
theorem dX12_joinsAll_60 : decode cX12_joinsAll 60 = .ok (.invokevirtual 227, 3) := by decide +kernel
theorem dX12_joinsAll_63 : decode cX12_joinsAll 63 = .ok (.iconst 0, 1) := by decide +kernel
theorem dX12_joinsAll_64 : decode cX12_joinsAll 64 = .ok (.istore_n 3, 1) := by decide +kernel
theorem dX12_joinsAll_65 : decode cX12_joinsAll 65 = .ok (.iload_n 3, 1) := by decide +kernel
theorem dX12_joinsAll_66 : decode cX12_joinsAll 66 = .ok (.iconst 2, 1) := by decide +kernel
theorem dX12_joinsAll_67 : decode cX12_joinsAll 67 = .ok (.aload_n 0, 1) := by decide +kernel
theorem dX12_joinsAll_68 : decode cX12_joinsAll 68 = .ok (.getfield 13, 3) := by decide +kernel
theorem dX12_joinsAll_71 : decode cX12_joinsAll 71 = .ok (.imul, 1) := by decide +kernel
theorem dX12_joinsAll_72 : decode cX12_joinsAll 72 = .ok (.if_icmp .ge 30, 3) := by decide +kernel
theorem dX12_joinsAll_75 : decode cX12_joinsAll 75 = .ok (.aload_n 0, 1) := by decide +kernel
theorem dX12_joinsAll_76 : decode cX12_joinsAll 76 = .ok (.getfield 49, 3) := by decide +kernel
theorem dX12_joinsAll_79 : decode cX12_joinsAll 79 = .ok (.sipush 610, 3) := by decide +kernel
theorem dX12_joinsAll_82 : decode cX12_joinsAll 82 = .ok (.iload_n 3, 1) := by decide +kernel
theorem dX12_joinsAll_83 : decode cX12_joinsAll 83 = .ok (.iadd, 1) := by decide +kernel
theorem dX12_joinsAll_84 : decode cX12_joinsAll 84 = .ok (.aload_n 0, 1) := by decide +kernel
theorem dX12_joinsAll_85 : decode cX12_joinsAll 85 = .ok (.getfield 86, 3) := by decide +kernel
theorem dX12_joinsAll_88 : decode cX12_joinsAll 88 = .ok (.bipush 10, 2) := by decide +kernel
theorem dX12_joinsAll_90 : decode cX12_joinsAll 90 = .ok (.iload_n 1, 1) := by decide +kernel
theorem dX12_joinsAll_91 : decode cX12_joinsAll 91 = .ok (.imul, 1) := by decide +kernel
theorem dX12_joinsAll_92 : decode cX12_joinsAll 92 = .ok (.iload_n 3, 1) := by decide +kernel
theorem dX12_joinsAll_93 : decode cX12_joinsAll 93 = .ok (.iadd, 1) := by decide +kernel
theorem dX12_joinsAll_94 : decode cX12_joinsAll 94 = .ok (.baload, 1) := by decide +kernel
theorem dX12_joinsAll_95 : decode cX12_joinsAll 95 = .ok (.iastore, 1) := by decide +kernel
theorem dX12_joinsAll_96 : decode cX12_joinsAll 96 = .ok (.iinc 3 1, 3) := by decide +kernel
theorem dX12_joinsAll_99 : decode cX12_joinsAll 99 = .ok (.goto (-34), 3) := by decide +kernel
theorem dX12_joinsAll_102 : decode cX12_joinsAll 102 = .ok (.aload_n 0, 1) := by decide +kernel
theorem dX12_joinsAll_103 : decode cX12_joinsAll 103 = .ok (.bipush 61, 2) := by decide +kernel
theorem dX12_joinsAll_105 : decode cX12_joinsAll 105 = .ok (.aload_n 0, 1) := by decide +kernel
theorem dX12_joinsAll_106 : decode cX12_joinsAll 106 = .ok (.getfield 80, 3) := by decide +kernel
theorem dX12_joinsAll_109 : decode cX12_joinsAll 109 = .ok (.iload_n 2, 1) := by decide +kernel
theorem dX12_joinsAll_110 : decode cX12_joinsAll 110 = .ok (.iaload, 1) := by decide +kernel
theorem dX12_joinsAll_111 : decode cX12_joinsAll 111 = .ok (.bipush 62, 2) := by decide +kernel
theorem dX12_joinsAll_113 : decode cX12_joinsAll 113 = .ok (.invokevirtual 245, 3) := by decide +kernel
theorem dX12_joinsAll_116 : decode cX12_joinsAll 116 = .ok (.aload_n 0, 1) := by decide +kernel
theorem dX12_joinsAll_117 : decode cX12_joinsAll 117 = .ok (.getfield 89, 3) := by decide +kernel
theorem dX12_joinsAll_120 : decode cX12_joinsAll 120 = .ok (.bipush 6, 2) := by decide +kernel
theorem dX12_joinsAll_122 : decode cX12_joinsAll 122 = .ok (.iload_n 1, 1) := by decide +kernel
theorem dX12_joinsAll_123 : decode cX12_joinsAll 123 = .ok (.imul, 1) := by decide +kernel
theorem dX12_joinsAll_124 : decode cX12_joinsAll 124 = .ok (.iload_n 2, 1) := by decide +kernel
theorem dX12_joinsAll_125 : decode cX12_joinsAll 125 = .ok (.iadd, 1) := by decide +kernel
theorem dX12_joinsAll_126 : decode cX12_joinsAll 126 = .ok (.aload_n 0, 1) := by decide +kernel
theorem dX12_joinsAll_127 : decode cX12_joinsAll 127 = .ok (.bipush 62, 2) := by decide +kernel
theorem dX12_joinsAll_129 : decode cX12_joinsAll 129 = .ok (.invokevirtual 372, 3) := by decide +kernel
theorem dX12_joinsAll_132 : decode cX12_joinsAll 132 = .ok (.iastore, 1) := by decide +kernel
theorem dX12_joinsAll_133 : decode cX12_joinsAll 133 = .ok (.aload_n 0, 1) := by decide +kernel
theorem dX12_joinsAll_134 : decode cX12_joinsAll 134 = .ok (.getfield 92, 3) := by decide +kernel
theorem dX12_joinsAll_137 : decode cX12_joinsAll 137 = .ok (.bipush 6, 2) := by decide +kernel
theorem dX12_joinsAll_139 : decode cX12_joinsAll 139 = .ok (.iload_n 1, 1) := by decide +kernel
theorem dX12_joinsAll_140 : decode cX12_joinsAll 140 = .ok (.imul, 1) := by decide +kernel
theorem dX12_joinsAll_141 : decode cX12_joinsAll 141 = .ok (.iload_n 2, 1) := by decide +kernel
theorem dX12_joinsAll_142 : decode cX12_joinsAll 142 = .ok (.iadd, 1) := by decide +kernel
theorem dX12_joinsAll_143 : decode cX12_joinsAll 143 = .ok (.aload_n 0, 1) := by decide +kernel
theorem dX12_joinsAll_144 : decode cX12_joinsAll 144 = .ok (.getfield 55, 3) := by decide +kernel
theorem dX12_joinsAll_147 : decode cX12_joinsAll 147 = .ok (.bipush 62, 2) := by decide +kernel
theorem dX12_joinsAll_149 : decode cX12_joinsAll 149 = .ok (.laload, 1) := by decide +kernel
theorem dX12_joinsAll_150 : decode cX12_joinsAll 150 = .ok (.invokestatic 375, 3) := by decide +kernel
theorem dX12_joinsAll_153 : decode cX12_joinsAll 153 = .ok (.iastore, 1) := by decide +kernel
theorem dX12_joinsAll_154 : decode cX12_joinsAll 154 = .ok (.iinc 2 1, 3) := by decide +kernel
theorem dX12_joinsAll_157 : decode cX12_joinsAll 157 = .ok (.goto (-108), 3) := by decide +kernel
theorem dX12_joinsAll_160 : decode cX12_joinsAll 160 = .ok (.iinc 1 1, 3) := by decide +kernel
theorem dX12_joinsAll_163 : decode cX12_joinsAll 163 = .ok (.goto (-124), 3) := by decide +kernel
theorem dX12_joinsAll_166 : decode cX12_joinsAll 166 = .ok (.return_, 1) := by decide +kernel
def f_X12_joinsAll_u7 (Q : ml_St → Prop) (K37 : ml_St → Prop) : Nat → ml_St → Int → Prop
| 0, _, _ => False
| N + 1, σ, x1 =>
∀ _ : I32 (σ 215 38),
((σ 215 38) ≤ x1 →
K37 σ) ∧
(¬ ((σ 215 38) ≤ x1) →
(0 : Int) ≤ x1 ∧ (x1 : Int) < 6 ∧
∀ _ : I32 (σ 237 x1),
f_X12_stateOf σ (σ 237 x1) (fun r4 σ4 => ∀ _ : I32 r4,
(0 : Int) ≤ x1 ∧ (x1 : Int) < 6 ∧
∀ σ5, σ5 = ml_up σ4 242 x1 r4 →
I32 (x1 + 1) ∧
∀ y6 : Int, y6 = x1 + 1 →
f_X12_joinsAll_u7 Q K37 N σ5 y6))
def f_X12_joinsAll_u65 (Q : ml_St → Prop) (K102 : ml_St → Int → Int → Prop) : Nat → ml_St → Int → Int → Int → Prop
| 0, _, _, _, _ => False
| N + 1, σ, x1, x2, x3 =>
∀ _ : I32 (σ 215 2),
I32 (2 * (σ 215 2)) ∧
((2 * (σ 215 2)) ≤ x3 →
K102 σ x1 x2) ∧
(¬ ((2 * (σ 215 2)) ≤ x3) →
I32 (610 + x3) ∧
I32 (10 * x1) ∧
I32 ((10 * x1) + x3) ∧
(0 : Int) ≤ ((10 * x1) + x3) ∧ (((10 * x1) + x3) : Int) < 9500 ∧
∀ _ : ml_I8 (σ 239 ((10 * x1) + x3)),
(0 : Int) ≤ (610 + x3) ∧ ((610 + x3) : Int) < 640 ∧
∀ σ8, σ8 = ml_up σ 227 (610 + x3) (σ 239 ((10 * x1) + x3)) →
I32 (x3 + 1) ∧
∀ y9 : Int, y9 = x3 + 1 →
f_X12_joinsAll_u65 Q K102 N σ8 x1 x2 y9)
def f_X12_joinsAll_u102 (Q : ml_St → Prop) (K49 : ml_St → Int → Int → Prop) (σ : ml_St) (x1 : Int) (x2 : Int) : Prop :=
(0 : Int) ≤ x2 ∧ (x2 : Int) < 6 ∧
∀ _ : I32 (σ 237 x2),
f_X12_lays σ 61 (σ 237 x2) 62 (fun σ2 =>
I32 (6 * x1) ∧
I32 ((6 * x1) + x2) ∧
f_X12_stateOf σ2 62 (fun r5 σ5 => ∀ _ : I32 r5,
(0 : Int) ≤ ((6 * x1) + x2) ∧ (((6 * x1) + x2) : Int) < 5700 ∧
∀ σ6, σ6 = ml_up σ5 240 ((6 * x1) + x2) r5 →
I32 (6 * x1) ∧
I32 ((6 * x1) + x2) ∧
(0 : Int) ≤ 62 ∧ (62 : Int) < 64 ∧
∀ _ : I64 (σ6 229 62),
f_X12_few σ6 (σ6 229 62) (fun r10 σ10 => ∀ _ : I32 r10,
(0 : Int) ≤ ((6 * x1) + x2) ∧ (((6 * x1) + x2) : Int) < 5700 ∧
∀ σ11, σ11 = ml_up σ10 241 ((6 * x1) + x2) r10 →
I32 (x2 + 1) ∧
∀ y12 : Int, y12 = x2 + 1 →
K49 σ11 x1 y12)))
def f_X12_joinsAll_u49 (Q : ml_St → Prop) (K160 : ml_St → Int → Prop) : Nat → ml_St → Int → Int → Prop
| 0, _, _, _ => False
| N + 1, σ, x1, x2 =>
∀ _ : I32 (σ 215 38),
((σ 215 38) ≤ x2 →
K160 σ x1) ∧
(¬ ((σ 215 38) ≤ x2) →
f_X12_straight σ 61 (fun σ3 =>
∃ N1, f_X12_joinsAll_u65 Q (f_X12_joinsAll_u102 Q (f_X12_joinsAll_u49 Q K160 N)) N1 σ3 x1 x2 0))
def f_X12_joinsAll_u160 (Q : ml_St → Prop) (K39 : ml_St → Int → Prop) (σ : ml_St) (x1 : Int) : Prop :=
I32 (x1 + 1) ∧
∀ y1 : Int, y1 = x1 + 1 →
K39 σ y1
def f_X12_joinsAll_u39 (Q : ml_St → Prop) (K166 : ml_St → Prop) : Nat → ml_St → Int → Prop
| 0, _, _ => False
| N + 1, σ, x1 =>
∀ _ : I32 (σ 215 39),
((σ 215 39) ≤ x1 →
K166 σ) ∧
(¬ ((σ 215 39) ≤ x1) →
∃ N1, f_X12_joinsAll_u49 Q (f_X12_joinsAll_u160 Q (f_X12_joinsAll_u39 Q K166 N)) N1 σ x1 0)
def f_X12_joinsAll_u166 (Q : ml_St → Prop) (σ : ml_St) : Prop :=
Q σ
def f_X12_joinsAll_u37 (Q : ml_St → Prop) (σ : ml_St) : Prop :=
∃ N1, f_X12_joinsAll_u39 Q (f_X12_joinsAll_u166 Q) N1 σ 0
def f_X12_joinsAll_u0 (Q : ml_St → Prop) (σ : ml_St) : Prop :=
∀ σ1, σ1 = ml_up σ 215 39 0 →
∃ N1, f_X12_joinsAll_u7 Q (f_X12_joinsAll_u37 Q) N1 σ1 0
def f_X12_joinsAll (σ : ml_St) (Q : ml_St → Prop) : Prop := f_X12_joinsAll_u0 Q σ
def rm_X12_joinsAll : Room := { frames := 3, cells := 0, slots := 0, locals := 69 }
set_option maxRecDepth 100000 in
set_option maxHeartbeats 4000000 in
theorem u_X12_joinsAll_7 {p : Program} {e : Env} {s : State} {m : MethodId} {args : Array Value} {below : List Frame} {meth : Method} {c : Code} {base : Nat} {D : va_G} {cA : Nat → ClassId} {n : Nat} {l : Launch} {Q : ml_St → Prop} {K37 : ml_St → Prop} (X : ml_X p s m c meth args D cA cX12_joinsAll 4 RX12 none) (hn : 256 ≤ n) (hK37 : ∀ (σ : ml_St) (ls : Array Slot), lv_has ls 4 [(0, .ref (base + (215 : Int).toNat))] → K37 σ → ml_V p l e rm_X12_joinsAll s m args below meth c (MQ below (ml_Qv base D cA n Q) args s 0 0 (ml_A base)) base D cA 0 0 n n σ (F0 m 37 ls [])) : ∀ (N : Nat) (σ : ml_St) (x1 : Int) (h_x1 : I32 x1) (ls : Array Slot), lv_has ls 4 [(0, .ref (base + (215 : Int).toNat)), (1, .int (Int32.ofInt x1))] → f_X12_joinsAll_u7 Q K37 N σ x1 → ml_V p l e rm_X12_joinsAll s m args below meth c (MQ below (ml_Qv base D cA n Q) args s 0 0 (ml_A base)) base D cA 0 0 n n σ (F0 m 7 ls []) := by
  intro N
  induction N with
  | zero => intro σ x1 h_x1 ls hl hw; exact False.elim hw
  | succ N ih =>
    intro σ x1 h_x1 ls hl hw
    unfold f_X12_joinsAll_u7 at hw
    refine ml_iload_n (pc := 7) X hl 1 rfl rfl dX12_joinsAll_7 ?_
    refine ml_aload_n (pc := 8) X hl 0 rfl rfl dX12_joinsAll_8 ?_
    refine gf_X12_364 (pc := 9) X (ml_c215 hn) dX12_joinsAll_9 (fun r1 => ?_)
    have hw := hw r1
    refine ml_icmp_ge (pc := 12) (tgt := 37) X h_x1 r1 dX12_joinsAll_12 (by decide) (fun c2 => ?_) (fun c2 => ?_)
    · have hw := hw.1 c2
      exact hK37 σ   _ (lv_sub hl [0] rfl) hw
    · have hw := hw.2 c2
      refine ml_aload_n (pc := 15) X hl 0 rfl rfl dX12_joinsAll_15 ?_
      refine gf_X12_95 (pc := 16) X (ml_c215 hn) dX12_joinsAll_16 ?_
      refine ml_iload_n (pc := 19) X hl 1 rfl rfl dX12_joinsAll_19 ?_
      refine ml_aload_n (pc := 20) X hl 0 rfl rfl dX12_joinsAll_20 ?_
      refine ml_aload_n (pc := 21) X hl 0 rfl rfl dX12_joinsAll_21 ?_
      refine gf_X12_80 (pc := 22) X (ml_c215 hn) dX12_joinsAll_22 ?_
      refine ml_iload_n (pc := 25) X hl 1 rfl rfl dX12_joinsAll_25 ?_
      obtain ⟨a3, b3, hw⟩ := hw
      refine ml_iald (pc := 26) (N := 6) X (ml_c237 hn) a3 b3 dX12_joinsAll_26 (fun r3 => ?_)
      have hw := hw r3
      refine ml_calliV (pc := 27) (rest := [.int (Int32.ofInt x1), .ref (base + (242 : Int).toNat)]) X [.int (Int32.ofInt (σ 237 x1))] (by decide) rfl (ml_c215 hn) (c_X12_stateOf l base D cA n hn σ (σ 237 x1) r3 _ hw) cv_X12_372 ⟨rfl, rfl⟩ ⟨by decide, by decide⟩ rfl rfl hl (Nat.le_of_ble_eq_true rfl) ⟨Nat.zero_le _, Nat.zero_le _⟩ dX12_joinsAll_27 (fun r4 σ4 t4 hw => ?_)
      have hw := hw t4
      obtain ⟨a5, b5, hw⟩ := hw
      refine ml_iast (pc := 30) (N := 6) X (ml_c242 hn) a5 b5 t4 dX12_joinsAll_30 (fun σ5 g5 => ?_)
      have hw := hw σ5 g5
      obtain ⟨v6, hw⟩ := hw
      obtain ⟨y6, e6⟩ : ∃ y : Int, y = x1 + 1 := ⟨_, rfl⟩
      have hw := hw y6 e6
      rw [← e6] at v6
      refine ml_iinc (pc := 31) X e6 hl 1 rfl (by decide) (lst' := [(1, .int (Int32.ofInt y6)), (0, .ref (base + (215 : Int).toNat))]) rfl dX12_joinsAll_31 (fun ls hl => ?_)
      refine ml_goto (pc := 34) (tgt := 7) X dX12_joinsAll_34 (by decide) ?_
      exact ih σ5 y6 v6 _ (lv_sub hl [1, 0] rfl) hw
set_option maxRecDepth 100000 in
set_option maxHeartbeats 4000000 in
theorem u_X12_joinsAll_65 {p : Program} {e : Env} {s : State} {m : MethodId} {args : Array Value} {below : List Frame} {meth : Method} {c : Code} {base : Nat} {D : va_G} {cA : Nat → ClassId} {n : Nat} {l : Launch} {Q : ml_St → Prop} {K102 : ml_St → Int → Int → Prop} (X : ml_X p s m c meth args D cA cX12_joinsAll 4 RX12 none) (hn : 256 ≤ n) (hK102 : ∀ (σ : ml_St) (x1 : Int) (x2 : Int) (h_x1 : I32 x1) (h_x2 : I32 x2) (ls : Array Slot), lv_has ls 4 [(0, .ref (base + (215 : Int).toNat)), (1, .int (Int32.ofInt x1)), (2, .int (Int32.ofInt x2))] → K102 σ x1 x2 → ml_V p l e rm_X12_joinsAll s m args below meth c (MQ below (ml_Qv base D cA n Q) args s 0 0 (ml_A base)) base D cA 0 0 n n σ (F0 m 102 ls [])) : ∀ (N : Nat) (σ : ml_St) (x1 : Int) (x2 : Int) (x3 : Int) (h_x1 : I32 x1) (h_x2 : I32 x2) (h_x3 : I32 x3) (ls : Array Slot), lv_has ls 4 [(0, .ref (base + (215 : Int).toNat)), (1, .int (Int32.ofInt x1)), (2, .int (Int32.ofInt x2)), (3, .int (Int32.ofInt x3))] → f_X12_joinsAll_u65 Q K102 N σ x1 x2 x3 → ml_V p l e rm_X12_joinsAll s m args below meth c (MQ below (ml_Qv base D cA n Q) args s 0 0 (ml_A base)) base D cA 0 0 n n σ (F0 m 65 ls []) := by
  intro N
  induction N with
  | zero => intro σ x1 x2 x3 h_x1 h_x2 h_x3 ls hl hw; exact False.elim hw
  | succ N ih =>
    intro σ x1 x2 x3 h_x1 h_x2 h_x3 ls hl hw
    unfold f_X12_joinsAll_u65 at hw
    refine ml_iload_n (pc := 65) X hl 3 rfl rfl dX12_joinsAll_65 ?_
    refine ml_iconst (pc := 66) X dX12_joinsAll_66 ?_
    refine ml_aload_n (pc := 67) X hl 0 rfl rfl dX12_joinsAll_67 ?_
    refine gf_X12_13 (pc := 68) X (ml_c215 hn) dX12_joinsAll_68 (fun r1 => ?_)
    have hw := hw r1
    obtain ⟨v2, hw⟩ := hw
    refine ml_imul (pc := 71) X dX12_joinsAll_71 ?_
    refine ml_icmp_ge (pc := 72) (tgt := 102) X h_x3 v2 dX12_joinsAll_72 (by decide) (fun c3 => ?_) (fun c3 => ?_)
    · have hw := hw.1 c3
      exact hK102 σ x1 x2 h_x1 h_x2 _ (lv_sub hl [0, 1, 2] rfl) hw
    · have hw := hw.2 c3
      refine ml_aload_n (pc := 75) X hl 0 rfl rfl dX12_joinsAll_75 ?_
      refine gf_X12_49 (pc := 76) X (ml_c215 hn) dX12_joinsAll_76 ?_
      refine ml_sipush (pc := 79) X dX12_joinsAll_79 (by decide) ?_
      refine ml_iload_n (pc := 82) X hl 3 rfl rfl dX12_joinsAll_82 ?_
      obtain ⟨v4, hw⟩ := hw
      refine ml_iadd (pc := 83) X dX12_joinsAll_83 ?_
      refine ml_aload_n (pc := 84) X hl 0 rfl rfl dX12_joinsAll_84 ?_
      refine gf_X12_86 (pc := 85) X (ml_c215 hn) dX12_joinsAll_85 ?_
      refine ml_bipush (pc := 88) X dX12_joinsAll_88 (by decide) ?_
      refine ml_iload_n (pc := 90) X hl 1 rfl rfl dX12_joinsAll_90 ?_
      obtain ⟨v5, hw⟩ := hw
      refine ml_imul (pc := 91) X dX12_joinsAll_91 ?_
      refine ml_iload_n (pc := 92) X hl 3 rfl rfl dX12_joinsAll_92 ?_
      obtain ⟨v6, hw⟩ := hw
      refine ml_iadd (pc := 93) X dX12_joinsAll_93 ?_
      obtain ⟨a7, b7, hw⟩ := hw
      refine ml_bald (pc := 94) (N := 9500) X (ml_c239 hn) a7 b7 dX12_joinsAll_94 (fun r7 => ?_)
      have hw := hw r7
      obtain ⟨a8, b8, hw⟩ := hw
      refine ml_iast (pc := 95) (N := 640) X (ml_c227 hn) a8 b8 r7.i dX12_joinsAll_95 (fun σ8 g8 => ?_)
      have hw := hw σ8 g8
      obtain ⟨v9, hw⟩ := hw
      obtain ⟨y9, e9⟩ : ∃ y : Int, y = x3 + 1 := ⟨_, rfl⟩
      have hw := hw y9 e9
      rw [← e9] at v9
      refine ml_iinc (pc := 96) X e9 hl 3 rfl (by decide) (lst' := [(3, .int (Int32.ofInt y9)), (0, .ref (base + (215 : Int).toNat)), (1, .int (Int32.ofInt x1)), (2, .int (Int32.ofInt x2))]) rfl dX12_joinsAll_96 (fun ls hl => ?_)
      refine ml_goto (pc := 99) (tgt := 65) X dX12_joinsAll_99 (by decide) ?_
      exact ih σ8 x1 x2 y9 h_x1 h_x2 v9 _ (lv_sub hl [1, 2, 3, 0] rfl) hw
set_option maxRecDepth 100000 in
set_option maxHeartbeats 4000000 in
theorem u_X12_joinsAll_102 {p : Program} {e : Env} {s : State} {m : MethodId} {args : Array Value} {below : List Frame} {meth : Method} {c : Code} {base : Nat} {D : va_G} {cA : Nat → ClassId} {n : Nat} {l : Launch} {Q : ml_St → Prop} {K49 : ml_St → Int → Int → Prop} (X : ml_X p s m c meth args D cA cX12_joinsAll 4 RX12 none) (hn : 256 ≤ n) (hK49 : ∀ (σ : ml_St) (x1 : Int) (x2 : Int) (h_x1 : I32 x1) (h_x2 : I32 x2) (ls : Array Slot), lv_has ls 4 [(0, .ref (base + (215 : Int).toNat)), (1, .int (Int32.ofInt x1)), (2, .int (Int32.ofInt x2))] → K49 σ x1 x2 → ml_V p l e rm_X12_joinsAll s m args below meth c (MQ below (ml_Qv base D cA n Q) args s 0 0 (ml_A base)) base D cA 0 0 n n σ (F0 m 49 ls [])) (σ : ml_St) (x1 : Int) (x2 : Int) (h_x1 : I32 x1) (h_x2 : I32 x2) (ls : Array Slot) (hl : lv_has ls 4 [(0, .ref (base + (215 : Int).toNat)), (1, .int (Int32.ofInt x1)), (2, .int (Int32.ofInt x2))]) (hw : f_X12_joinsAll_u102 Q K49 σ x1 x2) : ml_V p l e rm_X12_joinsAll s m args below meth c (MQ below (ml_Qv base D cA n Q) args s 0 0 (ml_A base)) base D cA 0 0 n n σ (F0 m 102 ls []) := by
  unfold f_X12_joinsAll_u102 at hw
  refine ml_aload_n (pc := 102) X hl 0 rfl rfl dX12_joinsAll_102 ?_
  refine ml_bipush (pc := 103) X dX12_joinsAll_103 (by decide) ?_
  refine ml_aload_n (pc := 105) X hl 0 rfl rfl dX12_joinsAll_105 ?_
  refine gf_X12_80 (pc := 106) X (ml_c215 hn) dX12_joinsAll_106 ?_
  refine ml_iload_n (pc := 109) X hl 2 rfl rfl dX12_joinsAll_109 ?_
  obtain ⟨a1, b1, hw⟩ := hw
  refine ml_iald (pc := 110) (N := 6) X (ml_c237 hn) a1 b1 dX12_joinsAll_110 (fun r1 => ?_)
  have hw := hw r1
  refine ml_bipush (pc := 111) X dX12_joinsAll_111 (by decide) ?_
  refine ml_callvV (pc := 113) (rest := []) X [.int (Int32.ofInt 61), .int (Int32.ofInt (σ 237 x2)), .int (Int32.ofInt 62)] (by decide) rfl (ml_c215 hn) (c_X12_lays l base D cA n hn σ 61 (σ 237 x2) 62 ⟨by decide, by decide⟩ r1 ⟨by decide, by decide⟩ _ hw) cv_X12_245 ⟨rfl, rfl⟩ ⟨by decide, by decide⟩ rfl rfl hl (Nat.le_of_ble_eq_true rfl) ⟨Nat.zero_le _, Nat.zero_le _⟩ dX12_joinsAll_113 (fun σ2 hw => ?_)
  refine ml_aload_n (pc := 116) X hl 0 rfl rfl dX12_joinsAll_116 ?_
  refine gf_X12_89 (pc := 117) X (ml_c215 hn) dX12_joinsAll_117 ?_
  refine ml_bipush (pc := 120) X dX12_joinsAll_120 (by decide) ?_
  refine ml_iload_n (pc := 122) X hl 1 rfl rfl dX12_joinsAll_122 ?_
  obtain ⟨v3, hw⟩ := hw
  refine ml_imul (pc := 123) X dX12_joinsAll_123 ?_
  refine ml_iload_n (pc := 124) X hl 2 rfl rfl dX12_joinsAll_124 ?_
  obtain ⟨v4, hw⟩ := hw
  refine ml_iadd (pc := 125) X dX12_joinsAll_125 ?_
  refine ml_aload_n (pc := 126) X hl 0 rfl rfl dX12_joinsAll_126 ?_
  refine ml_bipush (pc := 127) X dX12_joinsAll_127 (by decide) ?_
  refine ml_calliV (pc := 129) (rest := [.int (Int32.ofInt ((6 * x1) + x2)), .ref (base + (240 : Int).toNat)]) X [.int (Int32.ofInt 62)] (by decide) rfl (ml_c215 hn) (c_X12_stateOf l base D cA n hn σ2 62 ⟨by decide, by decide⟩ _ hw) cv_X12_372 ⟨rfl, rfl⟩ ⟨by decide, by decide⟩ rfl rfl hl (Nat.le_of_ble_eq_true rfl) ⟨Nat.zero_le _, Nat.zero_le _⟩ dX12_joinsAll_129 (fun r5 σ5 t5 hw => ?_)
  have hw := hw t5
  obtain ⟨a6, b6, hw⟩ := hw
  refine ml_iast (pc := 132) (N := 5700) X (ml_c240 hn) a6 b6 t5 dX12_joinsAll_132 (fun σ6 g6 => ?_)
  have hw := hw σ6 g6
  refine ml_aload_n (pc := 133) X hl 0 rfl rfl dX12_joinsAll_133 ?_
  refine gf_X12_92 (pc := 134) X (ml_c215 hn) dX12_joinsAll_134 ?_
  refine ml_bipush (pc := 137) X dX12_joinsAll_137 (by decide) ?_
  refine ml_iload_n (pc := 139) X hl 1 rfl rfl dX12_joinsAll_139 ?_
  obtain ⟨v7, hw⟩ := hw
  refine ml_imul (pc := 140) X dX12_joinsAll_140 ?_
  refine ml_iload_n (pc := 141) X hl 2 rfl rfl dX12_joinsAll_141 ?_
  obtain ⟨v8, hw⟩ := hw
  refine ml_iadd (pc := 142) X dX12_joinsAll_142 ?_
  refine ml_aload_n (pc := 143) X hl 0 rfl rfl dX12_joinsAll_143 ?_
  refine gf_X12_55 (pc := 144) X (ml_c215 hn) dX12_joinsAll_144 ?_
  refine ml_bipush (pc := 147) X dX12_joinsAll_147 (by decide) ?_
  obtain ⟨a9, b9, hw⟩ := hw
  refine ml_lald (pc := 149) (N := 64) X (ml_c229 hn) a9 b9 dX12_joinsAll_149 (fun r9 => ?_)
  have hw := hw r9
  refine ml_calliS (pc := 150) (rest := [.int (Int32.ofInt ((6 * x1) + x2)), .ref (base + (241 : Int).toNat)]) X [.long (Int64.ofInt (σ6 229 62))] (c_X12_few l base D cA n hn σ6 (σ6 229 62) r9 _ hw) cv_X12_375 ⟨rfl, rfl⟩ ⟨by decide, by decide⟩ rfl rfl hl (Nat.le_of_ble_eq_true rfl) ⟨Nat.zero_le _, Nat.zero_le _⟩ dX12_joinsAll_150 (fun r10 σ10 t10 hw => ?_)
  have hw := hw t10
  obtain ⟨a11, b11, hw⟩ := hw
  refine ml_iast (pc := 153) (N := 5700) X (ml_c241 hn) a11 b11 t10 dX12_joinsAll_153 (fun σ11 g11 => ?_)
  have hw := hw σ11 g11
  obtain ⟨v12, hw⟩ := hw
  obtain ⟨y12, e12⟩ : ∃ y : Int, y = x2 + 1 := ⟨_, rfl⟩
  have hw := hw y12 e12
  rw [← e12] at v12
  refine ml_iinc (pc := 154) X e12 hl 2 rfl (by decide) (lst' := [(2, .int (Int32.ofInt y12)), (0, .ref (base + (215 : Int).toNat)), (1, .int (Int32.ofInt x1))]) rfl dX12_joinsAll_154 (fun ls hl => ?_)
  refine ml_goto (pc := 157) (tgt := 49) X dX12_joinsAll_157 (by decide) ?_
  exact hK49 σ11 x1 y12 h_x1 v12 _ (lv_sub hl [1, 2, 0] rfl) hw
set_option maxRecDepth 100000 in
set_option maxHeartbeats 4000000 in
theorem u_X12_joinsAll_49 {p : Program} {e : Env} {s : State} {m : MethodId} {args : Array Value} {below : List Frame} {meth : Method} {c : Code} {base : Nat} {D : va_G} {cA : Nat → ClassId} {n : Nat} {l : Launch} {Q : ml_St → Prop} {K160 : ml_St → Int → Prop} (X : ml_X p s m c meth args D cA cX12_joinsAll 4 RX12 none) (hn : 256 ≤ n) (hK160 : ∀ (σ : ml_St) (x1 : Int) (h_x1 : I32 x1) (ls : Array Slot), lv_has ls 4 [(0, .ref (base + (215 : Int).toNat)), (1, .int (Int32.ofInt x1))] → K160 σ x1 → ml_V p l e rm_X12_joinsAll s m args below meth c (MQ below (ml_Qv base D cA n Q) args s 0 0 (ml_A base)) base D cA 0 0 n n σ (F0 m 160 ls [])) : ∀ (N : Nat) (σ : ml_St) (x1 : Int) (x2 : Int) (h_x1 : I32 x1) (h_x2 : I32 x2) (ls : Array Slot), lv_has ls 4 [(0, .ref (base + (215 : Int).toNat)), (1, .int (Int32.ofInt x1)), (2, .int (Int32.ofInt x2))] → f_X12_joinsAll_u49 Q K160 N σ x1 x2 → ml_V p l e rm_X12_joinsAll s m args below meth c (MQ below (ml_Qv base D cA n Q) args s 0 0 (ml_A base)) base D cA 0 0 n n σ (F0 m 49 ls []) := by
  intro N
  induction N with
  | zero => intro σ x1 x2 h_x1 h_x2 ls hl hw; exact False.elim hw
  | succ N ih =>
    intro σ x1 x2 h_x1 h_x2 ls hl hw
    unfold f_X12_joinsAll_u49 at hw
    refine ml_iload_n (pc := 49) X hl 2 rfl rfl dX12_joinsAll_49 ?_
    refine ml_aload_n (pc := 50) X hl 0 rfl rfl dX12_joinsAll_50 ?_
    refine gf_X12_364 (pc := 51) X (ml_c215 hn) dX12_joinsAll_51 (fun r1 => ?_)
    have hw := hw r1
    refine ml_icmp_ge (pc := 54) (tgt := 160) X h_x2 r1 dX12_joinsAll_54 (by decide) (fun c2 => ?_) (fun c2 => ?_)
    · have hw := hw.1 c2
      exact hK160 σ x1 h_x1 _ (lv_sub hl [0, 1] rfl) hw
    · have hw := hw.2 c2
      refine ml_aload_n (pc := 57) X hl 0 rfl rfl dX12_joinsAll_57 ?_
      refine ml_bipush (pc := 58) X dX12_joinsAll_58 (by decide) ?_
      refine ml_callvV (pc := 60) (rest := []) X [.int (Int32.ofInt 61)] (by decide) rfl (ml_c215 hn) (c_X12_straight l base D cA n hn σ 61 ⟨by decide, by decide⟩ _ hw) cv_X12_227 ⟨rfl, rfl⟩ ⟨by decide, by decide⟩ rfl rfl hl (Nat.le_of_ble_eq_true rfl) ⟨Nat.zero_le _, Nat.zero_le _⟩ dX12_joinsAll_60 (fun σ3 hw => ?_)
      refine ml_iconst (pc := 63) X dX12_joinsAll_63 ?_
      refine ml_istore_n (pc := 64) X rfl hl (by decide) (lst' := [(3, .int (Int32.ofInt 0)), (0, .ref (base + (215 : Int).toNat)), (1, .int (Int32.ofInt x1)), (2, .int (Int32.ofInt x2))]) rfl dX12_joinsAll_64 (fun ls hl => ?_)
      obtain ⟨N0, hw⟩ := hw
      exact u_X12_joinsAll_65 X hn (fun σ x1 x2 h_x1 h_x2 ls hl hw => u_X12_joinsAll_102 X hn ih σ x1 x2 h_x1 h_x2 ls hl hw) N0 σ3 x1 x2 0 h_x1 h_x2 ⟨by decide, by decide⟩ _ (lv_sub hl [1, 2, 3, 0] rfl) hw
set_option maxRecDepth 100000 in
set_option maxHeartbeats 4000000 in
theorem u_X12_joinsAll_160 {p : Program} {e : Env} {s : State} {m : MethodId} {args : Array Value} {below : List Frame} {meth : Method} {c : Code} {base : Nat} {D : va_G} {cA : Nat → ClassId} {n : Nat} {l : Launch} {Q : ml_St → Prop} {K39 : ml_St → Int → Prop} (X : ml_X p s m c meth args D cA cX12_joinsAll 4 RX12 none) (hn : 256 ≤ n) (hK39 : ∀ (σ : ml_St) (x1 : Int) (h_x1 : I32 x1) (ls : Array Slot), lv_has ls 4 [(0, .ref (base + (215 : Int).toNat)), (1, .int (Int32.ofInt x1))] → K39 σ x1 → ml_V p l e rm_X12_joinsAll s m args below meth c (MQ below (ml_Qv base D cA n Q) args s 0 0 (ml_A base)) base D cA 0 0 n n σ (F0 m 39 ls [])) (σ : ml_St) (x1 : Int) (h_x1 : I32 x1) (ls : Array Slot) (hl : lv_has ls 4 [(0, .ref (base + (215 : Int).toNat)), (1, .int (Int32.ofInt x1))]) (hw : f_X12_joinsAll_u160 Q K39 σ x1) : ml_V p l e rm_X12_joinsAll s m args below meth c (MQ below (ml_Qv base D cA n Q) args s 0 0 (ml_A base)) base D cA 0 0 n n σ (F0 m 160 ls []) := by
  unfold f_X12_joinsAll_u160 at hw
  obtain ⟨v1, hw⟩ := hw
  obtain ⟨y1, e1⟩ : ∃ y : Int, y = x1 + 1 := ⟨_, rfl⟩
  have hw := hw y1 e1
  rw [← e1] at v1
  refine ml_iinc (pc := 160) X e1 hl 1 rfl (by decide) (lst' := [(1, .int (Int32.ofInt y1)), (0, .ref (base + (215 : Int).toNat))]) rfl dX12_joinsAll_160 (fun ls hl => ?_)
  refine ml_goto (pc := 163) (tgt := 39) X dX12_joinsAll_163 (by decide) ?_
  exact hK39 σ y1 v1 _ (lv_sub hl [1, 0] rfl) hw
set_option maxRecDepth 100000 in
set_option maxHeartbeats 4000000 in
theorem u_X12_joinsAll_39 {p : Program} {e : Env} {s : State} {m : MethodId} {args : Array Value} {below : List Frame} {meth : Method} {c : Code} {base : Nat} {D : va_G} {cA : Nat → ClassId} {n : Nat} {l : Launch} {Q : ml_St → Prop} {K166 : ml_St → Prop} (X : ml_X p s m c meth args D cA cX12_joinsAll 4 RX12 none) (hn : 256 ≤ n) (hK166 : ∀ (σ : ml_St) (ls : Array Slot), lv_has ls 4 [] → K166 σ → ml_V p l e rm_X12_joinsAll s m args below meth c (MQ below (ml_Qv base D cA n Q) args s 0 0 (ml_A base)) base D cA 0 0 n n σ (F0 m 166 ls [])) : ∀ (N : Nat) (σ : ml_St) (x1 : Int) (h_x1 : I32 x1) (ls : Array Slot), lv_has ls 4 [(0, .ref (base + (215 : Int).toNat)), (1, .int (Int32.ofInt x1))] → f_X12_joinsAll_u39 Q K166 N σ x1 → ml_V p l e rm_X12_joinsAll s m args below meth c (MQ below (ml_Qv base D cA n Q) args s 0 0 (ml_A base)) base D cA 0 0 n n σ (F0 m 39 ls []) := by
  intro N
  induction N with
  | zero => intro σ x1 h_x1 ls hl hw; exact False.elim hw
  | succ N ih =>
    intro σ x1 h_x1 ls hl hw
    unfold f_X12_joinsAll_u39 at hw
    refine ml_iload_n (pc := 39) X hl 1 rfl rfl dX12_joinsAll_39 ?_
    refine ml_aload_n (pc := 40) X hl 0 rfl rfl dX12_joinsAll_40 ?_
    refine gf_X12_367 (pc := 41) X (ml_c215 hn) dX12_joinsAll_41 (fun r1 => ?_)
    have hw := hw r1
    refine ml_icmp_ge (pc := 44) (tgt := 166) X h_x1 r1 dX12_joinsAll_44 (by decide) (fun c2 => ?_) (fun c2 => ?_)
    · have hw := hw.1 c2
      exact hK166 σ   _ (lv_sub hl [] rfl) hw
    · have hw := hw.2 c2
      refine ml_iconst (pc := 47) X dX12_joinsAll_47 ?_
      refine ml_istore_n (pc := 48) X rfl hl (by decide) (lst' := [(2, .int (Int32.ofInt 0)), (0, .ref (base + (215 : Int).toNat)), (1, .int (Int32.ofInt x1))]) rfl dX12_joinsAll_48 (fun ls hl => ?_)
      obtain ⟨N0, hw⟩ := hw
      exact u_X12_joinsAll_49 X hn (fun σ x1 h_x1 ls hl hw => u_X12_joinsAll_160 X hn ih σ x1 h_x1 ls hl hw) N0 σ x1 0 h_x1 ⟨by decide, by decide⟩ _ (lv_sub hl [1, 2, 0] rfl) hw
set_option maxRecDepth 100000 in
set_option maxHeartbeats 4000000 in
theorem u_X12_joinsAll_166 {p : Program} {e : Env} {s : State} {m : MethodId} {args : Array Value} {below : List Frame} {meth : Method} {c : Code} {base : Nat} {D : va_G} {cA : Nat → ClassId} {n : Nat} {l : Launch} {Q : ml_St → Prop} (X : ml_X p s m c meth args D cA cX12_joinsAll 4 RX12 none) (hn : 256 ≤ n) (σ : ml_St) (ls : Array Slot) (hl : lv_has ls 4 []) (hw : f_X12_joinsAll_u166 Q σ) : ml_V p l e rm_X12_joinsAll s m args below meth c (MQ below (ml_Qv base D cA n Q) args s 0 0 (ml_A base)) base D cA 0 0 n n σ (F0 m 166 ls []) := by
  unfold f_X12_joinsAll_u166 at hw
  exact ml_vret (pc := 166) X hw dX12_joinsAll_166
set_option maxRecDepth 100000 in
set_option maxHeartbeats 4000000 in
theorem u_X12_joinsAll_37 {p : Program} {e : Env} {s : State} {m : MethodId} {args : Array Value} {below : List Frame} {meth : Method} {c : Code} {base : Nat} {D : va_G} {cA : Nat → ClassId} {n : Nat} {l : Launch} {Q : ml_St → Prop} (X : ml_X p s m c meth args D cA cX12_joinsAll 4 RX12 none) (hn : 256 ≤ n) (σ : ml_St) (ls : Array Slot) (hl : lv_has ls 4 [(0, .ref (base + (215 : Int).toNat))]) (hw : f_X12_joinsAll_u37 Q σ) : ml_V p l e rm_X12_joinsAll s m args below meth c (MQ below (ml_Qv base D cA n Q) args s 0 0 (ml_A base)) base D cA 0 0 n n σ (F0 m 37 ls []) := by
  unfold f_X12_joinsAll_u37 at hw
  refine ml_iconst (pc := 37) X dX12_joinsAll_37 ?_
  refine ml_istore_n (pc := 38) X rfl hl (by decide) (lst' := [(1, .int (Int32.ofInt 0)), (0, .ref (base + (215 : Int).toNat))]) rfl dX12_joinsAll_38 (fun ls hl => ?_)
  obtain ⟨N0, hw⟩ := hw
  exact u_X12_joinsAll_39 X hn (fun σ   ls hl hw => u_X12_joinsAll_166 X hn σ   ls hl hw) N0 σ 0 ⟨by decide, by decide⟩ _ (lv_sub hl [1, 0] rfl) hw
set_option maxRecDepth 100000 in
set_option maxHeartbeats 4000000 in
theorem u_X12_joinsAll_0 {p : Program} {e : Env} {s : State} {m : MethodId} {args : Array Value} {below : List Frame} {meth : Method} {c : Code} {base : Nat} {D : va_G} {cA : Nat → ClassId} {n : Nat} {l : Launch} {Q : ml_St → Prop} (X : ml_X p s m c meth args D cA cX12_joinsAll 4 RX12 none) (hn : 256 ≤ n) (σ : ml_St) (ls : Array Slot) (hl : lv_has ls 4 [(0, .ref (base + (215 : Int).toNat))]) (hw : f_X12_joinsAll_u0 Q σ) : ml_V p l e rm_X12_joinsAll s m args below meth c (MQ below (ml_Qv base D cA n Q) args s 0 0 (ml_A base)) base D cA 0 0 n n σ (F0 m 0 ls []) := by
  unfold f_X12_joinsAll_u0 at hw
  refine ml_aload_n (pc := 0) X hl 0 rfl rfl dX12_joinsAll_0 ?_
  refine ml_iconst (pc := 1) X dX12_joinsAll_1 ?_
  refine pf_X12_367 (pc := 2) X (ml_c215 hn) ⟨by decide, by decide⟩ dX12_joinsAll_2 (fun σ1 g1 => ?_)
  have hw := hw σ1 g1
  refine ml_iconst (pc := 5) X dX12_joinsAll_5 ?_
  refine ml_istore_n (pc := 6) X rfl hl (by decide) (lst' := [(1, .int (Int32.ofInt 0)), (0, .ref (base + (215 : Int).toNat))]) rfl dX12_joinsAll_6 (fun ls hl => ?_)
  obtain ⟨N0, hw⟩ := hw
  exact u_X12_joinsAll_7 X hn (fun σ   ls hl hw => u_X12_joinsAll_37 X hn σ   ls hl hw) N0 σ1 0 ⟨by decide, by decide⟩ _ (lv_sub hl [1, 0] rfl) hw
set_option maxRecDepth 100000 in
theorem c_X12_joinsAll (l : Launch) (base : Nat) (D : va_G) (cA : Nat → ClassId) (n : Nat) (hn : 256 ≤ n) (σ : ml_St) (Q : ml_St → Prop) (hw : f_X12_joinsAll σ Q) : Met l yX12_joinsAll (Cond.code yX12_joinsAll cX12_joinsAll 4 none :: ml_T) rm_X12_joinsAll (va_Pc [.ref (base + (215 : Int).toNat)] (ml_U base D cA n σ)) (ml_Qv base D cA n Q) 0 0 (ml_A base) := by
  refine Met.ofW (cc := cX12_joinsAll) (maxL := 4) (ret := none) (by decide) rfl ?_
  intro p e s m args below meth c s₁ B hml hv
  obtain ⟨rfl, hP, hK, hok, hro⟩ := hv
  have X : ml_X p s m c meth _ D cA cX12_joinsAll 4 RX12 none := ⟨B.exec, B.bytes, hml, findClass_of_methodNamed B.named, fun w hw => atoms_spec (ws := Cond.code yX12_joinsAll cX12_joinsAll 4 none :: ml_T) B.pre w (List.mem_cons_of_mem _ hw), hK, B.notSynchronized, B.returns⟩
  have hl := lv_entry [.ref (base + (215 : Int).toNat)] (n := 4) (Nat.le_of_ble_eq_true rfl)
  rw [lg_entry_eq]
  generalize (lg_sl [.ref (base + (215 : Int).toNat)] ++ List.replicate (4 - (lg_sl [.ref (base + (215 : Int).toNat)]).length) Slot.unset).toArray = ls at hl ⊢
  have hl : lv_has ls 4 [(0, .ref (base + (215 : Int).toNat))] := hl
  unfold f_X12_joinsAll at hw
  exact u_X12_joinsAll_0 X hn σ  _ (lv_sub hl [0] rfl) hw s.heap [] hP va_S.rf hok hro
